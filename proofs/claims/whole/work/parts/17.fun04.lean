/-! methods as functions, printed with their proofs -/
-- KeptAnswers.may(II)I 
def fX_may_K (rv : Option Value) (μf : xM) : (Int32 × xM) → Prop := fun o => rv = some (.int o.1) ∧ μf = o.2
noncomputable def fX_may_16  (v0 : Nat) (μ : xM) : Option (Int32 × xM) := (fX_refuse v0 (xc (-1)) μ).bind fun r1 => some ((r1.1, r1.2))
theorem fX_may_16_ok {d : Nat} {v0 : Nat} {μ : xM} {rv : Option Value} {μf : xM} {out : Int32 × xM} (h : fX_may_16 v0 μ = some out) (hK : fX_may_K rv μf out) : xRun (d + 12) 20 16 [some (.ref v0), none, none, none] [] μ rv μf := by
  unfold fX_may_16 at h
  refine xr_go 2 (pc' := 18) (lo' := [some (.ref v0), none, none, none]) (st' := [.int (xc (-1)), .ref v0]) (μ' := μ) rfl ?_
  obtain ⟨r1, hr1, h⟩ := Option.bind_eq_some_iff.mp h
  refine xr_callV (j := 37) (d' := (d + 11)) (rv1 := some (.int r1.1)) (μ1 := r1.2) (rest := []) (As := [.int (xc (-1))]) rfl rfl rfl rfl (Nat.le_of_ble_eq_true rfl) (fX_refuse_kd hr1) rfl (by exact (fX_refuse_ok (d := d + (11)) hr1)) ?_
  have ho := Option.some.inj h
  subst ho
  obtain ⟨rfl, rfl⟩ := hK
  exact xr_ret (rv := some (.int r1.1)) rfl rfl (Or.inl rfl)
noncomputable def fX_may_0  (v0 : Nat) (v1 : Int32) (v2 : Int32) (μ : xM) : Option (Int32 × xM) := (fX_isAsk v0 v1 μ).bind fun r2 => if r2 = 0 then (fX_may_16 v0 μ) else ((fX_areViews v0 v2 μ).bind fun r3 => if r3 = 0 then (fX_may_16 v0 μ) else ((fX_seenThrough v0 v1 μ).bind fun r4 => (ldF r4.2 r4.1 6 3).bind fun x5 => if x5 = 0 then ((fS_isCoveredBy r4.1 v2 r4.2).bind fun r6 => if r6 = 0 then (some ((xc 0, r4.2))) else (some ((xc 1, r4.2)))) else ((fX_refuse v0 (xc (-5)) r4.2).bind fun r7 => some ((r7.1, r7.2)))))
theorem fX_may_0_ok {d : Nat} {v0 : Nat} {v1 : Int32} {v2 : Int32} {μ : xM} {rv : Option Value} {μf : xM} {out : Int32 × xM} (h : fX_may_0 v0 v1 v2 μ = some out) (hK : fX_may_K rv μf out) : xRun (d + 12) 20 0 [some (.ref v0), some (.int v1), some (.int v2), none] [] μ rv μf := by
  unfold fX_may_0 at h
  refine xr_go 2 (pc' := 2) (lo' := [some (.ref v0), some (.int v1), some (.int v2), none]) (st' := [.int v1, .ref v0]) (μ' := μ) rfl ?_
  obtain ⟨r2, hr2, h⟩ := Option.bind_eq_some_iff.mp h
  refine xr_callV (j := 39) (d' := (d + 11)) (rv1 := some (.int r2)) (μ1 := μ) (rest := []) (As := [.int v1]) rfl rfl rfl rfl (Nat.le_of_ble_eq_true rfl) (fX_isAsk_kd hr2) rfl (by exact (fX_isAsk_ok (d := d + (11)) hr2)) ?_
  refine xr_ifc (pct := 16) rfl rfl rfl (fun hc => ?_) (fun hc => ?_)
  · replace h := (if_pos (of_decide_eq_true hc)).symm.trans h
    refine xr_forget (lo := [some (.ref v0), none, none, none]) ⟨rfl, trivial⟩ ?_
    exact fX_may_16_ok h hK
  · replace h := (if_neg (of_decide_eq_false hc)).symm.trans h
    refine xr_go 2 (pc' := 10) (lo' := [some (.ref v0), some (.int v1), some (.int v2), none]) (st' := [.int v2, .ref v0]) (μ' := μ) rfl ?_
    obtain ⟨r3, hr3, h⟩ := Option.bind_eq_some_iff.mp h
    refine xr_callV (j := 41) (d' := (d + 11)) (rv1 := some (.int r3)) (μ1 := μ) (rest := []) (As := [.int v2]) rfl rfl rfl rfl (Nat.le_of_ble_eq_true rfl) (fX_areViews_kd hr3) rfl (by exact (fX_areViews_ok (d := d + (11)) hr3)) ?_
    refine xr_ifc (pct := 22) rfl rfl rfl (fun hc => ?_) (fun hc => ?_)
    · replace h := (if_neg (of_decide_eq_true hc)).symm.trans h
      refine xr_go 2 (pc' := 24) (lo' := [some (.ref v0), some (.int v1), some (.int v2), none]) (st' := [.int v1, .ref v0]) (μ' := μ) rfl ?_
      obtain ⟨r4, hr4, h⟩ := Option.bind_eq_some_iff.mp h
      refine xr_callV (j := 48) (d' := (d + 11)) (rv1 := some (.ref r4.1)) (μ1 := r4.2) (rest := []) (As := [.int v1]) rfl rfl rfl rfl (Nat.le_of_ble_eq_true rfl) (fX_seenThrough_kd hr4) rfl (by exact (fX_seenThrough_ok (d := d + (0)) hr4)) ?_
      refine xr_go 2 (pc' := 29) (lo' := [some (.ref v0), some (.int v1), some (.int v2), some (.ref r4.1)]) (st' := [.ref r4.1]) (μ' := r4.2) rfl ?_
      obtain ⟨x5, hx5, h⟩ := Option.bind_eq_some_iff.mp h
      refine xr_opI (pc' := 32) (lo' := [some (.ref v0), some (.int v1), some (.int v2), some (.ref r4.1)]) (st' := []) (o := ldF r4.2 r4.1 6 3) rfl hx5 ?_
      refine xr_ifc (pct := 42) rfl rfl rfl (fun hc => ?_) (fun hc => ?_)
      · replace h := (if_pos (of_decide_eq_true hc)).symm.trans h
        refine xr_go 2 (pc' := 44) (lo' := [some (.ref v0), some (.int v1), some (.int v2), some (.ref r4.1)]) (st' := [.int v2, .ref r4.1]) (μ' := r4.2) rfl ?_
        obtain ⟨r6, hr6, h⟩ := Option.bind_eq_some_iff.mp h
        refine xr_callV (j := 105) (d' := (d + 11)) (rv1 := some (.int r6)) (μ1 := r4.2) (rest := []) (As := [.int v2]) rfl rfl rfl rfl (Nat.le_of_ble_eq_true rfl) (fS_isCoveredBy_kd hr6) rfl (by exact (fS_isCoveredBy_ok (d := d + (11)) hr6)) ?_
        refine xr_ifc (pct := 54) rfl rfl rfl (fun hc => ?_) (fun hc => ?_)
        · replace h := (if_pos (of_decide_eq_true hc)).symm.trans h
          refine xr_go 1 (pc' := 55) (lo' := [some (.ref v0), some (.int v1), some (.int v2), some (.ref r4.1)]) (st' := [.int (xc 0)]) (μ' := r4.2) rfl ?_
          have ho := Option.some.inj h
          subst ho
          obtain ⟨rfl, rfl⟩ := hK
          exact xr_ret (rv := some (.int (xc 0))) rfl rfl (Or.inl rfl)
        · replace h := (if_neg (of_decide_eq_false hc)).symm.trans h
          refine xr_go 2 (pc' := 55) (lo' := [some (.ref v0), some (.int v1), some (.int v2), some (.ref r4.1)]) (st' := [.int (xc 1)]) (μ' := r4.2) rfl ?_
          have ho := Option.some.inj h
          subst ho
          obtain ⟨rfl, rfl⟩ := hK
          exact xr_ret (rv := some (.int (xc 1))) rfl rfl (Or.inl rfl)
      · replace h := (if_neg (of_decide_eq_false hc)).symm.trans h
        refine xr_go 2 (pc' := 38) (lo' := [some (.ref v0), some (.int v1), some (.int v2), some (.ref r4.1)]) (st' := [.int (xc (-5)), .ref v0]) (μ' := r4.2) rfl ?_
        obtain ⟨r7, hr7, h⟩ := Option.bind_eq_some_iff.mp h
        refine xr_callV (j := 37) (d' := (d + 11)) (rv1 := some (.int r7.1)) (μ1 := r7.2) (rest := []) (As := [.int (xc (-5))]) rfl rfl rfl rfl (Nat.le_of_ble_eq_true rfl) (fX_refuse_kd hr7) rfl (by exact (fX_refuse_ok (d := d + (11)) hr7)) ?_
        have ho := Option.some.inj h
        subst ho
        obtain ⟨rfl, rfl⟩ := hK
        exact xr_ret (rv := some (.int r7.1)) rfl rfl (Or.inl rfl)
    · replace h := (if_pos (Decidable.of_not_not (of_decide_eq_false hc))).symm.trans h
      refine xr_forget (lo := [some (.ref v0), none, none, none]) ⟨rfl, trivial⟩ ?_
      exact fX_may_16_ok h hK
noncomputable def fX_may (a0 : Nat) (a1 : Int32) (a2 : Int32) (μ : xM) : Option (Int32 × xM) := xgd μ a0 0 (fX_may_0 a0 a1 a2 μ)
theorem fX_may_kd {a0 : Nat} {a1 : Int32} {a2 : Int32} {μ : xM} {o : Int32 × xM} (h : fX_may a0 a1 a2 μ = some o) : (xK μ a0).1 = 10 + 0 := (xgd_some h).1
theorem fX_may_ok {d : Nat} {a0 : Nat} {a1 : Int32} {a2 : Int32} {μ : xM} {o : Int32 × xM} (h : fX_may a0 a1 a2 μ = some o) : xRun (d + 12) 20 0 [some (.ref a0), some (.int a1), some (.int a2), none] [] μ (some (.int o.1)) o.2 :=
  xr_forget (lo := [some (.ref a0), some (.int a1), some (.int a2), none]) (⟨rfl, rfl, rfl, trivial⟩) (fX_may_0_ok (d := d) (xgd_some h).2 (show fX_may_K _ _ o from ⟨rfl, rfl⟩))
-- KeptAnswersModel.areViews(I)Z 
def fM_areViews_K (μ : xM) (rv : Option Value) (μf : xM) : (Int32) → Prop := fun o => rv = some (.int o) ∧ μf = μ
noncomputable def fM_areViews_0  (v0 : Nat) (v1 : Int32) (μ : xM) : Option (Int32) := (ldF μ v0 9 9).bind fun x1 => (fM_isIn (Int32.toInt64 v1) (Int64.ofNat 0) (Int32.toInt64 (((xc 1) <<< (x1 &&& 31)) - (xc 1))) μ).bind fun r2 => if r2 = 0 ∨ r2 = 1 then some r2 else none
theorem fM_areViews_0_ok {d : Nat} {v0 : Nat} {v1 : Int32} {μ : xM} {rv : Option Value} {μf : xM} {out : Int32} (h : fM_areViews_0 v0 v1 μ = some out) (hK : fM_areViews_K μ rv μf out) : xRun (d + 1) 194 0 [some (.ref v0), some (.int v1)] [] μ rv μf := by
  unfold fM_areViews_0 at h
  refine xr_go 5 (pc' := 5) (lo' := [some (.ref v0), some (.int v1)]) (st' := [.ref v0, .int (xc 1), .long (Int64.ofNat 0), .long (Int32.toInt64 v1)]) (μ' := μ) rfl ?_
  obtain ⟨x1, hx1, h⟩ := Option.bind_eq_some_iff.mp h
  refine xr_opI (pc' := 8) (lo' := [some (.ref v0), some (.int v1)]) (st' := [.int (xc 1), .long (Int64.ofNat 0), .long (Int32.toInt64 v1)]) (o := ldF μ v0 9 9) rfl hx1 ?_
  refine xr_go 4 (pc' := 12) (lo' := [some (.ref v0), some (.int v1)]) (st' := [.long (Int32.toInt64 (((xc 1) <<< (x1 &&& 31)) - (xc 1))), .long (Int64.ofNat 0), .long (Int32.toInt64 v1)]) (μ' := μ) rfl ?_
  obtain ⟨r2, hr2, h⟩ := Option.bind_eq_some_iff.mp h
  refine xr_callS (j := 137) (d' := (d + 0)) (rv1 := some (.int r2)) (μ1 := μ) (rest := []) (As := [.long (Int32.toInt64 v1), .long (Int64.ofNat 0), .long (Int32.toInt64 (((xc 1) <<< (x1 &&& 31)) - (xc 1)))]) rfl rfl rfl rfl (Nat.le_of_ble_eq_true rfl) rfl (by exact (fM_isIn_ok (d := d + (0)) hr2)) ?_
  obtain ⟨hb, h⟩ := xifO h
  have ho := Option.some.inj h
  subst ho
  obtain ⟨rfl, rfl⟩ := hK
  exact xr_ret (rv := some (.int r2)) rfl rfl (Or.inr ⟨rfl, hb⟩)
noncomputable def fM_areViews (a0 : Nat) (a1 : Int32) (μ : xM) : Option (Int32) := xgd μ a0 9 (fM_areViews_0 a0 a1 μ)
theorem fM_areViews_kd {a0 : Nat} {a1 : Int32} {μ : xM} {o : Int32} (h : fM_areViews a0 a1 μ = some o) : (xK μ a0).1 = 10 + 9 := (xgd_some h).1
theorem fM_areViews_ok {d : Nat} {a0 : Nat} {a1 : Int32} {μ : xM} {o : Int32} (h : fM_areViews a0 a1 μ = some o) : xRun (d + 1) 194 0 [some (.ref a0), some (.int a1)] [] μ (some (.int o)) μ :=
  xr_forget (lo := [some (.ref a0), some (.int a1)]) (⟨rfl, rfl, trivial⟩) (fM_areViews_0_ok (d := d) (xgd_some h).2 (show fM_areViews_K μ _ _ o from ⟨rfl, rfl⟩))
-- KeptAnswersModel.viewsOf(I)I 
def fM_viewsOf_K (μ : xM) (rv : Option Value) (μf : xM) : (Int32) → Prop := fun o => rv = some (.int o) ∧ μf = μ
def fM_viewsOf_K4 (v0 : Nat) (v1 : Int32) (μ : xM) (d : Nat) (rv : Option Value) (μf : xM) : ((Int32 × Int32) ⊕ (Int32)) → Prop := Sum.elim (fun s : Int32 × Int32 => xRun (d + 0) 189 4 [some (.ref v0), some (.int v1), some (.int s.1), some (.int s.2)] [] μ rv μf) (fM_viewsOf_K μ rv μf)
noncomputable def fM_viewsOf_42  (v2 : Int32) (μ : xM) : Option (Int32) := some v2
theorem fM_viewsOf_42_ok {d : Nat} {v2 : Int32} {μ : xM} {rv : Option Value} {μf : xM} {out : Int32} (h : fM_viewsOf_42 v2 μ = some out) (hK : fM_viewsOf_K μ rv μf out) : xRun (d + 0) 189 42 [none, none, some (.int v2), none] [] μ rv μf := by
  unfold fM_viewsOf_42 at h
  refine xr_go 1 (pc' := 43) (lo' := [none, none, some (.int v2), none]) (st' := [.int v2]) (μ' := μ) rfl ?_
  have ho := Option.some.inj h
  subst ho
  obtain ⟨rfl, rfl⟩ := hK
  exact xr_ret (rv := some (.int v2)) rfl rfl (Or.inl rfl)
noncomputable def fM_viewsOf_34  (v0 : Nat) (v1 : Int32) (v3 : Int32) (s0 : Int32) (s1 : Int32) (μ : xM) : Option ((Int32 × Int32) ⊕ (Int32)) := some (.inl ((s1 ||| s0, v3 + xc 1)))
theorem fM_viewsOf_34_ok {d : Nat} {v0 : Nat} {v1 : Int32} {v3 : Int32} {s0 : Int32} {s1 : Int32} {μ : xM} {rv : Option Value} {μf : xM} {out : (Int32 × Int32) ⊕ (Int32)} (h : fM_viewsOf_34 v0 v1 v3 s0 s1 μ = some out) (hK : fM_viewsOf_K4 v0 v1 μ d rv μf out) : xRun (d + 0) 189 34 [some (.ref v0), some (.int v1), none, some (.int v3)] [.int s0, .int s1] μ rv μf := by
  unfold fM_viewsOf_34 at h
  refine xr_go 4 (pc' := 4) (lo' := [some (.ref v0), some (.int v1), some (.int (s1 ||| s0)), some (.int (v3 + xc 1))]) (st' := []) (μ' := μ) rfl ?_
  refine xr_forget (lo := [some (.ref v0), some (.int v1), some (.int (s1 ||| s0)), some (.int (v3 + xc 1))]) ⟨rfl, rfl, rfl, rfl, trivial⟩ ?_
  have ho := Option.some.inj h
  subst ho
  exact hK
noncomputable def fM_viewsOf_L4  (v0 : Nat) (v1 : Int32) (v2 : Int32) (v3 : Int32) (μ : xM) : Option ((Int32 × Int32) ⊕ (Int32)) := (ldF μ v0 9 39).bind fun x1 => if x1 ≤ v3 then ((fM_viewsOf_42 v2 μ).map (fun o => .inr o)) else (if ((v1 >>> (v3 &&& 31)) &&& (xc 1)) = (xc 1) then ((ldFR μ v0 9 41).bind fun x2 => (ldA μ x2 v3).bind fun x3 => fM_viewsOf_34 v0 v1 v3 ((xc 1) <<< (x3 &&& 31)) v2 μ) else (fM_viewsOf_34 v0 v1 v3 (xc 0) v2 μ))
theorem fM_viewsOf_L4_ok {d : Nat} {v0 : Nat} {v1 : Int32} {v2 : Int32} {v3 : Int32} {μ : xM} {rv : Option Value} {μf : xM} {out : (Int32 × Int32) ⊕ (Int32)} (h : fM_viewsOf_L4 v0 v1 v2 v3 μ = some out) (hK : fM_viewsOf_K4 v0 v1 μ d rv μf out) : xRun (d + 0) 189 4 [some (.ref v0), some (.int v1), some (.int v2), some (.int v3)] [] μ rv μf := by
  unfold fM_viewsOf_L4 at h
  refine xr_go 2 (pc' := 6) (lo' := [some (.ref v0), some (.int v1), some (.int v2), some (.int v3)]) (st' := [.ref v0, .int v3]) (μ' := μ) rfl ?_
  obtain ⟨x1, hx1, h⟩ := Option.bind_eq_some_iff.mp h
  refine xr_opI (pc' := 9) (lo' := [some (.ref v0), some (.int v1), some (.int v2), some (.int v3)]) (st' := [.int v3]) (o := ldF μ v0 9 39) rfl hx1 ?_
  refine xr_icmp (pct := 42) rfl rfl rfl (fun hc => ?_) (fun hc => ?_)
  · replace h := (if_pos (of_decide_eq_true hc)).symm.trans h
    refine xr_forget (lo := [none, none, some (.int v2), none]) ⟨rfl, trivial⟩ ?_
    obtain ⟨o, h2, rfl⟩ := Option.map_eq_some_iff.mp h
    exact fM_viewsOf_42_ok h2 hK
  · replace h := (if_neg (of_decide_eq_false hc)).symm.trans h
    refine xr_go 7 (pc' := 19) (lo' := [some (.ref v0), some (.int v1), some (.int v2), some (.int v3)]) (st' := [.int (xc 1), .int ((v1 >>> (v3 &&& 31)) &&& (xc 1)), .int v2]) (μ' := μ) rfl ?_
    refine xr_icmp (pct := 33) rfl rfl rfl (fun hc => ?_) (fun hc => ?_)
    · replace h := (if_neg (of_decide_eq_true hc)).symm.trans h
      refine xr_go 1 (pc' := 34) (lo' := [some (.ref v0), some (.int v1), some (.int v2), some (.int v3)]) (st' := [.int (xc 0), .int v2]) (μ' := μ) rfl ?_
      refine xr_forget (lo := [some (.ref v0), some (.int v1), none, some (.int v3)]) ⟨rfl, rfl, rfl, trivial⟩ ?_
      exact fM_viewsOf_34_ok h hK
    · replace h := (if_pos (Decidable.of_not_not (of_decide_eq_false hc))).symm.trans h
      refine xr_go 2 (pc' := 24) (lo' := [some (.ref v0), some (.int v1), some (.int v2), some (.int v3)]) (st' := [.ref v0, .int (xc 1), .int v2]) (μ' := μ) rfl ?_
      obtain ⟨x2, hx2, h⟩ := Option.bind_eq_some_iff.mp h
      refine xr_opA (pc' := 27) (lo' := [some (.ref v0), some (.int v1), some (.int v2), some (.int v3)]) (st' := [.int (xc 1), .int v2]) (o := ldFR μ v0 9 41) rfl hx2 ?_
      refine xr_go 1 (pc' := 28) (lo' := [some (.ref v0), some (.int v1), some (.int v2), some (.int v3)]) (st' := [.int v3, .ref x2, .int (xc 1), .int v2]) (μ' := μ) rfl ?_
      obtain ⟨x3, hx3, h⟩ := Option.bind_eq_some_iff.mp h
      refine xr_opI (pc' := 29) (lo' := [some (.ref v0), some (.int v1), some (.int v2), some (.int v3)]) (st' := [.int (xc 1), .int v2]) (o := ldA μ x2 v3) rfl hx3 ?_
      refine xr_go 2 (pc' := 34) (lo' := [some (.ref v0), some (.int v1), some (.int v2), some (.int v3)]) (st' := [.int ((xc 1) <<< (x3 &&& 31)), .int v2]) (μ' := μ) rfl ?_
      refine xr_forget (lo := [some (.ref v0), some (.int v1), none, some (.int v3)]) ⟨rfl, rfl, rfl, trivial⟩ ?_
      exact fM_viewsOf_34_ok h hK
theorem fM_viewsOf_L4_lp {d : Nat} {v0 : Nat} {v1 : Int32} {v2 : Int32} {v3 : Int32} {μ : xM} {rv : Option Value} {μf : xM} {out : Int32} (h : xwh (fun s : Int32 × Int32 => fM_viewsOf_L4 v0 v1 s.1 s.2 μ) (v2, v3) = some out) (hK : fM_viewsOf_K μ rv μf out) : xRun (d + 0) 189 4 [some (.ref v0), some (.int v1), some (.int v2), some (.int v3)] [] μ rv μf :=
  xwh_ind (Rh := fun s : Int32 × Int32 => xRun (d + 0) 189 4 [some (.ref v0), some (.int v1), some (.int s.1), some (.int s.2)] [] μ rv μf) (Co := fM_viewsOf_K μ rv μf) (fun s o hb hk => fM_viewsOf_L4_ok hb hk) h hK
noncomputable def fM_viewsOf_0  (v0 : Nat) (v1 : Int32) (μ : xM) : Option (Int32) := xwh (fun s : Int32 × Int32 => fM_viewsOf_L4 v0 v1 s.1 s.2 μ) (xc 0, xc 0)
theorem fM_viewsOf_0_ok {d : Nat} {v0 : Nat} {v1 : Int32} {μ : xM} {rv : Option Value} {μf : xM} {out : Int32} (h : fM_viewsOf_0 v0 v1 μ = some out) (hK : fM_viewsOf_K μ rv μf out) : xRun (d + 0) 189 0 [some (.ref v0), some (.int v1), none, none] [] μ rv μf := by
  unfold fM_viewsOf_0 at h
  refine xr_go 4 (pc' := 4) (lo' := [some (.ref v0), some (.int v1), some (.int (xc 0)), some (.int (xc 0))]) (st' := []) (μ' := μ) rfl ?_
  refine xr_forget (lo := [some (.ref v0), some (.int v1), some (.int (xc 0)), some (.int (xc 0))]) ⟨rfl, rfl, rfl, rfl, trivial⟩ ?_
  exact fM_viewsOf_L4_lp h hK
noncomputable def fM_viewsOf (a0 : Nat) (a1 : Int32) (μ : xM) : Option (Int32) := xgd μ a0 9 (fM_viewsOf_0 a0 a1 μ)
theorem fM_viewsOf_kd {a0 : Nat} {a1 : Int32} {μ : xM} {o : Int32} (h : fM_viewsOf a0 a1 μ = some o) : (xK μ a0).1 = 10 + 9 := (xgd_some h).1
theorem fM_viewsOf_ok {d : Nat} {a0 : Nat} {a1 : Int32} {μ : xM} {o : Int32} (h : fM_viewsOf a0 a1 μ = some o) : xRun (d + 0) 189 0 [some (.ref a0), some (.int a1), none, none] [] μ (some (.int o)) μ :=
  xr_forget (lo := [some (.ref a0), some (.int a1), none, none]) (⟨rfl, rfl, trivial⟩) (fM_viewsOf_0_ok (d := d) (xgd_some h).2 (show fM_viewsOf_K μ _ _ o from ⟨rfl, rfl⟩))
-- KeptAnswersModel.isCovered(I)Z 
def fM_isCovered_K (μ : xM) (rv : Option Value) (μf : xM) : (Int32) → Prop := fun o => rv = some (.int o) ∧ μf = μ
def fM_isCovered_K4 (v0 : Nat) (v1 : Int32) (μ : xM) (d : Nat) (rv : Option Value) (μf : xM) : ((Int32 × Int32) ⊕ (Int32)) → Prop := Sum.elim (fun s : Int32 × Int32 => xRun (d + 1) 193 4 [some (.ref v0), some (.int v1), some (.int s.1), some (.int s.2)] [] μ rv μf) (fM_isCovered_K μ rv μf)
noncomputable def fM_isCovered_45  (v2 : Int32) (μ : xM) : Option (Int32) := if v2 = 0 ∨ v2 = 1 then some v2 else none
theorem fM_isCovered_45_ok {d : Nat} {v2 : Int32} {μ : xM} {rv : Option Value} {μf : xM} {out : Int32} (h : fM_isCovered_45 v2 μ = some out) (hK : fM_isCovered_K μ rv μf out) : xRun (d + 1) 193 45 [none, none, some (.int v2), none] [] μ rv μf := by
  unfold fM_isCovered_45 at h
  refine xr_go 1 (pc' := 46) (lo' := [none, none, some (.int v2), none]) (st' := [.int v2]) (μ' := μ) rfl ?_
  obtain ⟨hb, h⟩ := xifO h
  have ho := Option.some.inj h
  subst ho
  obtain ⟨rfl, rfl⟩ := hK
  exact xr_ret (rv := some (.int v2)) rfl rfl (Or.inr ⟨rfl, hb⟩)
noncomputable def fM_isCovered_38  (v0 : Nat) (v1 : Int32) (v3 : Int32) (s0 : Int32) (μ : xM) : Option ((Int32 × Int32) ⊕ (Int32)) := some (.inl ((s0, v3 + xc 1)))
theorem fM_isCovered_38_ok {d : Nat} {v0 : Nat} {v1 : Int32} {v3 : Int32} {s0 : Int32} {μ : xM} {rv : Option Value} {μf : xM} {out : (Int32 × Int32) ⊕ (Int32)} (h : fM_isCovered_38 v0 v1 v3 s0 μ = some out) (hK : fM_isCovered_K4 v0 v1 μ d rv μf out) : xRun (d + 1) 193 38 [some (.ref v0), some (.int v1), none, some (.int v3)] [.int s0] μ rv μf := by
  unfold fM_isCovered_38 at h
  refine xr_go 3 (pc' := 4) (lo' := [some (.ref v0), some (.int v1), some (.int s0), some (.int (v3 + xc 1))]) (st' := []) (μ' := μ) rfl ?_
  refine xr_forget (lo := [some (.ref v0), some (.int v1), some (.int s0), some (.int (v3 + xc 1))]) ⟨rfl, rfl, rfl, rfl, trivial⟩ ?_
  have ho := Option.some.inj h
  subst ho
  exact hK
noncomputable def fM_isCovered_33  (v0 : Nat) (v1 : Int32) (v3 : Int32) (μ : xM) : Option ((Int32 × Int32) ⊕ (Int32)) := fM_isCovered_38 v0 v1 v3 (xc 1) μ
theorem fM_isCovered_33_ok {d : Nat} {v0 : Nat} {v1 : Int32} {v3 : Int32} {μ : xM} {rv : Option Value} {μf : xM} {out : (Int32 × Int32) ⊕ (Int32)} (h : fM_isCovered_33 v0 v1 v3 μ = some out) (hK : fM_isCovered_K4 v0 v1 μ d rv μf out) : xRun (d + 1) 193 33 [some (.ref v0), some (.int v1), none, some (.int v3)] [] μ rv μf := by
  unfold fM_isCovered_33 at h
  refine xr_go 2 (pc' := 38) (lo' := [some (.ref v0), some (.int v1), none, some (.int v3)]) (st' := [.int (xc 1)]) (μ' := μ) rfl ?_
  refine xr_forget (lo := [some (.ref v0), some (.int v1), none, some (.int v3)]) ⟨rfl, rfl, rfl, trivial⟩ ?_
  exact fM_isCovered_38_ok h hK
noncomputable def fM_isCovered_L4  (v0 : Nat) (v1 : Int32) (v2 : Int32) (v3 : Int32) (μ : xM) : Option ((Int32 × Int32) ⊕ (Int32)) := (ldF μ v0 9 52).bind fun x1 => if x1 ≤ v3 then ((fM_isCovered_45 v2 μ).map (fun o => .inr o)) else (if v2 = 0 then ((ldFR μ v0 9 53).bind fun x2 => (ldA μ x2 v3).bind fun x3 => (fM_viewsOf v0 x3 μ).bind fun r4 => if (r4 &&& (v1 ^^^ (xc (-1)))) = 0 then (fM_isCovered_33 v0 v1 v3 μ) else (fM_isCovered_38 v0 v1 v3 (xc 0) μ)) else (fM_isCovered_33 v0 v1 v3 μ))
theorem fM_isCovered_L4_ok {d : Nat} {v0 : Nat} {v1 : Int32} {v2 : Int32} {v3 : Int32} {μ : xM} {rv : Option Value} {μf : xM} {out : (Int32 × Int32) ⊕ (Int32)} (h : fM_isCovered_L4 v0 v1 v2 v3 μ = some out) (hK : fM_isCovered_K4 v0 v1 μ d rv μf out) : xRun (d + 1) 193 4 [some (.ref v0), some (.int v1), some (.int v2), some (.int v3)] [] μ rv μf := by
  unfold fM_isCovered_L4 at h
  refine xr_go 2 (pc' := 6) (lo' := [some (.ref v0), some (.int v1), some (.int v2), some (.int v3)]) (st' := [.ref v0, .int v3]) (μ' := μ) rfl ?_
  obtain ⟨x1, hx1, h⟩ := Option.bind_eq_some_iff.mp h
  refine xr_opI (pc' := 9) (lo' := [some (.ref v0), some (.int v1), some (.int v2), some (.int v3)]) (st' := [.int v3]) (o := ldF μ v0 9 52) rfl hx1 ?_
  refine xr_icmp (pct := 45) rfl rfl rfl (fun hc => ?_) (fun hc => ?_)
  · replace h := (if_pos (of_decide_eq_true hc)).symm.trans h
    refine xr_forget (lo := [none, none, some (.int v2), none]) ⟨rfl, trivial⟩ ?_
    obtain ⟨o, h2, rfl⟩ := Option.map_eq_some_iff.mp h
    exact fM_isCovered_45_ok h2 hK
  · replace h := (if_neg (of_decide_eq_false hc)).symm.trans h
    refine xr_go 1 (pc' := 13) (lo' := [some (.ref v0), some (.int v1), some (.int v2), some (.int v3)]) (st' := [.int v2]) (μ' := μ) rfl ?_
    refine xr_ifc (pct := 33) rfl rfl rfl (fun hc => ?_) (fun hc => ?_)
    · replace h := (if_neg (of_decide_eq_true hc)).symm.trans h
      refine xr_forget (lo := [some (.ref v0), some (.int v1), none, some (.int v3)]) ⟨rfl, rfl, rfl, trivial⟩ ?_
      exact fM_isCovered_33_ok h hK
    · replace h := (if_pos (Decidable.of_not_not (of_decide_eq_false hc))).symm.trans h
      refine xr_go 2 (pc' := 18) (lo' := [some (.ref v0), some (.int v1), some (.int v2), some (.int v3)]) (st' := [.ref v0, .ref v0]) (μ' := μ) rfl ?_
      obtain ⟨x2, hx2, h⟩ := Option.bind_eq_some_iff.mp h
      refine xr_opA (pc' := 21) (lo' := [some (.ref v0), some (.int v1), some (.int v2), some (.int v3)]) (st' := [.ref v0]) (o := ldFR μ v0 9 53) rfl hx2 ?_
      refine xr_go 1 (pc' := 22) (lo' := [some (.ref v0), some (.int v1), some (.int v2), some (.int v3)]) (st' := [.int v3, .ref x2, .ref v0]) (μ' := μ) rfl ?_
      obtain ⟨x3, hx3, h⟩ := Option.bind_eq_some_iff.mp h
      refine xr_opI (pc' := 23) (lo' := [some (.ref v0), some (.int v1), some (.int v2), some (.int v3)]) (st' := [.ref v0]) (o := ldA μ x2 v3) rfl hx3 ?_
      obtain ⟨r4, hr4, h⟩ := Option.bind_eq_some_iff.mp h
      refine xr_callV (j := 189) (d' := (d + 0)) (rv1 := some (.int r4)) (μ1 := μ) (rest := []) (As := [.int x3]) rfl rfl rfl rfl (Nat.le_of_ble_eq_true rfl) (fM_viewsOf_kd hr4) rfl (by exact (fM_viewsOf_ok (d := d + (0)) hr4)) ?_
      refine xr_go 4 (pc' := 30) (lo' := [some (.ref v0), some (.int v1), some (.int v2), some (.int v3)]) (st' := [.int (r4 &&& (v1 ^^^ (xc (-1))))]) (μ' := μ) rfl ?_
      refine xr_ifc (pct := 37) rfl rfl rfl (fun hc => ?_) (fun hc => ?_)
      · replace h := (if_neg (of_decide_eq_true hc)).symm.trans h
        refine xr_go 1 (pc' := 38) (lo' := [some (.ref v0), some (.int v1), some (.int v2), some (.int v3)]) (st' := [.int (xc 0)]) (μ' := μ) rfl ?_
        refine xr_forget (lo := [some (.ref v0), some (.int v1), none, some (.int v3)]) ⟨rfl, rfl, rfl, trivial⟩ ?_
        exact fM_isCovered_38_ok h hK
      · replace h := (if_pos (Decidable.of_not_not (of_decide_eq_false hc))).symm.trans h
        refine xr_forget (lo := [some (.ref v0), some (.int v1), none, some (.int v3)]) ⟨rfl, rfl, rfl, trivial⟩ ?_
        exact fM_isCovered_33_ok h hK
theorem fM_isCovered_L4_lp {d : Nat} {v0 : Nat} {v1 : Int32} {v2 : Int32} {v3 : Int32} {μ : xM} {rv : Option Value} {μf : xM} {out : Int32} (h : xwh (fun s : Int32 × Int32 => fM_isCovered_L4 v0 v1 s.1 s.2 μ) (v2, v3) = some out) (hK : fM_isCovered_K μ rv μf out) : xRun (d + 1) 193 4 [some (.ref v0), some (.int v1), some (.int v2), some (.int v3)] [] μ rv μf :=
  xwh_ind (Rh := fun s : Int32 × Int32 => xRun (d + 1) 193 4 [some (.ref v0), some (.int v1), some (.int s.1), some (.int s.2)] [] μ rv μf) (Co := fM_isCovered_K μ rv μf) (fun s o hb hk => fM_isCovered_L4_ok hb hk) h hK
noncomputable def fM_isCovered_0  (v0 : Nat) (v1 : Int32) (μ : xM) : Option (Int32) := xwh (fun s : Int32 × Int32 => fM_isCovered_L4 v0 v1 s.1 s.2 μ) (xc 0, xc 0)
theorem fM_isCovered_0_ok {d : Nat} {v0 : Nat} {v1 : Int32} {μ : xM} {rv : Option Value} {μf : xM} {out : Int32} (h : fM_isCovered_0 v0 v1 μ = some out) (hK : fM_isCovered_K μ rv μf out) : xRun (d + 1) 193 0 [some (.ref v0), some (.int v1), none, none] [] μ rv μf := by
  unfold fM_isCovered_0 at h
  refine xr_go 4 (pc' := 4) (lo' := [some (.ref v0), some (.int v1), some (.int (xc 0)), some (.int (xc 0))]) (st' := []) (μ' := μ) rfl ?_
  refine xr_forget (lo := [some (.ref v0), some (.int v1), some (.int (xc 0)), some (.int (xc 0))]) ⟨rfl, rfl, rfl, rfl, trivial⟩ ?_
  exact fM_isCovered_L4_lp h hK
noncomputable def fM_isCovered (a0 : Nat) (a1 : Int32) (μ : xM) : Option (Int32) := xgd μ a0 9 (fM_isCovered_0 a0 a1 μ)
theorem fM_isCovered_kd {a0 : Nat} {a1 : Int32} {μ : xM} {o : Int32} (h : fM_isCovered a0 a1 μ = some o) : (xK μ a0).1 = 10 + 9 := (xgd_some h).1
theorem fM_isCovered_ok {d : Nat} {a0 : Nat} {a1 : Int32} {μ : xM} {o : Int32} (h : fM_isCovered a0 a1 μ = some o) : xRun (d + 1) 193 0 [some (.ref a0), some (.int a1), none, none] [] μ (some (.int o)) μ :=
  xr_forget (lo := [some (.ref a0), some (.int a1), none, none]) (⟨rfl, rfl, trivial⟩) (fM_isCovered_0_ok (d := d) (xgd_some h).2 (show fM_isCovered_K μ _ _ o from ⟨rfl, rfl⟩))
-- KeptAnswersModel.may(II)I 
def fM_may_K (rv : Option Value) (μf : xM) : (Int32 × xM) → Prop := fun o => rv = some (.int o.1) ∧ μf = o.2
noncomputable def fM_may_16  (v0 : Nat) (μ : xM) : Option (Int32 × xM) := (fM_refuse v0 (xc (-1)) μ).bind fun r1 => some ((r1.1, r1.2))
theorem fM_may_16_ok {d : Nat} {v0 : Nat} {μ : xM} {rv : Option Value} {μf : xM} {out : Int32 × xM} (h : fM_may_16 v0 μ = some out) (hK : fM_may_K rv μf out) : xRun (d + 6) 195 16 [some (.ref v0), none, none] [] μ rv μf := by
  unfold fM_may_16 at h
  refine xr_go 2 (pc' := 18) (lo' := [some (.ref v0), none, none]) (st' := [.int (xc (-1)), .ref v0]) (μ' := μ) rfl ?_
  obtain ⟨r1, hr1, h⟩ := Option.bind_eq_some_iff.mp h
  refine xr_callV (j := 138) (d' := (d + 5)) (rv1 := some (.int r1.1)) (μ1 := r1.2) (rest := []) (As := [.int (xc (-1))]) rfl rfl rfl rfl (Nat.le_of_ble_eq_true rfl) (fM_refuse_kd hr1) rfl (by exact (fM_refuse_ok (d := d + (5)) hr1)) ?_
  have ho := Option.some.inj h
  subst ho
  obtain ⟨rfl, rfl⟩ := hK
  exact xr_ret (rv := some (.int r1.1)) rfl rfl (Or.inl rfl)
noncomputable def fM_may_0  (v0 : Nat) (v1 : Int32) (v2 : Int32) (μ : xM) : Option (Int32 × xM) := (fM_isAsk v0 v1 μ).bind fun r2 => if r2 = 0 then (fM_may_16 v0 μ) else ((fM_areViews v0 v2 μ).bind fun r3 => if r3 = 0 then (fM_may_16 v0 μ) else ((fM_findCovers v0 v1 μ).bind fun r4 => if r4.1 = 0 then ((fM_refuse v0 (xc (-5)) r4.2).bind fun r6 => some ((r6.1, r6.2))) else ((fM_isCovered v0 v2 r4.2).bind fun r5 => if r5 = 0 then (some ((xc 0, r4.2))) else (some ((xc 1, r4.2))))))
theorem fM_may_0_ok {d : Nat} {v0 : Nat} {v1 : Int32} {v2 : Int32} {μ : xM} {rv : Option Value} {μf : xM} {out : Int32 × xM} (h : fM_may_0 v0 v1 v2 μ = some out) (hK : fM_may_K rv μf out) : xRun (d + 6) 195 0 [some (.ref v0), some (.int v1), some (.int v2)] [] μ rv μf := by
  unfold fM_may_0 at h
  refine xr_go 2 (pc' := 2) (lo' := [some (.ref v0), some (.int v1), some (.int v2)]) (st' := [.int v1, .ref v0]) (μ' := μ) rfl ?_
  obtain ⟨r2, hr2, h⟩ := Option.bind_eq_some_iff.mp h
  refine xr_callV (j := 139) (d' := (d + 5)) (rv1 := some (.int r2)) (μ1 := μ) (rest := []) (As := [.int v1]) rfl rfl rfl rfl (Nat.le_of_ble_eq_true rfl) (fM_isAsk_kd hr2) rfl (by exact (fM_isAsk_ok (d := d + (4)) hr2)) ?_
  refine xr_ifc (pct := 16) rfl rfl rfl (fun hc => ?_) (fun hc => ?_)
  · replace h := (if_pos (of_decide_eq_true hc)).symm.trans h
    refine xr_forget (lo := [some (.ref v0), none, none]) ⟨rfl, trivial⟩ ?_
    exact fM_may_16_ok h hK
  · replace h := (if_neg (of_decide_eq_false hc)).symm.trans h
    refine xr_go 2 (pc' := 10) (lo' := [some (.ref v0), some (.int v1), some (.int v2)]) (st' := [.int v2, .ref v0]) (μ' := μ) rfl ?_
    obtain ⟨r3, hr3, h⟩ := Option.bind_eq_some_iff.mp h
    refine xr_callV (j := 194) (d' := (d + 5)) (rv1 := some (.int r3)) (μ1 := μ) (rest := []) (As := [.int v2]) rfl rfl rfl rfl (Nat.le_of_ble_eq_true rfl) (fM_areViews_kd hr3) rfl (by exact (fM_areViews_ok (d := d + (4)) hr3)) ?_
    refine xr_ifc (pct := 22) rfl rfl rfl (fun hc => ?_) (fun hc => ?_)
    · replace h := (if_neg (of_decide_eq_true hc)).symm.trans h
      refine xr_go 2 (pc' := 24) (lo' := [some (.ref v0), some (.int v1), some (.int v2)]) (st' := [.int v1, .ref v0]) (μ' := μ) rfl ?_
      obtain ⟨r4, hr4, h⟩ := Option.bind_eq_some_iff.mp h
      refine xr_callV (j := 188) (d' := (d + 5)) (rv1 := some (.int r4.1)) (μ1 := r4.2) (rest := []) (As := [.int v1]) rfl rfl rfl rfl (Nat.le_of_ble_eq_true rfl) (fM_findCovers_kd hr4) rfl (by exact (fM_findCovers_ok (d := d + (0)) hr4)) ?_
      refine xr_ifc (pct := 37) rfl rfl rfl (fun hc => ?_) (fun hc => ?_)
      · replace h := (if_neg (of_decide_eq_true hc)).symm.trans h
        refine xr_go 2 (pc' := 39) (lo' := [some (.ref v0), some (.int v1), some (.int v2)]) (st' := [.int v2, .ref v0]) (μ' := r4.2) rfl ?_
        obtain ⟨r5, hr5, h⟩ := Option.bind_eq_some_iff.mp h
        refine xr_callV (j := 193) (d' := (d + 5)) (rv1 := some (.int r5)) (μ1 := r4.2) (rest := []) (As := [.int v2]) rfl rfl rfl rfl (Nat.le_of_ble_eq_true rfl) (fM_isCovered_kd hr5) rfl (by exact (fM_isCovered_ok (d := d + (4)) hr5)) ?_
        refine xr_ifc (pct := 49) rfl rfl rfl (fun hc => ?_) (fun hc => ?_)
        · replace h := (if_pos (of_decide_eq_true hc)).symm.trans h
          refine xr_go 1 (pc' := 50) (lo' := [some (.ref v0), some (.int v1), some (.int v2)]) (st' := [.int (xc 0)]) (μ' := r4.2) rfl ?_
          have ho := Option.some.inj h
          subst ho
          obtain ⟨rfl, rfl⟩ := hK
          exact xr_ret (rv := some (.int (xc 0))) rfl rfl (Or.inl rfl)
        · replace h := (if_neg (of_decide_eq_false hc)).symm.trans h
          refine xr_go 2 (pc' := 50) (lo' := [some (.ref v0), some (.int v1), some (.int v2)]) (st' := [.int (xc 1)]) (μ' := r4.2) rfl ?_
          have ho := Option.some.inj h
          subst ho
          obtain ⟨rfl, rfl⟩ := hK
          exact xr_ret (rv := some (.int (xc 1))) rfl rfl (Or.inl rfl)
      · replace h := (if_pos (Decidable.of_not_not (of_decide_eq_false hc))).symm.trans h
        refine xr_go 2 (pc' := 33) (lo' := [some (.ref v0), some (.int v1), some (.int v2)]) (st' := [.int (xc (-5)), .ref v0]) (μ' := r4.2) rfl ?_
        obtain ⟨r6, hr6, h⟩ := Option.bind_eq_some_iff.mp h
        refine xr_callV (j := 138) (d' := (d + 5)) (rv1 := some (.int r6.1)) (μ1 := r6.2) (rest := []) (As := [.int (xc (-5))]) rfl rfl rfl rfl (Nat.le_of_ble_eq_true rfl) (fM_refuse_kd hr6) rfl (by exact (fM_refuse_ok (d := d + (5)) hr6)) ?_
        have ho := Option.some.inj h
        subst ho
        obtain ⟨rfl, rfl⟩ := hK
        exact xr_ret (rv := some (.int r6.1)) rfl rfl (Or.inl rfl)
    · replace h := (if_pos (Decidable.of_not_not (of_decide_eq_false hc))).symm.trans h
      refine xr_forget (lo := [some (.ref v0), none, none]) ⟨rfl, trivial⟩ ?_
      exact fM_may_16_ok h hK
noncomputable def fM_may (a0 : Nat) (a1 : Int32) (a2 : Int32) (μ : xM) : Option (Int32 × xM) := xgd μ a0 9 (fM_may_0 a0 a1 a2 μ)
theorem fM_may_kd {a0 : Nat} {a1 : Int32} {a2 : Int32} {μ : xM} {o : Int32 × xM} (h : fM_may a0 a1 a2 μ = some o) : (xK μ a0).1 = 10 + 9 := (xgd_some h).1
theorem fM_may_ok {d : Nat} {a0 : Nat} {a1 : Int32} {a2 : Int32} {μ : xM} {o : Int32 × xM} (h : fM_may a0 a1 a2 μ = some o) : xRun (d + 6) 195 0 [some (.ref a0), some (.int a1), some (.int a2)] [] μ (some (.int o.1)) o.2 :=
  xr_forget (lo := [some (.ref a0), some (.int a1), some (.int a2)]) (⟨rfl, rfl, rfl, trivial⟩) (fM_may_0_ok (d := d) (xgd_some h).2 (show fM_may_K _ _ o from ⟨rfl, rfl⟩))
-- KeptAnswers.keep(IZ)I 
def fX_keep_K (rv : Option Value) (μf : xM) : (Int32 × xM) → Prop := fun o => rv = some (.int o.1) ∧ μf = o.2
noncomputable def fX_keep_0  (v0 : Nat) (v1 : Int32) (v2 : Int32) (μ : xM) : Option (Int32 × xM) := (fX_isView v0 v1 μ).bind fun r1 => if r1 = 0 then ((fX_refuse v0 (xc (-1)) μ).bind fun r20 => some ((r20.1, r20.2))) else (if v2 = 0 then ((ldFR μ v0 0 0).bind fun x17 => (ldF μ x17 3 4).bind fun x18 => (stF μ x17 3 4 (x18 &&& (((xc 1) <<< (v1 &&& 31)) ^^^ (xc (-1))))).bind fun μ19 => some ((xc (-9), μ19))) else ((ldFR μ v0 0 0).bind fun x2 => (ldF μ x2 3 4).bind fun x3 => (stF μ x2 3 4 (x3 ||| ((xc 1) <<< (v1 &&& 31)))).bind fun μ4 => (ldFR μ4 v0 0 0).bind fun x5 => (ldFR μ4 x5 3 10).bind fun x6 => (ldFR μ4 v0 0 0).bind fun x7 => (ldFR μ4 x7 3 9).bind fun x8 => (ldAR μ4 x8 v1).bind fun x9 => (ldFR μ4 v0 0 0).bind fun x10 => (ldF μ4 x10 3 0).bind fun x11 => (fP_answerBy x9 x11 μ4).bind fun r12 => (stA μ4 x6 v1 r12).bind fun μ13 => (ldFR μ13 v0 0 0).bind fun x14 => (ldFR μ13 x14 3 10).bind fun x15 => (ldA μ13 x15 v1).bind fun x16 => some ((x16, μ13))))
theorem fX_keep_0_ok {d : Nat} {v0 : Nat} {v1 : Int32} {v2 : Int32} {μ : xM} {rv : Option Value} {μf : xM} {out : Int32 × xM} (h : fX_keep_0 v0 v1 v2 μ = some out) (hK : fX_keep_K rv μf out) : xRun (d + 3) 21 0 [some (.ref v0), some (.int v1), some (.int v2)] [] μ rv μf := by
  unfold fX_keep_0 at h
  refine xr_go 2 (pc' := 2) (lo' := [some (.ref v0), some (.int v1), some (.int v2)]) (st' := [.int v1, .ref v0]) (μ' := μ) rfl ?_
  obtain ⟨r1, hr1, h⟩ := Option.bind_eq_some_iff.mp h
  refine xr_callV (j := 40) (d' := (d + 2)) (rv1 := some (.int r1)) (μ1 := μ) (rest := []) (As := [.int v1]) rfl rfl rfl rfl (Nat.le_of_ble_eq_true rfl) (fX_isView_kd hr1) rfl (by exact (fX_isView_ok (d := d + (2)) hr1)) ?_
  refine xr_ifc (pct := 14) rfl rfl rfl (fun hc => ?_) (fun hc => ?_)
  · replace h := (if_neg (of_decide_eq_true hc)).symm.trans h
    refine xr_go 1 (pc' := 15) (lo' := [some (.ref v0), some (.int v1), some (.int v2)]) (st' := [.int v2]) (μ' := μ) rfl ?_
    refine xr_ifc (pct := 38) rfl rfl rfl (fun hc => ?_) (fun hc => ?_)
    · replace h := (if_neg (of_decide_eq_true hc)).symm.trans h
      refine xr_go 1 (pc' := 39) (lo' := [some (.ref v0), some (.int v1), some (.int v2)]) (st' := [.ref v0]) (μ' := μ) rfl ?_
      obtain ⟨x2, hx2, h⟩ := Option.bind_eq_some_iff.mp h
      refine xr_opA (pc' := 42) (lo' := [some (.ref v0), some (.int v1), some (.int v2)]) (st' := []) (o := ldFR μ v0 0 0) rfl hx2 ?_
      refine xr_go 1 (pc' := 43) (lo' := [some (.ref v0), some (.int v1), some (.int v2)]) (st' := [.ref x2, .ref x2]) (μ' := μ) rfl ?_
      obtain ⟨x3, hx3, h⟩ := Option.bind_eq_some_iff.mp h
      refine xr_opI (pc' := 46) (lo' := [some (.ref v0), some (.int v1), some (.int v2)]) (st' := [.ref x2]) (o := ldF μ x2 3 4) rfl hx3 ?_
      refine xr_go 4 (pc' := 50) (lo' := [some (.ref v0), some (.int v1), some (.int v2)]) (st' := [.int (x3 ||| ((xc 1) <<< (v1 &&& 31))), .ref x2]) (μ' := μ) rfl ?_
      obtain ⟨μ4, hμ4, h⟩ := Option.bind_eq_some_iff.mp h
      refine xr_opM (pc' := 53) (lo' := [some (.ref v0), some (.int v1), some (.int v2)]) (st' := []) (o := stF μ x2 3 4 (x3 ||| ((xc 1) <<< (v1 &&& 31)))) rfl hμ4 ?_
      refine xr_go 1 (pc' := 54) (lo' := [some (.ref v0), some (.int v1), some (.int v2)]) (st' := [.ref v0]) (μ' := μ4) rfl ?_
      obtain ⟨x5, hx5, h⟩ := Option.bind_eq_some_iff.mp h
      refine xr_opA (pc' := 57) (lo' := [some (.ref v0), some (.int v1), some (.int v2)]) (st' := []) (o := ldFR μ4 v0 0 0) rfl hx5 ?_
      obtain ⟨x6, hx6, h⟩ := Option.bind_eq_some_iff.mp h
      refine xr_opA (pc' := 60) (lo' := [some (.ref v0), some (.int v1), some (.int v2)]) (st' := []) (o := ldFR μ4 x5 3 10) rfl hx6 ?_
      refine xr_go 2 (pc' := 62) (lo' := [some (.ref v0), some (.int v1), some (.int v2)]) (st' := [.ref v0, .int v1, .ref x6]) (μ' := μ4) rfl ?_
      obtain ⟨x7, hx7, h⟩ := Option.bind_eq_some_iff.mp h
      refine xr_opA (pc' := 65) (lo' := [some (.ref v0), some (.int v1), some (.int v2)]) (st' := [.int v1, .ref x6]) (o := ldFR μ4 v0 0 0) rfl hx7 ?_
      obtain ⟨x8, hx8, h⟩ := Option.bind_eq_some_iff.mp h
      refine xr_opA (pc' := 68) (lo' := [some (.ref v0), some (.int v1), some (.int v2)]) (st' := [.int v1, .ref x6]) (o := ldFR μ4 x7 3 9) rfl hx8 ?_
      refine xr_go 1 (pc' := 69) (lo' := [some (.ref v0), some (.int v1), some (.int v2)]) (st' := [.int v1, .ref x8, .int v1, .ref x6]) (μ' := μ4) rfl ?_
      obtain ⟨x9, hx9, h⟩ := Option.bind_eq_some_iff.mp h
      refine xr_opA (pc' := 70) (lo' := [some (.ref v0), some (.int v1), some (.int v2)]) (st' := [.int v1, .ref x6]) (o := ldAR μ4 x8 v1) rfl hx9 ?_
      refine xr_go 1 (pc' := 71) (lo' := [some (.ref v0), some (.int v1), some (.int v2)]) (st' := [.ref v0, .ref x9, .int v1, .ref x6]) (μ' := μ4) rfl ?_
      obtain ⟨x10, hx10, h⟩ := Option.bind_eq_some_iff.mp h
      refine xr_opA (pc' := 74) (lo' := [some (.ref v0), some (.int v1), some (.int v2)]) (st' := [.ref x9, .int v1, .ref x6]) (o := ldFR μ4 v0 0 0) rfl hx10 ?_
      obtain ⟨x11, hx11, h⟩ := Option.bind_eq_some_iff.mp h
      refine xr_opI (pc' := 77) (lo' := [some (.ref v0), some (.int v1), some (.int v2)]) (st' := [.ref x9, .int v1, .ref x6]) (o := ldF μ4 x10 3 0) rfl hx11 ?_
      obtain ⟨r12, hr12, h⟩ := Option.bind_eq_some_iff.mp h
      refine xr_callV (j := 85) (d' := (d + 2)) (rv1 := some (.int r12)) (μ1 := μ4) (rest := [.int v1, .ref x6]) (As := [.int x11]) rfl rfl rfl rfl (Nat.le_of_ble_eq_true rfl) (fP_answerBy_kd hr12) rfl (by exact (fP_answerBy_ok (d := d + (0)) hr12)) ?_
      obtain ⟨μ13, hμ13, h⟩ := Option.bind_eq_some_iff.mp h
      refine xr_opM (pc' := 81) (lo' := [some (.ref v0), some (.int v1), some (.int v2)]) (st' := []) (o := stA μ4 x6 v1 r12) rfl hμ13 ?_
      refine xr_go 1 (pc' := 82) (lo' := [some (.ref v0), some (.int v1), some (.int v2)]) (st' := [.ref v0]) (μ' := μ13) rfl ?_
      obtain ⟨x14, hx14, h⟩ := Option.bind_eq_some_iff.mp h
      refine xr_opA (pc' := 85) (lo' := [some (.ref v0), some (.int v1), some (.int v2)]) (st' := []) (o := ldFR μ13 v0 0 0) rfl hx14 ?_
      obtain ⟨x15, hx15, h⟩ := Option.bind_eq_some_iff.mp h
      refine xr_opA (pc' := 88) (lo' := [some (.ref v0), some (.int v1), some (.int v2)]) (st' := []) (o := ldFR μ13 x14 3 10) rfl hx15 ?_
      refine xr_go 1 (pc' := 89) (lo' := [some (.ref v0), some (.int v1), some (.int v2)]) (st' := [.int v1, .ref x15]) (μ' := μ13) rfl ?_
      obtain ⟨x16, hx16, h⟩ := Option.bind_eq_some_iff.mp h
      refine xr_opI (pc' := 90) (lo' := [some (.ref v0), some (.int v1), some (.int v2)]) (st' := []) (o := ldA μ13 x15 v1) rfl hx16 ?_
      have ho := Option.some.inj h
      subst ho
      obtain ⟨rfl, rfl⟩ := hK
      exact xr_ret (rv := some (.int x16)) rfl rfl (Or.inl rfl)
    · replace h := (if_pos (Decidable.of_not_not (of_decide_eq_false hc))).symm.trans h
      refine xr_go 1 (pc' := 19) (lo' := [some (.ref v0), some (.int v1), some (.int v2)]) (st' := [.ref v0]) (μ' := μ) rfl ?_
      obtain ⟨x17, hx17, h⟩ := Option.bind_eq_some_iff.mp h
      refine xr_opA (pc' := 22) (lo' := [some (.ref v0), some (.int v1), some (.int v2)]) (st' := []) (o := ldFR μ v0 0 0) rfl hx17 ?_
      refine xr_go 1 (pc' := 23) (lo' := [some (.ref v0), some (.int v1), some (.int v2)]) (st' := [.ref x17, .ref x17]) (μ' := μ) rfl ?_
      obtain ⟨x18, hx18, h⟩ := Option.bind_eq_some_iff.mp h
      refine xr_opI (pc' := 26) (lo' := [some (.ref v0), some (.int v1), some (.int v2)]) (st' := [.ref x17]) (o := ldF μ x17 3 4) rfl hx18 ?_
      refine xr_go 6 (pc' := 32) (lo' := [some (.ref v0), some (.int v1), some (.int v2)]) (st' := [.int (x18 &&& (((xc 1) <<< (v1 &&& 31)) ^^^ (xc (-1)))), .ref x17]) (μ' := μ) rfl ?_
      obtain ⟨μ19, hμ19, h⟩ := Option.bind_eq_some_iff.mp h
      refine xr_opM (pc' := 35) (lo' := [some (.ref v0), some (.int v1), some (.int v2)]) (st' := []) (o := stF μ x17 3 4 (x18 &&& (((xc 1) <<< (v1 &&& 31)) ^^^ (xc (-1))))) rfl hμ19 ?_
      refine xr_go 1 (pc' := 37) (lo' := [some (.ref v0), some (.int v1), some (.int v2)]) (st' := [.int (xc (-9))]) (μ' := μ19) rfl ?_
      have ho := Option.some.inj h
      subst ho
      obtain ⟨rfl, rfl⟩ := hK
      exact xr_ret (rv := some (.int (xc (-9)))) rfl rfl (Or.inl rfl)
  · replace h := (if_pos (Decidable.of_not_not (of_decide_eq_false hc))).symm.trans h
    refine xr_go 2 (pc' := 10) (lo' := [some (.ref v0), some (.int v1), some (.int v2)]) (st' := [.int (xc (-1)), .ref v0]) (μ' := μ) rfl ?_
    obtain ⟨r20, hr20, h⟩ := Option.bind_eq_some_iff.mp h
    refine xr_callV (j := 37) (d' := (d + 2)) (rv1 := some (.int r20.1)) (μ1 := r20.2) (rest := []) (As := [.int (xc (-1))]) rfl rfl rfl rfl (Nat.le_of_ble_eq_true rfl) (fX_refuse_kd hr20) rfl (by exact (fX_refuse_ok (d := d + (2)) hr20)) ?_
    have ho := Option.some.inj h
    subst ho
    obtain ⟨rfl, rfl⟩ := hK
    exact xr_ret (rv := some (.int r20.1)) rfl rfl (Or.inl rfl)
noncomputable def fX_keep (a0 : Nat) (a1 : Int32) (a2 : Int32) (μ : xM) : Option (Int32 × xM) := xgd μ a0 0 (fX_keep_0 a0 a1 a2 μ)
theorem fX_keep_kd {a0 : Nat} {a1 : Int32} {a2 : Int32} {μ : xM} {o : Int32 × xM} (h : fX_keep a0 a1 a2 μ = some o) : (xK μ a0).1 = 10 + 0 := (xgd_some h).1
theorem fX_keep_ok {d : Nat} {a0 : Nat} {a1 : Int32} {a2 : Int32} {μ : xM} {o : Int32 × xM} (h : fX_keep a0 a1 a2 μ = some o) : xRun (d + 3) 21 0 [some (.ref a0), some (.int a1), some (.int a2)] [] μ (some (.int o.1)) o.2 :=
  xr_forget (lo := [some (.ref a0), some (.int a1), some (.int a2)]) (⟨rfl, rfl, rfl, trivial⟩) (fX_keep_0_ok (d := d) (xgd_some h).2 (show fX_keep_K _ _ o from ⟨rfl, rfl⟩))
-- KeptAnswersModel.keep(IZ)I 
def fM_keep_K (rv : Option Value) (μf : xM) : (Int32 × xM) → Prop := fun o => rv = some (.int o.1) ∧ μf = o.2
noncomputable def fM_keep_39  (v0 : Nat) (v1 : Int32) (v2 : Int32) (s0 : Int32) (s1 : Int32) (s2 : Nat) (μ : xM) : Option (Int32 × xM) := (stA μ s2 s1 s0).bind fun μ1 => if v2 = 0 then (some ((xc (-9), μ1))) else ((ldFR μ1 v0 9 16).bind fun x2 => (ldA μ1 x2 v1).bind fun x3 => some ((x3, μ1)))
theorem fM_keep_39_ok {d : Nat} {v0 : Nat} {v1 : Int32} {v2 : Int32} {s0 : Int32} {s1 : Int32} {s2 : Nat} {μ : xM} {rv : Option Value} {μf : xM} {out : Int32 × xM} (h : fM_keep_39 v0 v1 v2 s0 s1 s2 μ = some out) (hK : fM_keep_K rv μf out) : xRun (d + 2) 196 39 [some (.ref v0), some (.int v1), some (.int v2)] [.int s0, .int s1, .ref s2] μ rv μf := by
  unfold fM_keep_39 at h
  obtain ⟨μ1, hμ1, h⟩ := Option.bind_eq_some_iff.mp h
  refine xr_opM (pc' := 40) (lo' := [some (.ref v0), some (.int v1), some (.int v2)]) (st' := []) (o := stA μ s2 s1 s0) rfl hμ1 ?_
  refine xr_go 1 (pc' := 41) (lo' := [some (.ref v0), some (.int v1), some (.int v2)]) (st' := [.int v2]) (μ' := μ1) rfl ?_
  refine xr_ifc (pct := 53) rfl rfl rfl (fun hc => ?_) (fun hc => ?_)
  · replace h := (if_pos (of_decide_eq_true hc)).symm.trans h
    refine xr_go 1 (pc' := 55) (lo' := [some (.ref v0), some (.int v1), some (.int v2)]) (st' := [.int (xc (-9))]) (μ' := μ1) rfl ?_
    have ho := Option.some.inj h
    subst ho
    obtain ⟨rfl, rfl⟩ := hK
    exact xr_ret (rv := some (.int (xc (-9)))) rfl rfl (Or.inl rfl)
  · replace h := (if_neg (of_decide_eq_false hc)).symm.trans h
    refine xr_go 1 (pc' := 45) (lo' := [some (.ref v0), some (.int v1), some (.int v2)]) (st' := [.ref v0]) (μ' := μ1) rfl ?_
    obtain ⟨x2, hx2, h⟩ := Option.bind_eq_some_iff.mp h
    refine xr_opA (pc' := 48) (lo' := [some (.ref v0), some (.int v1), some (.int v2)]) (st' := []) (o := ldFR μ1 v0 9 16) rfl hx2 ?_
    refine xr_go 1 (pc' := 49) (lo' := [some (.ref v0), some (.int v1), some (.int v2)]) (st' := [.int v1, .ref x2]) (μ' := μ1) rfl ?_
    obtain ⟨x3, hx3, h⟩ := Option.bind_eq_some_iff.mp h
    refine xr_opI (pc' := 50) (lo' := [some (.ref v0), some (.int v1), some (.int v2)]) (st' := []) (o := ldA μ1 x2 v1) rfl hx3 ?_
    refine xr_go 1 (pc' := 55) (lo' := [some (.ref v0), some (.int v1), some (.int v2)]) (st' := [.int x3]) (μ' := μ1) rfl ?_
    have ho := Option.some.inj h
    subst ho
    obtain ⟨rfl, rfl⟩ := hK
    exact xr_ret (rv := some (.int x3)) rfl rfl (Or.inl rfl)
noncomputable def fM_keep_0  (v0 : Nat) (v1 : Int32) (v2 : Int32) (μ : xM) : Option (Int32 × xM) := (fM_isView v0 v1 μ).bind fun r4 => if r4 = 0 then ((fM_refuse v0 (xc (-1)) μ).bind fun r8 => some ((r8.1, r8.2))) else ((ldFR μ v0 9 16).bind fun x5 => if v2 = 0 then (fM_keep_39 v0 v1 v2 (xc (-1)) v1 x5 μ) else ((fM_worldNow v0 μ).bind fun r6 => (fM_answerBy v0 ((xc 10) + v1) r6 μ).bind fun r7 => fM_keep_39 v0 v1 v2 r7 v1 x5 μ))
theorem fM_keep_0_ok {d : Nat} {v0 : Nat} {v1 : Int32} {v2 : Int32} {μ : xM} {rv : Option Value} {μf : xM} {out : Int32 × xM} (h : fM_keep_0 v0 v1 v2 μ = some out) (hK : fM_keep_K rv μf out) : xRun (d + 2) 196 0 [some (.ref v0), some (.int v1), some (.int v2)] [] μ rv μf := by
  unfold fM_keep_0 at h
  refine xr_go 2 (pc' := 2) (lo' := [some (.ref v0), some (.int v1), some (.int v2)]) (st' := [.int v1, .ref v0]) (μ' := μ) rfl ?_
  obtain ⟨r4, hr4, h⟩ := Option.bind_eq_some_iff.mp h
  refine xr_callV (j := 140) (d' := (d + 1)) (rv1 := some (.int r4)) (μ1 := μ) (rest := []) (As := [.int v1]) rfl rfl rfl rfl (Nat.le_of_ble_eq_true rfl) (fM_isView_kd hr4) rfl (by exact (fM_isView_ok (d := d + (0)) hr4)) ?_
  refine xr_ifc (pct := 14) rfl rfl rfl (fun hc => ?_) (fun hc => ?_)
  · replace h := (if_neg (of_decide_eq_true hc)).symm.trans h
    refine xr_go 1 (pc' := 15) (lo' := [some (.ref v0), some (.int v1), some (.int v2)]) (st' := [.ref v0]) (μ' := μ) rfl ?_
    obtain ⟨x5, hx5, h⟩ := Option.bind_eq_some_iff.mp h
    refine xr_opA (pc' := 18) (lo' := [some (.ref v0), some (.int v1), some (.int v2)]) (st' := []) (o := ldFR μ v0 9 16) rfl hx5 ?_
    refine xr_go 2 (pc' := 20) (lo' := [some (.ref v0), some (.int v1), some (.int v2)]) (st' := [.int v2, .int v1, .ref x5]) (μ' := μ) rfl ?_
    refine xr_ifc (pct := 38) rfl rfl rfl (fun hc => ?_) (fun hc => ?_)
    · replace h := (if_pos (of_decide_eq_true hc)).symm.trans h
      refine xr_go 1 (pc' := 39) (lo' := [some (.ref v0), some (.int v1), some (.int v2)]) (st' := [.int (xc (-1)), .int v1, .ref x5]) (μ' := μ) rfl ?_
      refine xr_forget (lo := [some (.ref v0), some (.int v1), some (.int v2)]) ⟨rfl, rfl, rfl, trivial⟩ ?_
      exact fM_keep_39_ok h hK
    · replace h := (if_neg (of_decide_eq_false hc)).symm.trans h
      refine xr_go 5 (pc' := 29) (lo' := [some (.ref v0), some (.int v1), some (.int v2)]) (st' := [.ref v0, .int ((xc 10) + v1), .ref v0, .int v1, .ref x5]) (μ' := μ) rfl ?_
      obtain ⟨r6, hr6, h⟩ := Option.bind_eq_some_iff.mp h
      refine xr_callV (j := 164) (d' := (d + 1)) (rv1 := some (.int r6)) (μ1 := μ) (rest := [.int ((xc 10) + v1), .ref v0, .int v1, .ref x5]) (As := []) rfl rfl rfl rfl (Nat.le_of_ble_eq_true rfl) (fM_worldNow_kd hr6) rfl (by exact (fM_worldNow_ok (d := d + (1)) hr6)) ?_
      obtain ⟨r7, hr7, h⟩ := Option.bind_eq_some_iff.mp h
      refine xr_callV (j := 163) (d' := (d + 1)) (rv1 := some (.int r7)) (μ1 := μ) (rest := [.int v1, .ref x5]) (As := [.int ((xc 10) + v1), .int r6]) rfl rfl rfl rfl (Nat.le_of_ble_eq_true rfl) (fM_answerBy_kd hr7) rfl (by exact (fM_answerBy_ok (d := d + (0)) hr7)) ?_
      refine xr_go 1 (pc' := 39) (lo' := [some (.ref v0), some (.int v1), some (.int v2)]) (st' := [.int r7, .int v1, .ref x5]) (μ' := μ) rfl ?_
      refine xr_forget (lo := [some (.ref v0), some (.int v1), some (.int v2)]) ⟨rfl, rfl, rfl, trivial⟩ ?_
      exact fM_keep_39_ok h hK
  · replace h := (if_pos (Decidable.of_not_not (of_decide_eq_false hc))).symm.trans h
    refine xr_go 2 (pc' := 10) (lo' := [some (.ref v0), some (.int v1), some (.int v2)]) (st' := [.int (xc (-1)), .ref v0]) (μ' := μ) rfl ?_
    obtain ⟨r8, hr8, h⟩ := Option.bind_eq_some_iff.mp h
    refine xr_callV (j := 138) (d' := (d + 1)) (rv1 := some (.int r8.1)) (μ1 := r8.2) (rest := []) (As := [.int (xc (-1))]) rfl rfl rfl rfl (Nat.le_of_ble_eq_true rfl) (fM_refuse_kd hr8) rfl (by exact (fM_refuse_ok (d := d + (1)) hr8)) ?_
    have ho := Option.some.inj h
    subst ho
    obtain ⟨rfl, rfl⟩ := hK
    exact xr_ret (rv := some (.int r8.1)) rfl rfl (Or.inl rfl)
noncomputable def fM_keep (a0 : Nat) (a1 : Int32) (a2 : Int32) (μ : xM) : Option (Int32 × xM) := xgd μ a0 9 (fM_keep_0 a0 a1 a2 μ)
theorem fM_keep_kd {a0 : Nat} {a1 : Int32} {a2 : Int32} {μ : xM} {o : Int32 × xM} (h : fM_keep a0 a1 a2 μ = some o) : (xK μ a0).1 = 10 + 9 := (xgd_some h).1
theorem fM_keep_ok {d : Nat} {a0 : Nat} {a1 : Int32} {a2 : Int32} {μ : xM} {o : Int32 × xM} (h : fM_keep a0 a1 a2 μ = some o) : xRun (d + 2) 196 0 [some (.ref a0), some (.int a1), some (.int a2)] [] μ (some (.int o.1)) o.2 :=
  xr_forget (lo := [some (.ref a0), some (.int a1), some (.int a2)]) (⟨rfl, rfl, rfl, trivial⟩) (fM_keep_0_ok (d := d) (xgd_some h).2 (show fM_keep_K _ _ o from ⟨rfl, rfl⟩))
-- KeptAnswers$Worlds.addWith([JI)V 
def fW_addWith_K (rv : Option Value) (μf : xM) : (xM) → Prop := fun o => rv = none ∧ μf = o
def fW_addWith_K7 (v0 : Nat) (v1 : Int32) (μ : xM) (d : Nat) (rv : Option Value) (μf : xM) : ((Int64 × Int32) ⊕ (xM)) → Prop := Sum.elim (fun s : Int64 × Int32 => xRun (d + 0) 131 7 [some (.ref v0), some (.int v1), some (.long s.1), none, some (.int s.2), none] [] μ rv μf) (fW_addWith_K rv μf)
def fW_addWith_K47 (v0 : Nat) (v2 : Int64) (v4 : Int32) (d : Nat) (rv : Option Value) (μf : xM) : ((Int32 × xM) ⊕ (xM)) → Prop := Sum.elim (fun s : Int32 × xM => xRun (d + 0) 131 47 [some (.ref v0), none, some (.long v2), none, some (.int v4), some (.int s.1)] [] s.2 rv μf) (fW_addWith_K rv μf)
noncomputable def fW_addWith_72  (v0 : Nat) (v2 : Int64) (v4 : Int32) (v5 : Int32) (μ : xM) : Option ((Int32 × xM) ⊕ (xM)) := some (.inl ((v5 + xc 1, μ)))
theorem fW_addWith_72_ok {d : Nat} {v0 : Nat} {v2 : Int64} {v4 : Int32} {v5 : Int32} {μ : xM} {rv : Option Value} {μf : xM} {out : (Int32 × xM) ⊕ (xM)} (h : fW_addWith_72 v0 v2 v4 v5 μ = some out) (hK : fW_addWith_K47 v0 v2 v4 d rv μf out) : xRun (d + 0) 131 72 [some (.ref v0), none, some (.long v2), none, some (.int v4), some (.int v5)] [] μ rv μf := by
  unfold fW_addWith_72 at h
  refine xr_go 2 (pc' := 47) (lo' := [some (.ref v0), none, some (.long v2), none, some (.int v4), some (.int (v5 + xc 1))]) (st' := []) (μ' := μ) rfl ?_
  refine xr_forget (lo := [some (.ref v0), none, some (.long v2), none, some (.int v4), some (.int (v5 + xc 1))]) ⟨rfl, rfl, rfl, rfl, trivial⟩ ?_
  have ho := Option.some.inj h
  subst ho
  exact hK
noncomputable def fW_addWith_L47  (v0 : Nat) (v2 : Int64) (v4 : Int32) (v5 : Int32) (μ : xM) : Option ((Int32 × xM) ⊕ (xM)) := if (xc 64) ≤ v5 then (some (.inr μ)) else (if (v5 &&& v4) = v4 then ((ldAL μ v0 v5).bind fun x1 => (stAL μ v0 v5 (x1 ||| v2)).bind fun μ2 => fW_addWith_72 v0 v2 v4 v5 μ2) else (fW_addWith_72 v0 v2 v4 v5 μ))
theorem fW_addWith_L47_ok {d : Nat} {v0 : Nat} {v2 : Int64} {v4 : Int32} {v5 : Int32} {μ : xM} {rv : Option Value} {μf : xM} {out : (Int32 × xM) ⊕ (xM)} (h : fW_addWith_L47 v0 v2 v4 v5 μ = some out) (hK : fW_addWith_K47 v0 v2 v4 d rv μf out) : xRun (d + 0) 131 47 [some (.ref v0), none, some (.long v2), none, some (.int v4), some (.int v5)] [] μ rv μf := by
  unfold fW_addWith_L47 at h
  refine xr_go 2 (pc' := 51) (lo' := [some (.ref v0), none, some (.long v2), none, some (.int v4), some (.int v5)]) (st' := [.int (xc 64), .int v5]) (μ' := μ) rfl ?_
  refine xr_icmp (pct := 78) rfl rfl rfl (fun hc => ?_) (fun hc => ?_)
  · replace h := (if_pos (of_decide_eq_true hc)).symm.trans h
    have ho := Option.some.inj h
    subst ho
    obtain ⟨rfl, rfl⟩ := hK
    exact xr_ret (rv := none) rfl rfl (rfl)
  · replace h := (if_neg (of_decide_eq_false hc)).symm.trans h
    refine xr_go 4 (pc' := 61) (lo' := [some (.ref v0), none, some (.long v2), none, some (.int v4), some (.int v5)]) (st' := [.int v4, .int (v5 &&& v4)]) (μ' := μ) rfl ?_
    refine xr_icmp (pct := 72) rfl rfl rfl (fun hc => ?_) (fun hc => ?_)
    · replace h := (if_neg (of_decide_eq_true hc)).symm.trans h
      refine xr_forget (lo := [some (.ref v0), none, some (.long v2), none, some (.int v4), some (.int v5)]) ⟨rfl, rfl, rfl, rfl, trivial⟩ ?_
      exact fW_addWith_72_ok h hK
    · replace h := (if_pos (Decidable.of_not_not (of_decide_eq_false hc))).symm.trans h
      refine xr_go 3 (pc' := 68) (lo' := [some (.ref v0), none, some (.long v2), none, some (.int v4), some (.int v5)]) (st' := [.int v5, .ref v0, .int v5, .ref v0]) (μ' := μ) rfl ?_
      obtain ⟨x1, hx1, h⟩ := Option.bind_eq_some_iff.mp h
      refine xr_opJ (pc' := 69) (lo' := [some (.ref v0), none, some (.long v2), none, some (.int v4), some (.int v5)]) (st' := [.int v5, .ref v0]) (o := ldAL μ v0 v5) rfl hx1 ?_
      refine xr_go 2 (pc' := 71) (lo' := [some (.ref v0), none, some (.long v2), none, some (.int v4), some (.int v5)]) (st' := [.long (x1 ||| v2), .int v5, .ref v0]) (μ' := μ) rfl ?_
      obtain ⟨μ2, hμ2, h⟩ := Option.bind_eq_some_iff.mp h
      refine xr_opM (pc' := 72) (lo' := [some (.ref v0), none, some (.long v2), none, some (.int v4), some (.int v5)]) (st' := []) (o := stAL μ v0 v5 (x1 ||| v2)) rfl hμ2 ?_
      refine xr_forget (lo := [some (.ref v0), none, some (.long v2), none, some (.int v4), some (.int v5)]) ⟨rfl, rfl, rfl, rfl, trivial⟩ ?_
      exact fW_addWith_72_ok h hK
theorem fW_addWith_L47_lp {d : Nat} {v0 : Nat} {v2 : Int64} {v4 : Int32} {v5 : Int32} {μ : xM} {rv : Option Value} {μf : xM} {out : xM} (h : xwh (fun s : Int32 × xM => fW_addWith_L47 v0 v2 v4 s.1 s.2) (v5, μ) = some out) (hK : fW_addWith_K rv μf out) : xRun (d + 0) 131 47 [some (.ref v0), none, some (.long v2), none, some (.int v4), some (.int v5)] [] μ rv μf :=
  xwh_ind (Rh := fun s : Int32 × xM => xRun (d + 0) 131 47 [some (.ref v0), none, some (.long v2), none, some (.int v4), some (.int s.1)] [] s.2 rv μf) (Co := fW_addWith_K rv μf) (fun s o hb hk => fW_addWith_L47_ok hb hk) h hK
noncomputable def fW_addWith_38  (v0 : Nat) (v1 : Int32) (v2 : Int64) (μ : xM) : Option (xM) := xwh (fun s : Int32 × xM => fW_addWith_L47 v0 v2 (v1 >>> ((xc 6) &&& 31)) s.1 s.2) (xc 0, μ)
theorem fW_addWith_38_ok {d : Nat} {v0 : Nat} {v1 : Int32} {v2 : Int64} {μ : xM} {rv : Option Value} {μf : xM} {out : xM} (h : fW_addWith_38 v0 v1 v2 μ = some out) (hK : fW_addWith_K rv μf out) : xRun (d + 0) 131 38 [some (.ref v0), some (.int v1), some (.long v2), none, none, none] [] μ rv μf := by
  unfold fW_addWith_38 at h
  refine xr_go 6 (pc' := 47) (lo' := [some (.ref v0), some (.int v1), some (.long v2), none, some (.int (v1 >>> ((xc 6) &&& 31))), some (.int (xc 0))]) (st' := []) (μ' := μ) rfl ?_
  refine xr_forget (lo := [some (.ref v0), none, some (.long v2), none, some (.int (v1 >>> ((xc 6) &&& 31))), some (.int (xc 0))]) ⟨rfl, rfl, rfl, rfl, trivial⟩ ?_
  exact fW_addWith_L47_lp h hK
noncomputable def fW_addWith_32  (v0 : Nat) (v1 : Int32) (v2 : Int64) (v4 : Int32) (μ : xM) : Option ((Int64 × Int32) ⊕ (xM)) := some (.inl ((v2, v4 + xc 1)))
theorem fW_addWith_32_ok {d : Nat} {v0 : Nat} {v1 : Int32} {v2 : Int64} {v4 : Int32} {μ : xM} {rv : Option Value} {μf : xM} {out : (Int64 × Int32) ⊕ (xM)} (h : fW_addWith_32 v0 v1 v2 v4 μ = some out) (hK : fW_addWith_K7 v0 v1 μ d rv μf out) : xRun (d + 0) 131 32 [some (.ref v0), some (.int v1), some (.long v2), none, some (.int v4), none] [] μ rv μf := by
  unfold fW_addWith_32 at h
  refine xr_go 2 (pc' := 7) (lo' := [some (.ref v0), some (.int v1), some (.long v2), none, some (.int (v4 + xc 1)), none]) (st' := []) (μ' := μ) rfl ?_
  refine xr_forget (lo := [some (.ref v0), some (.int v1), some (.long v2), none, some (.int (v4 + xc 1)), none]) ⟨rfl, rfl, rfl, rfl, trivial⟩ ?_
  have ho := Option.some.inj h
  subst ho
  exact hK
noncomputable def fW_addWith_L7  (v0 : Nat) (v1 : Int32) (v2 : Int64) (v4 : Int32) (μ : xM) : Option ((Int64 × Int32) ⊕ (xM)) := if (xc 6) ≤ v4 then ((fW_addWith_38 v0 v1 v2 μ).map (fun o => .inr o)) else (if ((v1 >>> (v4 &&& 31)) &&& (xc 1)) = 0 then (fW_addWith_32 v0 v1 v2 v4 μ) else ((ldAL μ 1 v4).bind fun x3 => fW_addWith_32 v0 v1 (v2 &&& x3) v4 μ))
theorem fW_addWith_L7_ok {d : Nat} {v0 : Nat} {v1 : Int32} {v2 : Int64} {v4 : Int32} {μ : xM} {rv : Option Value} {μf : xM} {out : (Int64 × Int32) ⊕ (xM)} (h : fW_addWith_L7 v0 v1 v2 v4 μ = some out) (hK : fW_addWith_K7 v0 v1 μ d rv μf out) : xRun (d + 0) 131 7 [some (.ref v0), some (.int v1), some (.long v2), none, some (.int v4), none] [] μ rv μf := by
  unfold fW_addWith_L7 at h
  refine xr_go 2 (pc' := 11) (lo' := [some (.ref v0), some (.int v1), some (.long v2), none, some (.int v4), none]) (st' := [.int (xc 6), .int v4]) (μ' := μ) rfl ?_
  refine xr_icmp (pct := 38) rfl rfl rfl (fun hc => ?_) (fun hc => ?_)
  · replace h := (if_pos (of_decide_eq_true hc)).symm.trans h
    refine xr_forget (lo := [some (.ref v0), some (.int v1), some (.long v2), none, none, none]) ⟨rfl, rfl, rfl, trivial⟩ ?_
    obtain ⟨o, h2, rfl⟩ := Option.map_eq_some_iff.mp h
    exact fW_addWith_38_ok h2 hK
  · replace h := (if_neg (of_decide_eq_false hc)).symm.trans h
    refine xr_go 5 (pc' := 20) (lo' := [some (.ref v0), some (.int v1), some (.long v2), none, some (.int v4), none]) (st' := [.int ((v1 >>> (v4 &&& 31)) &&& (xc 1))]) (μ' := μ) rfl ?_
    refine xr_ifc (pct := 32) rfl rfl rfl (fun hc => ?_) (fun hc => ?_)
    · replace h := (if_pos (of_decide_eq_true hc)).symm.trans h
      refine xr_forget (lo := [some (.ref v0), some (.int v1), some (.long v2), none, some (.int v4), none]) ⟨rfl, rfl, rfl, rfl, trivial⟩ ?_
      exact fW_addWith_32_ok h hK
    · replace h := (if_neg (of_decide_eq_false hc)).symm.trans h
      refine xr_go 3 (pc' := 29) (lo' := [some (.ref v0), some (.int v1), some (.long v2), none, some (.int v4), none]) (st' := [.int v4, .ref 1, .long v2]) (μ' := μ) rfl ?_
      obtain ⟨x3, hx3, h⟩ := Option.bind_eq_some_iff.mp h
      refine xr_opJ (pc' := 30) (lo' := [some (.ref v0), some (.int v1), some (.long v2), none, some (.int v4), none]) (st' := [.long v2]) (o := ldAL μ 1 v4) rfl hx3 ?_
      refine xr_go 2 (pc' := 32) (lo' := [some (.ref v0), some (.int v1), some (.long (v2 &&& x3)), none, some (.int v4), none]) (st' := []) (μ' := μ) rfl ?_
      refine xr_forget (lo := [some (.ref v0), some (.int v1), some (.long (v2 &&& x3)), none, some (.int v4), none]) ⟨rfl, rfl, rfl, rfl, trivial⟩ ?_
      exact fW_addWith_32_ok h hK
theorem fW_addWith_L7_lp {d : Nat} {v0 : Nat} {v1 : Int32} {v2 : Int64} {v4 : Int32} {μ : xM} {rv : Option Value} {μf : xM} {out : xM} (h : xwh (fun s : Int64 × Int32 => fW_addWith_L7 v0 v1 s.1 s.2 μ) (v2, v4) = some out) (hK : fW_addWith_K rv μf out) : xRun (d + 0) 131 7 [some (.ref v0), some (.int v1), some (.long v2), none, some (.int v4), none] [] μ rv μf :=
  xwh_ind (Rh := fun s : Int64 × Int32 => xRun (d + 0) 131 7 [some (.ref v0), some (.int v1), some (.long s.1), none, some (.int s.2), none] [] μ rv μf) (Co := fW_addWith_K rv μf) (fun s o hb hk => fW_addWith_L7_ok hb hk) h hK
noncomputable def fW_addWith_0  (v0 : Nat) (v1 : Int32) (μ : xM) : Option (xM) := xwh (fun s : Int64 × Int32 => fW_addWith_L7 v0 v1 s.1 s.2 μ) (Int64.ofNat 18446744073709551615, xc 0)
theorem fW_addWith_0_ok {d : Nat} {v0 : Nat} {v1 : Int32} {μ : xM} {rv : Option Value} {μf : xM} {out : xM} (h : fW_addWith_0 v0 v1 μ = some out) (hK : fW_addWith_K rv μf out) : xRun (d + 0) 131 0 [some (.ref v0), some (.int v1), none, none, none, none] [] μ rv μf := by
  unfold fW_addWith_0 at h
  refine xr_go 4 (pc' := 7) (lo' := [some (.ref v0), some (.int v1), some (.long (Int64.ofNat 18446744073709551615)), none, some (.int (xc 0)), none]) (st' := []) (μ' := μ) rfl ?_
  refine xr_forget (lo := [some (.ref v0), some (.int v1), some (.long (Int64.ofNat 18446744073709551615)), none, some (.int (xc 0)), none]) ⟨rfl, rfl, rfl, rfl, trivial⟩ ?_
  exact fW_addWith_L7_lp h hK
noncomputable def fW_addWith (a0 : Nat) (a1 : Int32) (μ : xM) : Option (xM) := fW_addWith_0 a0 a1 μ
theorem fW_addWith_ok {d : Nat} {a0 : Nat} {a1 : Int32} {μ : xM} {o : xM} (h : fW_addWith a0 a1 μ = some o) : xRun (d + 0) 131 0 [some (.ref a0), some (.int a1), none, none, none, none] [] μ none o :=
  xr_forget (lo := [some (.ref a0), some (.int a1), none, none, none, none]) (⟨rfl, rfl, trivial⟩) (fW_addWith_0_ok (d := d) h (show fW_addWith_K _ _ o from ⟨rfl, rfl⟩))
-- KeptAnswers$Worlds.keepAlike([J[JZ)V 
def fW_keepAlike_K (rv : Option Value) (μf : xM) : (xM) → Prop := fun o => rv = none ∧ μf = o
def fW_keepAlike_K2 (v0 : Nat) (v1 : Nat) (v2 : Int32) (d : Nat) (rv : Option Value) (μf : xM) : ((Int32 × xM) ⊕ (xM)) → Prop := Sum.elim (fun s : Int32 × xM => xRun (d + 0) 132 2 [some (.ref v0), some (.ref v1), some (.int v2), some (.int s.1)] [] s.2 rv μf) (fW_keepAlike_K rv μf)
noncomputable def fW_keepAlike_29  (v0 : Nat) (v1 : Nat) (v2 : Int32) (v3 : Int32) (s0 : Int64) (s1 : Int64) (s2 : Int32) (s3 : Nat) (μ : xM) : Option ((Int32 × xM) ⊕ (xM)) := (stAL μ s3 s2 (s1 &&& s0)).bind fun μ1 => some (.inl ((v3 + xc 1, μ1)))
theorem fW_keepAlike_29_ok {d : Nat} {v0 : Nat} {v1 : Nat} {v2 : Int32} {v3 : Int32} {s0 : Int64} {s1 : Int64} {s2 : Int32} {s3 : Nat} {μ : xM} {rv : Option Value} {μf : xM} {out : (Int32 × xM) ⊕ (xM)} (h : fW_keepAlike_29 v0 v1 v2 v3 s0 s1 s2 s3 μ = some out) (hK : fW_keepAlike_K2 v0 v1 v2 d rv μf out) : xRun (d + 0) 132 29 [some (.ref v0), some (.ref v1), some (.int v2), some (.int v3)] [.long s0, .long s1, .int s2, .ref s3] μ rv μf := by
  unfold fW_keepAlike_29 at h
  refine xr_go 1 (pc' := 30) (lo' := [some (.ref v0), some (.ref v1), some (.int v2), some (.int v3)]) (st' := [.long (s1 &&& s0), .int s2, .ref s3]) (μ' := μ) rfl ?_
  obtain ⟨μ1, hμ1, h⟩ := Option.bind_eq_some_iff.mp h
  refine xr_opM (pc' := 31) (lo' := [some (.ref v0), some (.ref v1), some (.int v2), some (.int v3)]) (st' := []) (o := stAL μ s3 s2 (s1 &&& s0)) rfl hμ1 ?_
  refine xr_go 2 (pc' := 2) (lo' := [some (.ref v0), some (.ref v1), some (.int v2), some (.int (v3 + xc 1))]) (st' := []) (μ' := μ1) rfl ?_
  refine xr_forget (lo := [some (.ref v0), some (.ref v1), some (.int v2), some (.int (v3 + xc 1))]) ⟨rfl, rfl, rfl, rfl, trivial⟩ ?_
  have ho := Option.some.inj h
  subst ho
  exact hK
noncomputable def fW_keepAlike_L2  (v0 : Nat) (v1 : Nat) (v2 : Int32) (v3 : Int32) (μ : xM) : Option ((Int32 × xM) ⊕ (xM)) := if (xc 64) ≤ v3 then (some (.inr μ)) else ((ldAL μ v0 v3).bind fun x2 => if v2 = 0 then ((ldAL μ v1 v3).bind fun x3 => fW_keepAlike_29 v0 v1 v2 v3 (x3 ^^^ (Int64.ofNat 18446744073709551615)) x2 v3 v0 μ) else ((ldAL μ v1 v3).bind fun x4 => fW_keepAlike_29 v0 v1 v2 v3 x4 x2 v3 v0 μ))
theorem fW_keepAlike_L2_ok {d : Nat} {v0 : Nat} {v1 : Nat} {v2 : Int32} {v3 : Int32} {μ : xM} {rv : Option Value} {μf : xM} {out : (Int32 × xM) ⊕ (xM)} (h : fW_keepAlike_L2 v0 v1 v2 v3 μ = some out) (hK : fW_keepAlike_K2 v0 v1 v2 d rv μf out) : xRun (d + 0) 132 2 [some (.ref v0), some (.ref v1), some (.int v2), some (.int v3)] [] μ rv μf := by
  unfold fW_keepAlike_L2 at h
  refine xr_go 2 (pc' := 5) (lo' := [some (.ref v0), some (.ref v1), some (.int v2), some (.int v3)]) (st' := [.int (xc 64), .int v3]) (μ' := μ) rfl ?_
  refine xr_icmp (pct := 37) rfl rfl rfl (fun hc => ?_) (fun hc => ?_)
  · replace h := (if_pos (of_decide_eq_true hc)).symm.trans h
    have ho := Option.some.inj h
    subst ho
    obtain ⟨rfl, rfl⟩ := hK
    exact xr_ret (rv := none) rfl rfl (rfl)
  · replace h := (if_neg (of_decide_eq_false hc)).symm.trans h
    refine xr_go 3 (pc' := 11) (lo' := [some (.ref v0), some (.ref v1), some (.int v2), some (.int v3)]) (st' := [.int v3, .ref v0, .int v3, .ref v0]) (μ' := μ) rfl ?_
    obtain ⟨x2, hx2, h⟩ := Option.bind_eq_some_iff.mp h
    refine xr_opJ (pc' := 12) (lo' := [some (.ref v0), some (.ref v1), some (.int v2), some (.int v3)]) (st' := [.int v3, .ref v0]) (o := ldAL μ v0 v3) rfl hx2 ?_
    refine xr_go 1 (pc' := 13) (lo' := [some (.ref v0), some (.ref v1), some (.int v2), some (.int v3)]) (st' := [.int v2, .long x2, .int v3, .ref v0]) (μ' := μ) rfl ?_
    refine xr_ifc (pct := 22) rfl rfl rfl (fun hc => ?_) (fun hc => ?_)
    · replace h := (if_pos (of_decide_eq_true hc)).symm.trans h
      refine xr_go 2 (pc' := 24) (lo' := [some (.ref v0), some (.ref v1), some (.int v2), some (.int v3)]) (st' := [.int v3, .ref v1, .long x2, .int v3, .ref v0]) (μ' := μ) rfl ?_
      obtain ⟨x3, hx3, h⟩ := Option.bind_eq_some_iff.mp h
      refine xr_opJ (pc' := 25) (lo' := [some (.ref v0), some (.ref v1), some (.int v2), some (.int v3)]) (st' := [.long x2, .int v3, .ref v0]) (o := ldAL μ v1 v3) rfl hx3 ?_
      refine xr_go 2 (pc' := 29) (lo' := [some (.ref v0), some (.ref v1), some (.int v2), some (.int v3)]) (st' := [.long (x3 ^^^ (Int64.ofNat 18446744073709551615)), .long x2, .int v3, .ref v0]) (μ' := μ) rfl ?_
      refine xr_forget (lo := [some (.ref v0), some (.ref v1), some (.int v2), some (.int v3)]) ⟨rfl, rfl, rfl, rfl, trivial⟩ ?_
      exact fW_keepAlike_29_ok h hK
    · replace h := (if_neg (of_decide_eq_false hc)).symm.trans h
      refine xr_go 2 (pc' := 18) (lo' := [some (.ref v0), some (.ref v1), some (.int v2), some (.int v3)]) (st' := [.int v3, .ref v1, .long x2, .int v3, .ref v0]) (μ' := μ) rfl ?_
      obtain ⟨x4, hx4, h⟩ := Option.bind_eq_some_iff.mp h
      refine xr_opJ (pc' := 19) (lo' := [some (.ref v0), some (.ref v1), some (.int v2), some (.int v3)]) (st' := [.long x2, .int v3, .ref v0]) (o := ldAL μ v1 v3) rfl hx4 ?_
      refine xr_go 1 (pc' := 29) (lo' := [some (.ref v0), some (.ref v1), some (.int v2), some (.int v3)]) (st' := [.long x4, .long x2, .int v3, .ref v0]) (μ' := μ) rfl ?_
      refine xr_forget (lo := [some (.ref v0), some (.ref v1), some (.int v2), some (.int v3)]) ⟨rfl, rfl, rfl, rfl, trivial⟩ ?_
      exact fW_keepAlike_29_ok h hK
theorem fW_keepAlike_L2_lp {d : Nat} {v0 : Nat} {v1 : Nat} {v2 : Int32} {v3 : Int32} {μ : xM} {rv : Option Value} {μf : xM} {out : xM} (h : xwh (fun s : Int32 × xM => fW_keepAlike_L2 v0 v1 v2 s.1 s.2) (v3, μ) = some out) (hK : fW_keepAlike_K rv μf out) : xRun (d + 0) 132 2 [some (.ref v0), some (.ref v1), some (.int v2), some (.int v3)] [] μ rv μf :=
  xwh_ind (Rh := fun s : Int32 × xM => xRun (d + 0) 132 2 [some (.ref v0), some (.ref v1), some (.int v2), some (.int s.1)] [] s.2 rv μf) (Co := fW_keepAlike_K rv μf) (fun s o hb hk => fW_keepAlike_L2_ok hb hk) h hK
noncomputable def fW_keepAlike_0  (v0 : Nat) (v1 : Nat) (v2 : Int32) (μ : xM) : Option (xM) := xwh (fun s : Int32 × xM => fW_keepAlike_L2 v0 v1 v2 s.1 s.2) (xc 0, μ)
theorem fW_keepAlike_0_ok {d : Nat} {v0 : Nat} {v1 : Nat} {v2 : Int32} {μ : xM} {rv : Option Value} {μf : xM} {out : xM} (h : fW_keepAlike_0 v0 v1 v2 μ = some out) (hK : fW_keepAlike_K rv μf out) : xRun (d + 0) 132 0 [some (.ref v0), some (.ref v1), some (.int v2), none] [] μ rv μf := by
  unfold fW_keepAlike_0 at h
  refine xr_go 2 (pc' := 2) (lo' := [some (.ref v0), some (.ref v1), some (.int v2), some (.int (xc 0))]) (st' := []) (μ' := μ) rfl ?_
  refine xr_forget (lo := [some (.ref v0), some (.ref v1), some (.int v2), some (.int (xc 0))]) ⟨rfl, rfl, rfl, rfl, trivial⟩ ?_
  exact fW_keepAlike_L2_lp h hK
noncomputable def fW_keepAlike (a0 : Nat) (a1 : Nat) (a2 : Int32) (μ : xM) : Option (xM) := fW_keepAlike_0 a0 a1 a2 μ
theorem fW_keepAlike_ok {d : Nat} {a0 : Nat} {a1 : Nat} {a2 : Int32} {μ : xM} {o : xM} (h : fW_keepAlike a0 a1 a2 μ = some o) : xRun (d + 0) 132 0 [some (.ref a0), some (.ref a1), some (.int a2), none] [] μ none o :=
  xr_forget (lo := [some (.ref a0), some (.ref a1), some (.int a2), none]) (⟨rfl, rfl, rfl, trivial⟩) (fW_keepAlike_0_ok (d := d) h (show fW_keepAlike_K _ _ o from ⟨rfl, rfl⟩))
-- KeptAnswers$Worlds.dropDoubleX(II)V 
def fW_dropDoubleX_K (rv : Option Value) (μf : xM) : (xM) → Prop := fun o => rv = none ∧ μf = o
noncomputable def fW_dropDoubleX_0  (v0 : Nat) (v1 : Int32) (v2 : Int32) (μ : xM) : Option (xM) := (ldFR μ v0 8 3).bind fun x1 => (fJA_fill x1 (Int64.ofNat 0) μ).bind fun r2 => (ldFR r2 v0 8 3).bind fun x3 => (fX_rowBit v1 v2 (xc 0) r2).bind fun r4 => (fX_rowBit v1 v2 (xc 1) r2).bind fun r5 => (fW_addWith x3 (((xc 1) <<< (r4 &&& 31)) ||| ((xc 1) <<< (r5 &&& 31))) r2).bind fun r6 => (ldFR r6 v0 8 0).bind fun x7 => (ldFR r6 v0 8 3).bind fun x8 => (fW_keepAlike x7 x8 (xc 0) r6).bind fun r9 => some r9
theorem fW_dropDoubleX_0_ok {d : Nat} {v0 : Nat} {v1 : Int32} {v2 : Int32} {μ : xM} {rv : Option Value} {μf : xM} {out : xM} (h : fW_dropDoubleX_0 v0 v1 v2 μ = some out) (hK : fW_dropDoubleX_K rv μf out) : xRun (d + 1) 128 0 [some (.ref v0), some (.int v1), some (.int v2)] [] μ rv μf := by
  unfold fW_dropDoubleX_0 at h
  refine xr_go 1 (pc' := 1) (lo' := [some (.ref v0), some (.int v1), some (.int v2)]) (st' := [.ref v0]) (μ' := μ) rfl ?_
  obtain ⟨x1, hx1, h⟩ := Option.bind_eq_some_iff.mp h
  refine xr_opA (pc' := 4) (lo' := [some (.ref v0), some (.int v1), some (.int v2)]) (st' := []) (o := ldFR μ v0 8 3) rfl hx1 ?_
  refine xr_go 1 (pc' := 5) (lo' := [some (.ref v0), some (.int v1), some (.int v2)]) (st' := [.long (Int64.ofNat 0), .ref x1]) (μ' := μ) rfl ?_
  obtain ⟨r2, hr2, h⟩ := Option.bind_eq_some_iff.mp h
  refine xr_callS (j := 225) (d' := (d + 0)) (rv1 := none) (μ1 := r2) (rest := []) (As := [.ref x1, .long (Int64.ofNat 0)]) rfl rfl rfl rfl (Nat.le_of_ble_eq_true rfl) rfl (by exact (fJA_fill_ok (d := d + (0)) hr2)) ?_
  refine xr_go 1 (pc' := 9) (lo' := [some (.ref v0), some (.int v1), some (.int v2)]) (st' := [.ref v0]) (μ' := r2) rfl ?_
  obtain ⟨x3, hx3, h⟩ := Option.bind_eq_some_iff.mp h
  refine xr_opA (pc' := 12) (lo' := [some (.ref v0), some (.int v1), some (.int v2)]) (st' := []) (o := ldFR r2 v0 8 3) rfl hx3 ?_
  refine xr_go 4 (pc' := 16) (lo' := [some (.ref v0), some (.int v1), some (.int v2)]) (st' := [.int (xc 0), .int v2, .int v1, .int (xc 1), .ref x3]) (μ' := r2) rfl ?_
  obtain ⟨r4, hr4, h⟩ := Option.bind_eq_some_iff.mp h
  refine xr_callS (j := 44) (d' := (d + 0)) (rv1 := some (.int r4)) (μ1 := r2) (rest := [.int (xc 1), .ref x3]) (As := [.int v1, .int v2, .int (xc 0)]) rfl rfl rfl rfl (Nat.le_of_ble_eq_true rfl) rfl (by exact (fX_rowBit_ok (d := d + (0)) hr4)) ?_
  refine xr_go 5 (pc' := 24) (lo' := [some (.ref v0), some (.int v1), some (.int v2)]) (st' := [.int (xc 1), .int v2, .int v1, .int (xc 1), .int ((xc 1) <<< (r4 &&& 31)), .ref x3]) (μ' := r2) rfl ?_
  obtain ⟨r5, hr5, h⟩ := Option.bind_eq_some_iff.mp h
  refine xr_callS (j := 44) (d' := (d + 0)) (rv1 := some (.int r5)) (μ1 := r2) (rest := [.int (xc 1), .int ((xc 1) <<< (r4 &&& 31)), .ref x3]) (As := [.int v1, .int v2, .int (xc 1)]) rfl rfl rfl rfl (Nat.le_of_ble_eq_true rfl) rfl (by exact (fX_rowBit_ok (d := d + (0)) hr5)) ?_
  refine xr_go 2 (pc' := 29) (lo' := [some (.ref v0), some (.int v1), some (.int v2)]) (st' := [.int (((xc 1) <<< (r4 &&& 31)) ||| ((xc 1) <<< (r5 &&& 31))), .ref x3]) (μ' := r2) rfl ?_
  obtain ⟨r6, hr6, h⟩ := Option.bind_eq_some_iff.mp h
  refine xr_callS (j := 131) (d' := (d + 0)) (rv1 := none) (μ1 := r6) (rest := []) (As := [.ref x3, .int (((xc 1) <<< (r4 &&& 31)) ||| ((xc 1) <<< (r5 &&& 31)))]) rfl rfl rfl rfl (Nat.le_of_ble_eq_true rfl) rfl (by exact (fW_addWith_ok (d := d + (0)) hr6)) ?_
  refine xr_go 1 (pc' := 33) (lo' := [some (.ref v0), some (.int v1), some (.int v2)]) (st' := [.ref v0]) (μ' := r6) rfl ?_
  obtain ⟨x7, hx7, h⟩ := Option.bind_eq_some_iff.mp h
  refine xr_opA (pc' := 36) (lo' := [some (.ref v0), some (.int v1), some (.int v2)]) (st' := []) (o := ldFR r6 v0 8 0) rfl hx7 ?_
  refine xr_go 1 (pc' := 37) (lo' := [some (.ref v0), some (.int v1), some (.int v2)]) (st' := [.ref v0, .ref x7]) (μ' := r6) rfl ?_
  obtain ⟨x8, hx8, h⟩ := Option.bind_eq_some_iff.mp h
  refine xr_opA (pc' := 40) (lo' := [some (.ref v0), some (.int v1), some (.int v2)]) (st' := [.ref x7]) (o := ldFR r6 v0 8 3) rfl hx8 ?_
  refine xr_go 1 (pc' := 41) (lo' := [some (.ref v0), some (.int v1), some (.int v2)]) (st' := [.int (xc 0), .ref x8, .ref x7]) (μ' := r6) rfl ?_
  obtain ⟨r9, hr9, h⟩ := Option.bind_eq_some_iff.mp h
  refine xr_callS (j := 132) (d' := (d + 0)) (rv1 := none) (μ1 := r9) (rest := []) (As := [.ref x7, .ref x8, .int (xc 0)]) rfl rfl rfl rfl (Nat.le_of_ble_eq_true rfl) rfl (by exact (fW_keepAlike_ok (d := d + (0)) hr9)) ?_
  have ho := Option.some.inj h
  subst ho
  obtain ⟨rfl, rfl⟩ := hK
  exact xr_ret (rv := none) rfl rfl (rfl)
noncomputable def fW_dropDoubleX (a0 : Nat) (a1 : Int32) (a2 : Int32) (μ : xM) : Option (xM) := xgd μ a0 8 (fW_dropDoubleX_0 a0 a1 a2 μ)
theorem fW_dropDoubleX_kd {a0 : Nat} {a1 : Int32} {a2 : Int32} {μ : xM} {o : xM} (h : fW_dropDoubleX a0 a1 a2 μ = some o) : (xK μ a0).1 = 10 + 8 := (xgd_some h).1
theorem fW_dropDoubleX_ok {d : Nat} {a0 : Nat} {a1 : Int32} {a2 : Int32} {μ : xM} {o : xM} (h : fW_dropDoubleX a0 a1 a2 μ = some o) : xRun (d + 1) 128 0 [some (.ref a0), some (.int a1), some (.int a2)] [] μ none o :=
  xr_forget (lo := [some (.ref a0), some (.int a1), some (.int a2)]) (⟨rfl, rfl, rfl, trivial⟩) (fW_dropDoubleX_0_ok (d := d) (xgd_some h).2 (show fW_dropDoubleX_K _ _ o from ⟨rfl, rfl⟩))
-- KeptAnswers$Worlds.spread(LKeptAnswers$Picture;)V 
def fW_spread_K (rv : Option Value) (μf : xM) : (xM) → Prop := fun o => rv = none ∧ μf = o
def fW_spread_K31 (v0 : Nat) (v1 : Nat) (v2 : Int32) (d : Nat) (rv : Option Value) (μf : xM) : ((Int32 × xM) ⊕ (xM)) → Prop := Sum.elim (fun s : Int32 × xM => xRun (d + 2) 130 31 [some (.ref v0), some (.ref v1), some (.int v2), some (.int s.1)] [] s.2 rv μf) (fW_spread_K rv μf)
def fW_spread_K2 (v0 : Nat) (v1 : Nat) (d : Nat) (rv : Option Value) (μf : xM) : ((Int32 × xM) ⊕ (xM)) → Prop := Sum.elim (fun s : Int32 × xM => xRun (d + 2) 130 2 [some (.ref v0), some (.ref v1), some (.int s.1), none] [] s.2 rv μf) (fW_spread_K rv μf)
noncomputable def fW_spread_64  (v0 : Nat) (v1 : Nat) (v2 : Int32) (v3 : Int32) (μ : xM) : Option ((Int32 × xM) ⊕ (xM)) := some (.inl ((v3 + xc 4, μ)))
theorem fW_spread_64_ok {d : Nat} {v0 : Nat} {v1 : Nat} {v2 : Int32} {v3 : Int32} {μ : xM} {rv : Option Value} {μf : xM} {out : (Int32 × xM) ⊕ (xM)} (h : fW_spread_64 v0 v1 v2 v3 μ = some out) (hK : fW_spread_K31 v0 v1 v2 d rv μf out) : xRun (d + 2) 130 64 [some (.ref v0), some (.ref v1), some (.int v2), some (.int v3)] [] μ rv μf := by
  unfold fW_spread_64 at h
  refine xr_go 2 (pc' := 31) (lo' := [some (.ref v0), some (.ref v1), some (.int v2), some (.int (v3 + xc 4))]) (st' := []) (μ' := μ) rfl ?_
  refine xr_forget (lo := [some (.ref v0), some (.ref v1), some (.int v2), some (.int (v3 + xc 4))]) ⟨rfl, rfl, rfl, rfl, trivial⟩ ?_
  have ho := Option.some.inj h
  subst ho
  exact hK
noncomputable def fW_spread_L31  (v0 : Nat) (v1 : Nat) (v2 : Int32) (v3 : Int32) (μ : xM) : Option ((Int32 × xM) ⊕ (xM)) := if (xc 128) ≤ v3 then (some (.inr μ)) else ((fP_fits v3 v2 μ).bind fun r1 => if r1 = 0 then (fW_spread_64 v0 v1 v2 v3 μ) else ((ldFR μ v0 8 2).bind fun x2 => (fP_headBy v1 v3 μ).bind fun r3 => (ldAR μ x2 r3).bind fun x4 => (fP_rowsBy v1 v3 μ).bind fun r5 => (fW_addWith x4 r5 μ).bind fun r6 => fW_spread_64 v0 v1 v2 v3 r6))
theorem fW_spread_L31_ok {d : Nat} {v0 : Nat} {v1 : Nat} {v2 : Int32} {v3 : Int32} {μ : xM} {rv : Option Value} {μf : xM} {out : (Int32 × xM) ⊕ (xM)} (h : fW_spread_L31 v0 v1 v2 v3 μ = some out) (hK : fW_spread_K31 v0 v1 v2 d rv μf out) : xRun (d + 2) 130 31 [some (.ref v0), some (.ref v1), some (.int v2), some (.int v3)] [] μ rv μf := by
  unfold fW_spread_L31 at h
  refine xr_go 2 (pc' := 35) (lo' := [some (.ref v0), some (.ref v1), some (.int v2), some (.int v3)]) (st' := [.int (xc 128), .int v3]) (μ' := μ) rfl ?_
  refine xr_icmp (pct := 70) rfl rfl rfl (fun hc => ?_) (fun hc => ?_)
  · replace h := (if_pos (of_decide_eq_true hc)).symm.trans h
    have ho := Option.some.inj h
    subst ho
    obtain ⟨rfl, rfl⟩ := hK
    exact xr_ret (rv := none) rfl rfl (rfl)
  · replace h := (if_neg (of_decide_eq_false hc)).symm.trans h
    refine xr_go 2 (pc' := 40) (lo' := [some (.ref v0), some (.ref v1), some (.int v2), some (.int v3)]) (st' := [.int v2, .int v3]) (μ' := μ) rfl ?_
    obtain ⟨r1, hr1, h⟩ := Option.bind_eq_some_iff.mp h
    refine xr_callS (j := 86) (d' := (d + 1)) (rv1 := some (.int r1)) (μ1 := μ) (rest := []) (As := [.int v3, .int v2]) rfl rfl rfl rfl (Nat.le_of_ble_eq_true rfl) rfl (by exact (fP_fits_ok (d := d + (1)) hr1)) ?_
    refine xr_ifc (pct := 64) rfl rfl rfl (fun hc => ?_) (fun hc => ?_)
    · replace h := (if_pos (of_decide_eq_true hc)).symm.trans h
      refine xr_forget (lo := [some (.ref v0), some (.ref v1), some (.int v2), some (.int v3)]) ⟨rfl, rfl, rfl, rfl, trivial⟩ ?_
      exact fW_spread_64_ok h hK
    · replace h := (if_neg (of_decide_eq_false hc)).symm.trans h
      refine xr_go 1 (pc' := 47) (lo' := [some (.ref v0), some (.ref v1), some (.int v2), some (.int v3)]) (st' := [.ref v0]) (μ' := μ) rfl ?_
      obtain ⟨x2, hx2, h⟩ := Option.bind_eq_some_iff.mp h
      refine xr_opA (pc' := 50) (lo' := [some (.ref v0), some (.ref v1), some (.int v2), some (.int v3)]) (st' := []) (o := ldFR μ v0 8 2) rfl hx2 ?_
      refine xr_go 2 (pc' := 52) (lo' := [some (.ref v0), some (.ref v1), some (.int v2), some (.int v3)]) (st' := [.int v3, .ref v1, .ref x2]) (μ' := μ) rfl ?_
      obtain ⟨r3, hr3, h⟩ := Option.bind_eq_some_iff.mp h
      refine xr_callV (j := 88) (d' := (d + 1)) (rv1 := some (.int r3)) (μ1 := μ) (rest := [.ref x2]) (As := [.int v3]) rfl rfl rfl rfl (Nat.le_of_ble_eq_true rfl) (fP_headBy_kd hr3) rfl (by exact (fP_headBy_ok (d := d + (0)) hr3)) ?_
      obtain ⟨x4, hx4, h⟩ := Option.bind_eq_some_iff.mp h
      refine xr_opA (pc' := 56) (lo' := [some (.ref v0), some (.ref v1), some (.int v2), some (.int v3)]) (st' := []) (o := ldAR μ x2 r3) rfl hx4 ?_
      refine xr_go 2 (pc' := 58) (lo' := [some (.ref v0), some (.ref v1), some (.int v2), some (.int v3)]) (st' := [.int v3, .ref v1, .ref x4]) (μ' := μ) rfl ?_
      obtain ⟨r5, hr5, h⟩ := Option.bind_eq_some_iff.mp h
      refine xr_callV (j := 87) (d' := (d + 1)) (rv1 := some (.int r5)) (μ1 := μ) (rest := [.ref x4]) (As := [.int v3]) rfl rfl rfl rfl (Nat.le_of_ble_eq_true rfl) (fP_rowsBy_kd hr5) rfl (by exact (fP_rowsBy_ok (d := d + (0)) hr5)) ?_
      obtain ⟨r6, hr6, h⟩ := Option.bind_eq_some_iff.mp h
      refine xr_callS (j := 131) (d' := (d + 1)) (rv1 := none) (μ1 := r6) (rest := []) (As := [.ref x4, .int r5]) rfl rfl rfl rfl (Nat.le_of_ble_eq_true rfl) rfl (by exact (fW_addWith_ok (d := d + (1)) hr6)) ?_
      refine xr_forget (lo := [some (.ref v0), some (.ref v1), some (.int v2), some (.int v3)]) ⟨rfl, rfl, rfl, rfl, trivial⟩ ?_
      exact fW_spread_64_ok h hK
theorem fW_spread_L31_lp {d : Nat} {v0 : Nat} {v1 : Nat} {v2 : Int32} {v3 : Int32} {μ : xM} {rv : Option Value} {μf : xM} {out : xM} (h : xwh (fun s : Int32 × xM => fW_spread_L31 v0 v1 v2 s.1 s.2) (v3, μ) = some out) (hK : fW_spread_K rv μf out) : xRun (d + 2) 130 31 [some (.ref v0), some (.ref v1), some (.int v2), some (.int v3)] [] μ rv μf :=
  xwh_ind (Rh := fun s : Int32 × xM => xRun (d + 2) 130 31 [some (.ref v0), some (.ref v1), some (.int v2), some (.int s.1)] [] s.2 rv μf) (Co := fW_spread_K rv μf) (fun s o hb hk => fW_spread_L31_ok hb hk) h hK
noncomputable def fW_spread_24  (v0 : Nat) (v1 : Nat) (μ : xM) : Option (xM) := (fP_names v1 μ).bind fun r7 => xwh (fun s : Int32 × xM => fW_spread_L31 v0 v1 r7 s.1 s.2) (xc 0, μ)
theorem fW_spread_24_ok {d : Nat} {v0 : Nat} {v1 : Nat} {μ : xM} {rv : Option Value} {μf : xM} {out : xM} (h : fW_spread_24 v0 v1 μ = some out) (hK : fW_spread_K rv μf out) : xRun (d + 2) 130 24 [some (.ref v0), some (.ref v1), none, none] [] μ rv μf := by
  unfold fW_spread_24 at h
  refine xr_go 1 (pc' := 25) (lo' := [some (.ref v0), some (.ref v1), none, none]) (st' := [.ref v1]) (μ' := μ) rfl ?_
  obtain ⟨r7, hr7, h⟩ := Option.bind_eq_some_iff.mp h
  refine xr_callV (j := 82) (d' := (d + 1)) (rv1 := some (.int r7)) (μ1 := μ) (rest := []) (As := []) rfl rfl rfl rfl (Nat.le_of_ble_eq_true rfl) (fP_names_kd hr7) rfl (by exact (fP_names_ok (d := d + (1)) hr7)) ?_
  refine xr_go 3 (pc' := 31) (lo' := [some (.ref v0), some (.ref v1), some (.int r7), some (.int (xc 0))]) (st' := []) (μ' := μ) rfl ?_
  refine xr_forget (lo := [some (.ref v0), some (.ref v1), some (.int r7), some (.int (xc 0))]) ⟨rfl, rfl, rfl, rfl, trivial⟩ ?_
  exact fW_spread_L31_lp h hK
noncomputable def fW_spread_L2  (v0 : Nat) (v1 : Nat) (v2 : Int32) (μ : xM) : Option ((Int32 × xM) ⊕ (xM)) := if (xc 8) ≤ v2 then ((fW_spread_24 v0 v1 μ).map (fun o => .inr o)) else ((ldFR μ v0 8 2).bind fun x8 => (ldAR μ x8 v2).bind fun x9 => (fJA_fill x9 (Int64.ofNat 0) μ).bind fun r10 => some (.inl ((v2 + xc 1, r10))))
theorem fW_spread_L2_ok {d : Nat} {v0 : Nat} {v1 : Nat} {v2 : Int32} {μ : xM} {rv : Option Value} {μf : xM} {out : (Int32 × xM) ⊕ (xM)} (h : fW_spread_L2 v0 v1 v2 μ = some out) (hK : fW_spread_K2 v0 v1 d rv μf out) : xRun (d + 2) 130 2 [some (.ref v0), some (.ref v1), some (.int v2), none] [] μ rv μf := by
  unfold fW_spread_L2 at h
  refine xr_go 2 (pc' := 5) (lo' := [some (.ref v0), some (.ref v1), some (.int v2), none]) (st' := [.int (xc 8), .int v2]) (μ' := μ) rfl ?_
  refine xr_icmp (pct := 24) rfl rfl rfl (fun hc => ?_) (fun hc => ?_)
  · replace h := (if_pos (of_decide_eq_true hc)).symm.trans h
    refine xr_forget (lo := [some (.ref v0), some (.ref v1), none, none]) ⟨rfl, rfl, trivial⟩ ?_
    obtain ⟨o, h2, rfl⟩ := Option.map_eq_some_iff.mp h
    exact fW_spread_24_ok h2 hK
  · replace h := (if_neg (of_decide_eq_false hc)).symm.trans h
    refine xr_go 1 (pc' := 9) (lo' := [some (.ref v0), some (.ref v1), some (.int v2), none]) (st' := [.ref v0]) (μ' := μ) rfl ?_
    obtain ⟨x8, hx8, h⟩ := Option.bind_eq_some_iff.mp h
    refine xr_opA (pc' := 12) (lo' := [some (.ref v0), some (.ref v1), some (.int v2), none]) (st' := []) (o := ldFR μ v0 8 2) rfl hx8 ?_
    refine xr_go 1 (pc' := 13) (lo' := [some (.ref v0), some (.ref v1), some (.int v2), none]) (st' := [.int v2, .ref x8]) (μ' := μ) rfl ?_
    obtain ⟨x9, hx9, h⟩ := Option.bind_eq_some_iff.mp h
    refine xr_opA (pc' := 14) (lo' := [some (.ref v0), some (.ref v1), some (.int v2), none]) (st' := []) (o := ldAR μ x8 v2) rfl hx9 ?_
    refine xr_go 1 (pc' := 15) (lo' := [some (.ref v0), some (.ref v1), some (.int v2), none]) (st' := [.long (Int64.ofNat 0), .ref x9]) (μ' := μ) rfl ?_
    obtain ⟨r10, hr10, h⟩ := Option.bind_eq_some_iff.mp h
    refine xr_callS (j := 225) (d' := (d + 1)) (rv1 := none) (μ1 := r10) (rest := []) (As := [.ref x9, .long (Int64.ofNat 0)]) rfl rfl rfl rfl (Nat.le_of_ble_eq_true rfl) rfl (by exact (fJA_fill_ok (d := d + (1)) hr10)) ?_
    refine xr_go 2 (pc' := 2) (lo' := [some (.ref v0), some (.ref v1), some (.int (v2 + xc 1)), none]) (st' := []) (μ' := r10) rfl ?_
    refine xr_forget (lo := [some (.ref v0), some (.ref v1), some (.int (v2 + xc 1)), none]) ⟨rfl, rfl, rfl, trivial⟩ ?_
    have ho := Option.some.inj h
    subst ho
    exact hK
theorem fW_spread_L2_lp {d : Nat} {v0 : Nat} {v1 : Nat} {v2 : Int32} {μ : xM} {rv : Option Value} {μf : xM} {out : xM} (h : xwh (fun s : Int32 × xM => fW_spread_L2 v0 v1 s.1 s.2) (v2, μ) = some out) (hK : fW_spread_K rv μf out) : xRun (d + 2) 130 2 [some (.ref v0), some (.ref v1), some (.int v2), none] [] μ rv μf :=
  xwh_ind (Rh := fun s : Int32 × xM => xRun (d + 2) 130 2 [some (.ref v0), some (.ref v1), some (.int s.1), none] [] s.2 rv μf) (Co := fW_spread_K rv μf) (fun s o hb hk => fW_spread_L2_ok hb hk) h hK
noncomputable def fW_spread_0  (v0 : Nat) (v1 : Nat) (μ : xM) : Option (xM) := xwh (fun s : Int32 × xM => fW_spread_L2 v0 v1 s.1 s.2) (xc 0, μ)
theorem fW_spread_0_ok {d : Nat} {v0 : Nat} {v1 : Nat} {μ : xM} {rv : Option Value} {μf : xM} {out : xM} (h : fW_spread_0 v0 v1 μ = some out) (hK : fW_spread_K rv μf out) : xRun (d + 2) 130 0 [some (.ref v0), some (.ref v1), none, none] [] μ rv μf := by
  unfold fW_spread_0 at h
  refine xr_go 2 (pc' := 2) (lo' := [some (.ref v0), some (.ref v1), some (.int (xc 0)), none]) (st' := []) (μ' := μ) rfl ?_
  refine xr_forget (lo := [some (.ref v0), some (.ref v1), some (.int (xc 0)), none]) ⟨rfl, rfl, rfl, trivial⟩ ?_
  exact fW_spread_L2_lp h hK
noncomputable def fW_spread (a0 : Nat) (a1 : Nat) (μ : xM) : Option (xM) := xgd μ a0 8 (fW_spread_0 a0 a1 μ)
theorem fW_spread_kd {a0 : Nat} {a1 : Nat} {μ : xM} {o : xM} (h : fW_spread a0 a1 μ = some o) : (xK μ a0).1 = 10 + 8 := (xgd_some h).1
theorem fW_spread_ok {d : Nat} {a0 : Nat} {a1 : Nat} {μ : xM} {o : xM} (h : fW_spread a0 a1 μ = some o) : xRun (d + 2) 130 0 [some (.ref a0), some (.ref a1), none, none] [] μ none o :=
  xr_forget (lo := [some (.ref a0), some (.ref a1), none, none]) (⟨rfl, rfl, trivial⟩) (fW_spread_0_ok (d := d) (xgd_some h).2 (show fW_spread_K _ _ o from ⟨rfl, rfl⟩))
-- KeptAnswers$Worlds.keepAgreeing([JLKeptAnswers$Picture;I)V 
def fW_keepAgreeing_K (rv : Option Value) (μf : xM) : (xM) → Prop := fun o => rv = none ∧ μf = o
def fW_keepAgreeing_K8 (v0 : Nat) (v1 : Nat) (v3 : Int32) (d : Nat) (rv : Option Value) (μf : xM) : ((Int32 × xM) ⊕ (xM)) → Prop := Sum.elim (fun s : Int32 × xM => xRun (d + 3) 129 8 [some (.ref v0), some (.ref v1), none, some (.int v3), some (.int s.1)] [] s.2 rv μf) (fW_keepAgreeing_K rv μf)
noncomputable def fW_keepAgreeing_37  (v0 : Nat) (v1 : Nat) (v3 : Int32) (v4 : Int32) (s0 : Int32) (s1 : Nat) (s2 : Nat) (μ : xM) : Option ((Int32 × xM) ⊕ (xM)) := (fW_keepAlike s2 s1 s0 μ).bind fun r1 => some (.inl ((v4 + xc 1, r1)))
theorem fW_keepAgreeing_37_ok {d : Nat} {v0 : Nat} {v1 : Nat} {v3 : Int32} {v4 : Int32} {s0 : Int32} {s1 : Nat} {s2 : Nat} {μ : xM} {rv : Option Value} {μf : xM} {out : (Int32 × xM) ⊕ (xM)} (h : fW_keepAgreeing_37 v0 v1 v3 v4 s0 s1 s2 μ = some out) (hK : fW_keepAgreeing_K8 v0 v1 v3 d rv μf out) : xRun (d + 3) 129 37 [some (.ref v0), some (.ref v1), none, some (.int v3), some (.int v4)] [.int s0, .ref s1, .ref s2] μ rv μf := by
  unfold fW_keepAgreeing_37 at h
  obtain ⟨r1, hr1, h⟩ := Option.bind_eq_some_iff.mp h
  refine xr_callS (j := 132) (d' := (d + 2)) (rv1 := none) (μ1 := r1) (rest := []) (As := [.ref s2, .ref s1, .int s0]) rfl rfl rfl rfl (Nat.le_of_ble_eq_true rfl) rfl (by exact (fW_keepAlike_ok (d := d + (2)) hr1)) ?_
  refine xr_go 2 (pc' := 8) (lo' := [some (.ref v0), some (.ref v1), none, some (.int v3), some (.int (v4 + xc 1))]) (st' := []) (μ' := r1) rfl ?_
  refine xr_forget (lo := [some (.ref v0), some (.ref v1), none, some (.int v3), some (.int (v4 + xc 1))]) ⟨rfl, rfl, rfl, rfl, trivial⟩ ?_
  have ho := Option.some.inj h
  subst ho
  exact hK
noncomputable def fW_keepAgreeing_L8  (v0 : Nat) (v1 : Nat) (v3 : Int32) (v4 : Int32) (μ : xM) : Option ((Int32 × xM) ⊕ (xM)) := if (xc 8) ≤ v4 then (some (.inr μ)) else ((ldFR μ v0 8 2).bind fun x2 => (ldAR μ x2 v4).bind fun x3 => if ((v3 >>> (v4 &&& 31)) &&& (xc 1)) = 0 then (fW_keepAgreeing_37 v0 v1 v3 v4 (xc 0) x3 v1 μ) else (fW_keepAgreeing_37 v0 v1 v3 v4 (xc 1) x3 v1 μ))
theorem fW_keepAgreeing_L8_ok {d : Nat} {v0 : Nat} {v1 : Nat} {v3 : Int32} {v4 : Int32} {μ : xM} {rv : Option Value} {μf : xM} {out : (Int32 × xM) ⊕ (xM)} (h : fW_keepAgreeing_L8 v0 v1 v3 v4 μ = some out) (hK : fW_keepAgreeing_K8 v0 v1 v3 d rv μf out) : xRun (d + 3) 129 8 [some (.ref v0), some (.ref v1), none, some (.int v3), some (.int v4)] [] μ rv μf := by
  unfold fW_keepAgreeing_L8 at h
  refine xr_go 2 (pc' := 12) (lo' := [some (.ref v0), some (.ref v1), none, some (.int v3), some (.int v4)]) (st' := [.int (xc 8), .int v4]) (μ' := μ) rfl ?_
  refine xr_icmp (pct := 46) rfl rfl rfl (fun hc => ?_) (fun hc => ?_)
  · replace h := (if_pos (of_decide_eq_true hc)).symm.trans h
    have ho := Option.some.inj h
    subst ho
    obtain ⟨rfl, rfl⟩ := hK
    exact xr_ret (rv := none) rfl rfl (rfl)
  · replace h := (if_neg (of_decide_eq_false hc)).symm.trans h
    refine xr_go 2 (pc' := 17) (lo' := [some (.ref v0), some (.ref v1), none, some (.int v3), some (.int v4)]) (st' := [.ref v0, .ref v1]) (μ' := μ) rfl ?_
    obtain ⟨x2, hx2, h⟩ := Option.bind_eq_some_iff.mp h
    refine xr_opA (pc' := 20) (lo' := [some (.ref v0), some (.ref v1), none, some (.int v3), some (.int v4)]) (st' := [.ref v1]) (o := ldFR μ v0 8 2) rfl hx2 ?_
    refine xr_go 1 (pc' := 22) (lo' := [some (.ref v0), some (.ref v1), none, some (.int v3), some (.int v4)]) (st' := [.int v4, .ref x2, .ref v1]) (μ' := μ) rfl ?_
    obtain ⟨x3, hx3, h⟩ := Option.bind_eq_some_iff.mp h
    refine xr_opA (pc' := 23) (lo' := [some (.ref v0), some (.ref v1), none, some (.int v3), some (.int v4)]) (st' := [.ref v1]) (o := ldAR μ x2 v4) rfl hx3 ?_
    refine xr_go 5 (pc' := 29) (lo' := [some (.ref v0), some (.ref v1), none, some (.int v3), some (.int v4)]) (st' := [.int ((v3 >>> (v4 &&& 31)) &&& (xc 1)), .ref x3, .ref v1]) (μ' := μ) rfl ?_
    refine xr_ifc (pct := 36) rfl rfl rfl (fun hc => ?_) (fun hc => ?_)
    · replace h := (if_pos (of_decide_eq_true hc)).symm.trans h
      refine xr_go 1 (pc' := 37) (lo' := [some (.ref v0), some (.ref v1), none, some (.int v3), some (.int v4)]) (st' := [.int (xc 0), .ref x3, .ref v1]) (μ' := μ) rfl ?_
      refine xr_forget (lo := [some (.ref v0), some (.ref v1), none, some (.int v3), some (.int v4)]) ⟨rfl, rfl, rfl, rfl, trivial⟩ ?_
      exact fW_keepAgreeing_37_ok h hK
    · replace h := (if_neg (of_decide_eq_false hc)).symm.trans h
      refine xr_go 2 (pc' := 37) (lo' := [some (.ref v0), some (.ref v1), none, some (.int v3), some (.int v4)]) (st' := [.int (xc 1), .ref x3, .ref v1]) (μ' := μ) rfl ?_
      refine xr_forget (lo := [some (.ref v0), some (.ref v1), none, some (.int v3), some (.int v4)]) ⟨rfl, rfl, rfl, rfl, trivial⟩ ?_
      exact fW_keepAgreeing_37_ok h hK
theorem fW_keepAgreeing_L8_lp {d : Nat} {v0 : Nat} {v1 : Nat} {v3 : Int32} {v4 : Int32} {μ : xM} {rv : Option Value} {μf : xM} {out : xM} (h : xwh (fun s : Int32 × xM => fW_keepAgreeing_L8 v0 v1 v3 s.1 s.2) (v4, μ) = some out) (hK : fW_keepAgreeing_K rv μf out) : xRun (d + 3) 129 8 [some (.ref v0), some (.ref v1), none, some (.int v3), some (.int v4)] [] μ rv μf :=
  xwh_ind (Rh := fun s : Int32 × xM => xRun (d + 3) 129 8 [some (.ref v0), some (.ref v1), none, some (.int v3), some (.int s.1)] [] s.2 rv μf) (Co := fW_keepAgreeing_K rv μf) (fun s o hb hk => fW_keepAgreeing_L8_ok hb hk) h hK
noncomputable def fW_keepAgreeing_0  (v0 : Nat) (v1 : Nat) (v2 : Nat) (v3 : Int32) (μ : xM) : Option (xM) := (fW_spread v0 v2 μ).bind fun r4 => xwh (fun s : Int32 × xM => fW_keepAgreeing_L8 v0 v1 v3 s.1 s.2) (xc 0, r4)
theorem fW_keepAgreeing_0_ok {d : Nat} {v0 : Nat} {v1 : Nat} {v2 : Nat} {v3 : Int32} {μ : xM} {rv : Option Value} {μf : xM} {out : xM} (h : fW_keepAgreeing_0 v0 v1 v2 v3 μ = some out) (hK : fW_keepAgreeing_K rv μf out) : xRun (d + 3) 129 0 [some (.ref v0), some (.ref v1), some (.ref v2), some (.int v3), none] [] μ rv μf := by
  unfold fW_keepAgreeing_0 at h
  refine xr_go 2 (pc' := 2) (lo' := [some (.ref v0), some (.ref v1), some (.ref v2), some (.int v3), none]) (st' := [.ref v2, .ref v0]) (μ' := μ) rfl ?_
  obtain ⟨r4, hr4, h⟩ := Option.bind_eq_some_iff.mp h
  refine xr_callV (j := 130) (d' := (d + 2)) (rv1 := none) (μ1 := r4) (rest := []) (As := [.ref v2]) rfl rfl rfl rfl (Nat.le_of_ble_eq_true rfl) (fW_spread_kd hr4) rfl (by exact (fW_spread_ok (d := d + (0)) hr4)) ?_
  refine xr_go 2 (pc' := 8) (lo' := [some (.ref v0), some (.ref v1), some (.ref v2), some (.int v3), some (.int (xc 0))]) (st' := []) (μ' := r4) rfl ?_
  refine xr_forget (lo := [some (.ref v0), some (.ref v1), none, some (.int v3), some (.int (xc 0))]) ⟨rfl, rfl, rfl, rfl, trivial⟩ ?_
  exact fW_keepAgreeing_L8_lp h hK
noncomputable def fW_keepAgreeing (a0 : Nat) (a1 : Nat) (a2 : Nat) (a3 : Int32) (μ : xM) : Option (xM) := xgd μ a0 8 (fW_keepAgreeing_0 a0 a1 a2 a3 μ)
theorem fW_keepAgreeing_kd {a0 : Nat} {a1 : Nat} {a2 : Nat} {a3 : Int32} {μ : xM} {o : xM} (h : fW_keepAgreeing a0 a1 a2 a3 μ = some o) : (xK μ a0).1 = 10 + 8 := (xgd_some h).1
theorem fW_keepAgreeing_ok {d : Nat} {a0 : Nat} {a1 : Nat} {a2 : Nat} {a3 : Int32} {μ : xM} {o : xM} (h : fW_keepAgreeing a0 a1 a2 a3 μ = some o) : xRun (d + 3) 129 0 [some (.ref a0), some (.ref a1), some (.ref a2), some (.int a3), none] [] μ none o :=
  xr_forget (lo := [some (.ref a0), some (.ref a1), some (.ref a2), some (.int a3), none]) (⟨rfl, rfl, rfl, rfl, trivial⟩) (fW_keepAgreeing_0_ok (d := d) (xgd_some h).2 (show fW_keepAgreeing_K _ _ o from ⟨rfl, rfl⟩))
-- KeptAnswers$Worlds.findOpen(LKeptAnswers$Holding;)V 
def fW_findOpen_K (rv : Option Value) (μf : xM) : (xM) → Prop := fun o => rv = none ∧ μf = o
def fW_findOpen_K45 (v0 : Nat) (v1 : Nat) (d : Nat) (rv : Option Value) (μf : xM) : ((Int32 × xM) ⊕ (xM)) → Prop := Sum.elim (fun s : Int32 × xM => xRun (d + 4) 127 45 [some (.ref v0), some (.ref v1), some (.int s.1)] [] s.2 rv μf) (fW_findOpen_K rv μf)
def fW_findOpen_K12 (v0 : Nat) (v1 : Nat) (d : Nat) (rv : Option Value) (μf : xM) : ((Int32 × xM) ⊕ (xM)) → Prop := Sum.elim (fun s : Int32 × xM => xRun (d + 4) 127 12 [some (.ref v0), some (.ref v1), some (.int s.1)] [] s.2 rv μf) (fW_findOpen_K rv μf)
noncomputable def fW_findOpen_84  (v0 : Nat) (v1 : Nat) (v2 : Int32) (μ : xM) : Option ((Int32 × xM) ⊕ (xM)) := some (.inl ((v2 + xc 1, μ)))
theorem fW_findOpen_84_ok {d : Nat} {v0 : Nat} {v1 : Nat} {v2 : Int32} {μ : xM} {rv : Option Value} {μf : xM} {out : (Int32 × xM) ⊕ (xM)} (h : fW_findOpen_84 v0 v1 v2 μ = some out) (hK : fW_findOpen_K45 v0 v1 d rv μf out) : xRun (d + 4) 127 84 [some (.ref v0), some (.ref v1), some (.int v2)] [] μ rv μf := by
  unfold fW_findOpen_84 at h
  refine xr_go 2 (pc' := 45) (lo' := [some (.ref v0), some (.ref v1), some (.int (v2 + xc 1))]) (st' := []) (μ' := μ) rfl ?_
  refine xr_forget (lo := [some (.ref v0), some (.ref v1), some (.int (v2 + xc 1))]) ⟨rfl, rfl, rfl, trivial⟩ ?_
  have ho := Option.some.inj h
  subst ho
  exact hK
noncomputable def fW_findOpen_L45  (v0 : Nat) (v1 : Nat) (v2 : Int32) (μ : xM) : Option ((Int32 × xM) ⊕ (xM)) := (ldF μ v1 3 3).bind fun x1 => if x1 ≤ v2 then (some (.inr μ)) else ((ldF μ v1 3 4).bind fun x2 => if ((x2 >>> (v2 &&& 31)) &&& (xc 1)) = 0 then (fW_findOpen_84 v0 v1 v2 μ) else ((ldFR μ v0 8 0).bind fun x3 => (ldFR μ v1 3 9).bind fun x4 => (ldAR μ x4 v2).bind fun x5 => (ldFR μ v1 3 10).bind fun x6 => (ldA μ x6 v2).bind fun x7 => (fW_keepAgreeing v0 x3 x5 x7 μ).bind fun r8 => fW_findOpen_84 v0 v1 v2 r8))
theorem fW_findOpen_L45_ok {d : Nat} {v0 : Nat} {v1 : Nat} {v2 : Int32} {μ : xM} {rv : Option Value} {μf : xM} {out : (Int32 × xM) ⊕ (xM)} (h : fW_findOpen_L45 v0 v1 v2 μ = some out) (hK : fW_findOpen_K45 v0 v1 d rv μf out) : xRun (d + 4) 127 45 [some (.ref v0), some (.ref v1), some (.int v2)] [] μ rv μf := by
  unfold fW_findOpen_L45 at h
  refine xr_go 2 (pc' := 47) (lo' := [some (.ref v0), some (.ref v1), some (.int v2)]) (st' := [.ref v1, .int v2]) (μ' := μ) rfl ?_
  obtain ⟨x1, hx1, h⟩ := Option.bind_eq_some_iff.mp h
  refine xr_opI (pc' := 50) (lo' := [some (.ref v0), some (.ref v1), some (.int v2)]) (st' := [.int v2]) (o := ldF μ v1 3 3) rfl hx1 ?_
  refine xr_icmp (pct := 90) rfl rfl rfl (fun hc => ?_) (fun hc => ?_)
  · replace h := (if_pos (of_decide_eq_true hc)).symm.trans h
    have ho := Option.some.inj h
    subst ho
    obtain ⟨rfl, rfl⟩ := hK
    exact xr_ret (rv := none) rfl rfl (rfl)
  · replace h := (if_neg (of_decide_eq_false hc)).symm.trans h
    refine xr_go 1 (pc' := 54) (lo' := [some (.ref v0), some (.ref v1), some (.int v2)]) (st' := [.ref v1]) (μ' := μ) rfl ?_
    obtain ⟨x2, hx2, h⟩ := Option.bind_eq_some_iff.mp h
    refine xr_opI (pc' := 57) (lo' := [some (.ref v0), some (.ref v1), some (.int v2)]) (st' := []) (o := ldF μ v1 3 4) rfl hx2 ?_
    refine xr_go 4 (pc' := 61) (lo' := [some (.ref v0), some (.ref v1), some (.int v2)]) (st' := [.int ((x2 >>> (v2 &&& 31)) &&& (xc 1))]) (μ' := μ) rfl ?_
    refine xr_ifc (pct := 84) rfl rfl rfl (fun hc => ?_) (fun hc => ?_)
    · replace h := (if_pos (of_decide_eq_true hc)).symm.trans h
      refine xr_forget (lo := [some (.ref v0), some (.ref v1), some (.int v2)]) ⟨rfl, rfl, rfl, trivial⟩ ?_
      exact fW_findOpen_84_ok h hK
    · replace h := (if_neg (of_decide_eq_false hc)).symm.trans h
      refine xr_go 2 (pc' := 66) (lo' := [some (.ref v0), some (.ref v1), some (.int v2)]) (st' := [.ref v0, .ref v0]) (μ' := μ) rfl ?_
      obtain ⟨x3, hx3, h⟩ := Option.bind_eq_some_iff.mp h
      refine xr_opA (pc' := 69) (lo' := [some (.ref v0), some (.ref v1), some (.int v2)]) (st' := [.ref v0]) (o := ldFR μ v0 8 0) rfl hx3 ?_
      refine xr_go 1 (pc' := 70) (lo' := [some (.ref v0), some (.ref v1), some (.int v2)]) (st' := [.ref v1, .ref x3, .ref v0]) (μ' := μ) rfl ?_
      obtain ⟨x4, hx4, h⟩ := Option.bind_eq_some_iff.mp h
      refine xr_opA (pc' := 73) (lo' := [some (.ref v0), some (.ref v1), some (.int v2)]) (st' := [.ref x3, .ref v0]) (o := ldFR μ v1 3 9) rfl hx4 ?_
      refine xr_go 1 (pc' := 74) (lo' := [some (.ref v0), some (.ref v1), some (.int v2)]) (st' := [.int v2, .ref x4, .ref x3, .ref v0]) (μ' := μ) rfl ?_
      obtain ⟨x5, hx5, h⟩ := Option.bind_eq_some_iff.mp h
      refine xr_opA (pc' := 75) (lo' := [some (.ref v0), some (.ref v1), some (.int v2)]) (st' := [.ref x3, .ref v0]) (o := ldAR μ x4 v2) rfl hx5 ?_
      refine xr_go 1 (pc' := 76) (lo' := [some (.ref v0), some (.ref v1), some (.int v2)]) (st' := [.ref v1, .ref x5, .ref x3, .ref v0]) (μ' := μ) rfl ?_
      obtain ⟨x6, hx6, h⟩ := Option.bind_eq_some_iff.mp h
      refine xr_opA (pc' := 79) (lo' := [some (.ref v0), some (.ref v1), some (.int v2)]) (st' := [.ref x5, .ref x3, .ref v0]) (o := ldFR μ v1 3 10) rfl hx6 ?_
      refine xr_go 1 (pc' := 80) (lo' := [some (.ref v0), some (.ref v1), some (.int v2)]) (st' := [.int v2, .ref x6, .ref x5, .ref x3, .ref v0]) (μ' := μ) rfl ?_
      obtain ⟨x7, hx7, h⟩ := Option.bind_eq_some_iff.mp h
      refine xr_opI (pc' := 81) (lo' := [some (.ref v0), some (.ref v1), some (.int v2)]) (st' := [.ref x5, .ref x3, .ref v0]) (o := ldA μ x6 v2) rfl hx7 ?_
      obtain ⟨r8, hr8, h⟩ := Option.bind_eq_some_iff.mp h
      refine xr_callV (j := 129) (d' := (d + 3)) (rv1 := none) (μ1 := r8) (rest := []) (As := [.ref x3, .ref x5, .int x7]) rfl rfl rfl rfl (Nat.le_of_ble_eq_true rfl) (fW_keepAgreeing_kd hr8) rfl (by exact (fW_keepAgreeing_ok (d := d + (0)) hr8)) ?_
      refine xr_forget (lo := [some (.ref v0), some (.ref v1), some (.int v2)]) ⟨rfl, rfl, rfl, trivial⟩ ?_
      exact fW_findOpen_84_ok h hK
theorem fW_findOpen_L45_lp {d : Nat} {v0 : Nat} {v1 : Nat} {v2 : Int32} {μ : xM} {rv : Option Value} {μf : xM} {out : xM} (h : xwh (fun s : Int32 × xM => fW_findOpen_L45 v0 v1 s.1 s.2) (v2, μ) = some out) (hK : fW_findOpen_K rv μf out) : xRun (d + 4) 127 45 [some (.ref v0), some (.ref v1), some (.int v2)] [] μ rv μf :=
  xwh_ind (Rh := fun s : Int32 × xM => xRun (d + 4) 127 45 [some (.ref v0), some (.ref v1), some (.int s.1)] [] s.2 rv μf) (Co := fW_findOpen_K rv μf) (fun s o hb hk => fW_findOpen_L45_ok hb hk) h hK
noncomputable def fW_findOpen_43  (v0 : Nat) (v1 : Nat) (μ : xM) : Option (xM) := xwh (fun s : Int32 × xM => fW_findOpen_L45 v0 v1 s.1 s.2) (xc 0, μ)
theorem fW_findOpen_43_ok {d : Nat} {v0 : Nat} {v1 : Nat} {μ : xM} {rv : Option Value} {μf : xM} {out : xM} (h : fW_findOpen_43 v0 v1 μ = some out) (hK : fW_findOpen_K rv μf out) : xRun (d + 4) 127 43 [some (.ref v0), some (.ref v1), none] [] μ rv μf := by
  unfold fW_findOpen_43 at h
  refine xr_go 2 (pc' := 45) (lo' := [some (.ref v0), some (.ref v1), some (.int (xc 0))]) (st' := []) (μ' := μ) rfl ?_
  refine xr_forget (lo := [some (.ref v0), some (.ref v1), some (.int (xc 0))]) ⟨rfl, rfl, rfl, trivial⟩ ?_
  exact fW_findOpen_L45_lp h hK
noncomputable def fW_findOpen_37  (v0 : Nat) (v1 : Nat) (v2 : Int32) (μ : xM) : Option ((Int32 × xM) ⊕ (xM)) := some (.inl ((v2 + xc 1, μ)))
theorem fW_findOpen_37_ok {d : Nat} {v0 : Nat} {v1 : Nat} {v2 : Int32} {μ : xM} {rv : Option Value} {μf : xM} {out : (Int32 × xM) ⊕ (xM)} (h : fW_findOpen_37 v0 v1 v2 μ = some out) (hK : fW_findOpen_K12 v0 v1 d rv μf out) : xRun (d + 4) 127 37 [some (.ref v0), some (.ref v1), some (.int v2)] [] μ rv μf := by
  unfold fW_findOpen_37 at h
  refine xr_go 2 (pc' := 12) (lo' := [some (.ref v0), some (.ref v1), some (.int (v2 + xc 1))]) (st' := []) (μ' := μ) rfl ?_
  refine xr_forget (lo := [some (.ref v0), some (.ref v1), some (.int (v2 + xc 1))]) ⟨rfl, rfl, rfl, trivial⟩ ?_
  have ho := Option.some.inj h
  subst ho
  exact hK
noncomputable def fW_findOpen_L12  (v0 : Nat) (v1 : Nat) (v2 : Int32) (μ : xM) : Option ((Int32 × xM) ⊕ (xM)) := if (xc 3) ≤ v2 then ((fW_findOpen_43 v0 v1 μ).map (fun o => .inr o)) else ((fH_hasKey v1 v2 μ).bind fun r9 => if r9 = 0 then (fW_findOpen_37 v0 v1 v2 μ) else ((fW_dropDoubleX v0 v2 (xc 0) μ).bind fun r10 => (fW_dropDoubleX v0 v2 (xc 1) r10).bind fun r11 => fW_findOpen_37 v0 v1 v2 r11))
theorem fW_findOpen_L12_ok {d : Nat} {v0 : Nat} {v1 : Nat} {v2 : Int32} {μ : xM} {rv : Option Value} {μf : xM} {out : (Int32 × xM) ⊕ (xM)} (h : fW_findOpen_L12 v0 v1 v2 μ = some out) (hK : fW_findOpen_K12 v0 v1 d rv μf out) : xRun (d + 4) 127 12 [some (.ref v0), some (.ref v1), some (.int v2)] [] μ rv μf := by
  unfold fW_findOpen_L12 at h
  refine xr_go 2 (pc' := 14) (lo' := [some (.ref v0), some (.ref v1), some (.int v2)]) (st' := [.int (xc 3), .int v2]) (μ' := μ) rfl ?_
  refine xr_icmp (pct := 43) rfl rfl rfl (fun hc => ?_) (fun hc => ?_)
  · replace h := (if_pos (of_decide_eq_true hc)).symm.trans h
    refine xr_forget (lo := [some (.ref v0), some (.ref v1), none]) ⟨rfl, rfl, trivial⟩ ?_
    obtain ⟨o, h2, rfl⟩ := Option.map_eq_some_iff.mp h
    exact fW_findOpen_43_ok h2 hK
  · replace h := (if_neg (of_decide_eq_false hc)).symm.trans h
    refine xr_go 2 (pc' := 19) (lo' := [some (.ref v0), some (.ref v1), some (.int v2)]) (st' := [.int v2, .ref v1]) (μ' := μ) rfl ?_
    obtain ⟨r9, hr9, h⟩ := Option.bind_eq_some_iff.mp h
    refine xr_callV (j := 66) (d' := (d + 3)) (rv1 := some (.int r9)) (μ1 := μ) (rest := []) (As := [.int v2]) rfl rfl rfl rfl (Nat.le_of_ble_eq_true rfl) (fH_hasKey_kd hr9) rfl (by exact (fH_hasKey_ok (d := d + (3)) hr9)) ?_
    refine xr_ifc (pct := 37) rfl rfl rfl (fun hc => ?_) (fun hc => ?_)
    · replace h := (if_pos (of_decide_eq_true hc)).symm.trans h
      refine xr_forget (lo := [some (.ref v0), some (.ref v1), some (.int v2)]) ⟨rfl, rfl, rfl, trivial⟩ ?_
      exact fW_findOpen_37_ok h hK
    · replace h := (if_neg (of_decide_eq_false hc)).symm.trans h
      refine xr_go 3 (pc' := 28) (lo' := [some (.ref v0), some (.ref v1), some (.int v2)]) (st' := [.int (xc 0), .int v2, .ref v0]) (μ' := μ) rfl ?_
      obtain ⟨r10, hr10, h⟩ := Option.bind_eq_some_iff.mp h
      refine xr_callV (j := 128) (d' := (d + 3)) (rv1 := none) (μ1 := r10) (rest := []) (As := [.int v2, .int (xc 0)]) rfl rfl rfl rfl (Nat.le_of_ble_eq_true rfl) (fW_dropDoubleX_kd hr10) rfl (by exact (fW_dropDoubleX_ok (d := d + (2)) hr10)) ?_
      refine xr_go 3 (pc' := 34) (lo' := [some (.ref v0), some (.ref v1), some (.int v2)]) (st' := [.int (xc 1), .int v2, .ref v0]) (μ' := r10) rfl ?_
      obtain ⟨r11, hr11, h⟩ := Option.bind_eq_some_iff.mp h
      refine xr_callV (j := 128) (d' := (d + 3)) (rv1 := none) (μ1 := r11) (rest := []) (As := [.int v2, .int (xc 1)]) rfl rfl rfl rfl (Nat.le_of_ble_eq_true rfl) (fW_dropDoubleX_kd hr11) rfl (by exact (fW_dropDoubleX_ok (d := d + (2)) hr11)) ?_
      refine xr_forget (lo := [some (.ref v0), some (.ref v1), some (.int v2)]) ⟨rfl, rfl, rfl, trivial⟩ ?_
      exact fW_findOpen_37_ok h hK
theorem fW_findOpen_L12_lp {d : Nat} {v0 : Nat} {v1 : Nat} {v2 : Int32} {μ : xM} {rv : Option Value} {μf : xM} {out : xM} (h : xwh (fun s : Int32 × xM => fW_findOpen_L12 v0 v1 s.1 s.2) (v2, μ) = some out) (hK : fW_findOpen_K rv μf out) : xRun (d + 4) 127 12 [some (.ref v0), some (.ref v1), some (.int v2)] [] μ rv μf :=
  xwh_ind (Rh := fun s : Int32 × xM => xRun (d + 4) 127 12 [some (.ref v0), some (.ref v1), some (.int s.1)] [] s.2 rv μf) (Co := fW_findOpen_K rv μf) (fun s o hb hk => fW_findOpen_L12_ok hb hk) h hK
noncomputable def fW_findOpen_0  (v0 : Nat) (v1 : Nat) (μ : xM) : Option (xM) := (ldFR μ v0 8 0).bind fun x12 => (fJA_fill x12 (Int64.ofNat 18446744073709551615) μ).bind fun r13 => xwh (fun s : Int32 × xM => fW_findOpen_L12 v0 v1 s.1 s.2) (xc 0, r13)
theorem fW_findOpen_0_ok {d : Nat} {v0 : Nat} {v1 : Nat} {μ : xM} {rv : Option Value} {μf : xM} {out : xM} (h : fW_findOpen_0 v0 v1 μ = some out) (hK : fW_findOpen_K rv μf out) : xRun (d + 4) 127 0 [some (.ref v0), some (.ref v1), none] [] μ rv μf := by
  unfold fW_findOpen_0 at h
  refine xr_go 1 (pc' := 1) (lo' := [some (.ref v0), some (.ref v1), none]) (st' := [.ref v0]) (μ' := μ) rfl ?_
  obtain ⟨x12, hx12, h⟩ := Option.bind_eq_some_iff.mp h
  refine xr_opA (pc' := 4) (lo' := [some (.ref v0), some (.ref v1), none]) (st' := []) (o := ldFR μ v0 8 0) rfl hx12 ?_
  refine xr_go 1 (pc' := 7) (lo' := [some (.ref v0), some (.ref v1), none]) (st' := [.long (Int64.ofNat 18446744073709551615), .ref x12]) (μ' := μ) rfl ?_
  obtain ⟨r13, hr13, h⟩ := Option.bind_eq_some_iff.mp h
  refine xr_callS (j := 225) (d' := (d + 3)) (rv1 := none) (μ1 := r13) (rest := []) (As := [.ref x12, .long (Int64.ofNat 18446744073709551615)]) rfl rfl rfl rfl (Nat.le_of_ble_eq_true rfl) rfl (by exact (fJA_fill_ok (d := d + (3)) hr13)) ?_
  refine xr_go 2 (pc' := 12) (lo' := [some (.ref v0), some (.ref v1), some (.int (xc 0))]) (st' := []) (μ' := r13) rfl ?_
  refine xr_forget (lo := [some (.ref v0), some (.ref v1), some (.int (xc 0))]) ⟨rfl, rfl, rfl, trivial⟩ ?_
  exact fW_findOpen_L12_lp h hK
noncomputable def fW_findOpen (a0 : Nat) (a1 : Nat) (μ : xM) : Option (xM) := xgd μ a0 8 (fW_findOpen_0 a0 a1 μ)
theorem fW_findOpen_kd {a0 : Nat} {a1 : Nat} {μ : xM} {o : xM} (h : fW_findOpen a0 a1 μ = some o) : (xK μ a0).1 = 10 + 8 := (xgd_some h).1
theorem fW_findOpen_ok {d : Nat} {a0 : Nat} {a1 : Nat} {μ : xM} {o : xM} (h : fW_findOpen a0 a1 μ = some o) : xRun (d + 4) 127 0 [some (.ref a0), some (.ref a1), none] [] μ none o :=
  xr_forget (lo := [some (.ref a0), some (.ref a1), none]) (⟨rfl, rfl, trivial⟩) (fW_findOpen_0_ok (d := d) (xgd_some h).2 (show fW_findOpen_K _ _ o from ⟨rfl, rfl⟩))
-- java/lang/Long.bitCount(J)I 
def fJL_bitCount_K (μ : xM) (rv : Option Value) (μf : xM) : (Int32) → Prop := fun o => rv = some (.int o) ∧ μf = μ
noncomputable def fJL_bitCount_0  (v0 : Int64) (μ : xM) : Option (Int32) := some ((Int64.toInt32 ((((((((v0 - ((xshrL v0 (xc 1)) &&& (Int64.ofNat 6148914691236517205))) &&& (Int64.ofNat 3689348814741910323)) + ((xshrL (v0 - ((xshrL v0 (xc 1)) &&& (Int64.ofNat 6148914691236517205))) (xc 2)) &&& (Int64.ofNat 3689348814741910323))) + (xshrL (((v0 - ((xshrL v0 (xc 1)) &&& (Int64.ofNat 6148914691236517205))) &&& (Int64.ofNat 3689348814741910323)) + ((xshrL (v0 - ((xshrL v0 (xc 1)) &&& (Int64.ofNat 6148914691236517205))) (xc 2)) &&& (Int64.ofNat 3689348814741910323))) (xc 4))) &&& (Int64.ofNat 1085102592571150095)) + (xshrL (((((v0 - ((xshrL v0 (xc 1)) &&& (Int64.ofNat 6148914691236517205))) &&& (Int64.ofNat 3689348814741910323)) + ((xshrL (v0 - ((xshrL v0 (xc 1)) &&& (Int64.ofNat 6148914691236517205))) (xc 2)) &&& (Int64.ofNat 3689348814741910323))) + (xshrL (((v0 - ((xshrL v0 (xc 1)) &&& (Int64.ofNat 6148914691236517205))) &&& (Int64.ofNat 3689348814741910323)) + ((xshrL (v0 - ((xshrL v0 (xc 1)) &&& (Int64.ofNat 6148914691236517205))) (xc 2)) &&& (Int64.ofNat 3689348814741910323))) (xc 4))) &&& (Int64.ofNat 1085102592571150095)) (xc 8))) + (xshrL ((((((v0 - ((xshrL v0 (xc 1)) &&& (Int64.ofNat 6148914691236517205))) &&& (Int64.ofNat 3689348814741910323)) + ((xshrL (v0 - ((xshrL v0 (xc 1)) &&& (Int64.ofNat 6148914691236517205))) (xc 2)) &&& (Int64.ofNat 3689348814741910323))) + (xshrL (((v0 - ((xshrL v0 (xc 1)) &&& (Int64.ofNat 6148914691236517205))) &&& (Int64.ofNat 3689348814741910323)) + ((xshrL (v0 - ((xshrL v0 (xc 1)) &&& (Int64.ofNat 6148914691236517205))) (xc 2)) &&& (Int64.ofNat 3689348814741910323))) (xc 4))) &&& (Int64.ofNat 1085102592571150095)) + (xshrL (((((v0 - ((xshrL v0 (xc 1)) &&& (Int64.ofNat 6148914691236517205))) &&& (Int64.ofNat 3689348814741910323)) + ((xshrL (v0 - ((xshrL v0 (xc 1)) &&& (Int64.ofNat 6148914691236517205))) (xc 2)) &&& (Int64.ofNat 3689348814741910323))) + (xshrL (((v0 - ((xshrL v0 (xc 1)) &&& (Int64.ofNat 6148914691236517205))) &&& (Int64.ofNat 3689348814741910323)) + ((xshrL (v0 - ((xshrL v0 (xc 1)) &&& (Int64.ofNat 6148914691236517205))) (xc 2)) &&& (Int64.ofNat 3689348814741910323))) (xc 4))) &&& (Int64.ofNat 1085102592571150095)) (xc 8))) (xc 16))) + (xshrL (((((((v0 - ((xshrL v0 (xc 1)) &&& (Int64.ofNat 6148914691236517205))) &&& (Int64.ofNat 3689348814741910323)) + ((xshrL (v0 - ((xshrL v0 (xc 1)) &&& (Int64.ofNat 6148914691236517205))) (xc 2)) &&& (Int64.ofNat 3689348814741910323))) + (xshrL (((v0 - ((xshrL v0 (xc 1)) &&& (Int64.ofNat 6148914691236517205))) &&& (Int64.ofNat 3689348814741910323)) + ((xshrL (v0 - ((xshrL v0 (xc 1)) &&& (Int64.ofNat 6148914691236517205))) (xc 2)) &&& (Int64.ofNat 3689348814741910323))) (xc 4))) &&& (Int64.ofNat 1085102592571150095)) + (xshrL (((((v0 - ((xshrL v0 (xc 1)) &&& (Int64.ofNat 6148914691236517205))) &&& (Int64.ofNat 3689348814741910323)) + ((xshrL (v0 - ((xshrL v0 (xc 1)) &&& (Int64.ofNat 6148914691236517205))) (xc 2)) &&& (Int64.ofNat 3689348814741910323))) + (xshrL (((v0 - ((xshrL v0 (xc 1)) &&& (Int64.ofNat 6148914691236517205))) &&& (Int64.ofNat 3689348814741910323)) + ((xshrL (v0 - ((xshrL v0 (xc 1)) &&& (Int64.ofNat 6148914691236517205))) (xc 2)) &&& (Int64.ofNat 3689348814741910323))) (xc 4))) &&& (Int64.ofNat 1085102592571150095)) (xc 8))) + (xshrL ((((((v0 - ((xshrL v0 (xc 1)) &&& (Int64.ofNat 6148914691236517205))) &&& (Int64.ofNat 3689348814741910323)) + ((xshrL (v0 - ((xshrL v0 (xc 1)) &&& (Int64.ofNat 6148914691236517205))) (xc 2)) &&& (Int64.ofNat 3689348814741910323))) + (xshrL (((v0 - ((xshrL v0 (xc 1)) &&& (Int64.ofNat 6148914691236517205))) &&& (Int64.ofNat 3689348814741910323)) + ((xshrL (v0 - ((xshrL v0 (xc 1)) &&& (Int64.ofNat 6148914691236517205))) (xc 2)) &&& (Int64.ofNat 3689348814741910323))) (xc 4))) &&& (Int64.ofNat 1085102592571150095)) + (xshrL (((((v0 - ((xshrL v0 (xc 1)) &&& (Int64.ofNat 6148914691236517205))) &&& (Int64.ofNat 3689348814741910323)) + ((xshrL (v0 - ((xshrL v0 (xc 1)) &&& (Int64.ofNat 6148914691236517205))) (xc 2)) &&& (Int64.ofNat 3689348814741910323))) + (xshrL (((v0 - ((xshrL v0 (xc 1)) &&& (Int64.ofNat 6148914691236517205))) &&& (Int64.ofNat 3689348814741910323)) + ((xshrL (v0 - ((xshrL v0 (xc 1)) &&& (Int64.ofNat 6148914691236517205))) (xc 2)) &&& (Int64.ofNat 3689348814741910323))) (xc 4))) &&& (Int64.ofNat 1085102592571150095)) (xc 8))) (xc 16))) (xc 32)))) &&& (xc 127))
theorem fJL_bitCount_0_ok {d : Nat} {v0 : Int64} {μ : xM} {rv : Option Value} {μf : xM} {out : Int32} (h : fJL_bitCount_0 v0 μ = some out) (hK : fJL_bitCount_K μ rv μf out) : xRun (d + 0) 222 0 [some (.long v0), none] [] μ rv μf := by
  unfold fJL_bitCount_0 at h
  refine xr_go 48 (pc' := 60) (lo' := [some (.long ((((((((v0 - ((xshrL v0 (xc 1)) &&& (Int64.ofNat 6148914691236517205))) &&& (Int64.ofNat 3689348814741910323)) + ((xshrL (v0 - ((xshrL v0 (xc 1)) &&& (Int64.ofNat 6148914691236517205))) (xc 2)) &&& (Int64.ofNat 3689348814741910323))) + (xshrL (((v0 - ((xshrL v0 (xc 1)) &&& (Int64.ofNat 6148914691236517205))) &&& (Int64.ofNat 3689348814741910323)) + ((xshrL (v0 - ((xshrL v0 (xc 1)) &&& (Int64.ofNat 6148914691236517205))) (xc 2)) &&& (Int64.ofNat 3689348814741910323))) (xc 4))) &&& (Int64.ofNat 1085102592571150095)) + (xshrL (((((v0 - ((xshrL v0 (xc 1)) &&& (Int64.ofNat 6148914691236517205))) &&& (Int64.ofNat 3689348814741910323)) + ((xshrL (v0 - ((xshrL v0 (xc 1)) &&& (Int64.ofNat 6148914691236517205))) (xc 2)) &&& (Int64.ofNat 3689348814741910323))) + (xshrL (((v0 - ((xshrL v0 (xc 1)) &&& (Int64.ofNat 6148914691236517205))) &&& (Int64.ofNat 3689348814741910323)) + ((xshrL (v0 - ((xshrL v0 (xc 1)) &&& (Int64.ofNat 6148914691236517205))) (xc 2)) &&& (Int64.ofNat 3689348814741910323))) (xc 4))) &&& (Int64.ofNat 1085102592571150095)) (xc 8))) + (xshrL ((((((v0 - ((xshrL v0 (xc 1)) &&& (Int64.ofNat 6148914691236517205))) &&& (Int64.ofNat 3689348814741910323)) + ((xshrL (v0 - ((xshrL v0 (xc 1)) &&& (Int64.ofNat 6148914691236517205))) (xc 2)) &&& (Int64.ofNat 3689348814741910323))) + (xshrL (((v0 - ((xshrL v0 (xc 1)) &&& (Int64.ofNat 6148914691236517205))) &&& (Int64.ofNat 3689348814741910323)) + ((xshrL (v0 - ((xshrL v0 (xc 1)) &&& (Int64.ofNat 6148914691236517205))) (xc 2)) &&& (Int64.ofNat 3689348814741910323))) (xc 4))) &&& (Int64.ofNat 1085102592571150095)) + (xshrL (((((v0 - ((xshrL v0 (xc 1)) &&& (Int64.ofNat 6148914691236517205))) &&& (Int64.ofNat 3689348814741910323)) + ((xshrL (v0 - ((xshrL v0 (xc 1)) &&& (Int64.ofNat 6148914691236517205))) (xc 2)) &&& (Int64.ofNat 3689348814741910323))) + (xshrL (((v0 - ((xshrL v0 (xc 1)) &&& (Int64.ofNat 6148914691236517205))) &&& (Int64.ofNat 3689348814741910323)) + ((xshrL (v0 - ((xshrL v0 (xc 1)) &&& (Int64.ofNat 6148914691236517205))) (xc 2)) &&& (Int64.ofNat 3689348814741910323))) (xc 4))) &&& (Int64.ofNat 1085102592571150095)) (xc 8))) (xc 16))) + (xshrL (((((((v0 - ((xshrL v0 (xc 1)) &&& (Int64.ofNat 6148914691236517205))) &&& (Int64.ofNat 3689348814741910323)) + ((xshrL (v0 - ((xshrL v0 (xc 1)) &&& (Int64.ofNat 6148914691236517205))) (xc 2)) &&& (Int64.ofNat 3689348814741910323))) + (xshrL (((v0 - ((xshrL v0 (xc 1)) &&& (Int64.ofNat 6148914691236517205))) &&& (Int64.ofNat 3689348814741910323)) + ((xshrL (v0 - ((xshrL v0 (xc 1)) &&& (Int64.ofNat 6148914691236517205))) (xc 2)) &&& (Int64.ofNat 3689348814741910323))) (xc 4))) &&& (Int64.ofNat 1085102592571150095)) + (xshrL (((((v0 - ((xshrL v0 (xc 1)) &&& (Int64.ofNat 6148914691236517205))) &&& (Int64.ofNat 3689348814741910323)) + ((xshrL (v0 - ((xshrL v0 (xc 1)) &&& (Int64.ofNat 6148914691236517205))) (xc 2)) &&& (Int64.ofNat 3689348814741910323))) + (xshrL (((v0 - ((xshrL v0 (xc 1)) &&& (Int64.ofNat 6148914691236517205))) &&& (Int64.ofNat 3689348814741910323)) + ((xshrL (v0 - ((xshrL v0 (xc 1)) &&& (Int64.ofNat 6148914691236517205))) (xc 2)) &&& (Int64.ofNat 3689348814741910323))) (xc 4))) &&& (Int64.ofNat 1085102592571150095)) (xc 8))) + (xshrL ((((((v0 - ((xshrL v0 (xc 1)) &&& (Int64.ofNat 6148914691236517205))) &&& (Int64.ofNat 3689348814741910323)) + ((xshrL (v0 - ((xshrL v0 (xc 1)) &&& (Int64.ofNat 6148914691236517205))) (xc 2)) &&& (Int64.ofNat 3689348814741910323))) + (xshrL (((v0 - ((xshrL v0 (xc 1)) &&& (Int64.ofNat 6148914691236517205))) &&& (Int64.ofNat 3689348814741910323)) + ((xshrL (v0 - ((xshrL v0 (xc 1)) &&& (Int64.ofNat 6148914691236517205))) (xc 2)) &&& (Int64.ofNat 3689348814741910323))) (xc 4))) &&& (Int64.ofNat 1085102592571150095)) + (xshrL (((((v0 - ((xshrL v0 (xc 1)) &&& (Int64.ofNat 6148914691236517205))) &&& (Int64.ofNat 3689348814741910323)) + ((xshrL (v0 - ((xshrL v0 (xc 1)) &&& (Int64.ofNat 6148914691236517205))) (xc 2)) &&& (Int64.ofNat 3689348814741910323))) + (xshrL (((v0 - ((xshrL v0 (xc 1)) &&& (Int64.ofNat 6148914691236517205))) &&& (Int64.ofNat 3689348814741910323)) + ((xshrL (v0 - ((xshrL v0 (xc 1)) &&& (Int64.ofNat 6148914691236517205))) (xc 2)) &&& (Int64.ofNat 3689348814741910323))) (xc 4))) &&& (Int64.ofNat 1085102592571150095)) (xc 8))) (xc 16))) (xc 32)))), none]) (st' := [.int ((Int64.toInt32 ((((((((v0 - ((xshrL v0 (xc 1)) &&& (Int64.ofNat 6148914691236517205))) &&& (Int64.ofNat 3689348814741910323)) + ((xshrL (v0 - ((xshrL v0 (xc 1)) &&& (Int64.ofNat 6148914691236517205))) (xc 2)) &&& (Int64.ofNat 3689348814741910323))) + (xshrL (((v0 - ((xshrL v0 (xc 1)) &&& (Int64.ofNat 6148914691236517205))) &&& (Int64.ofNat 3689348814741910323)) + ((xshrL (v0 - ((xshrL v0 (xc 1)) &&& (Int64.ofNat 6148914691236517205))) (xc 2)) &&& (Int64.ofNat 3689348814741910323))) (xc 4))) &&& (Int64.ofNat 1085102592571150095)) + (xshrL (((((v0 - ((xshrL v0 (xc 1)) &&& (Int64.ofNat 6148914691236517205))) &&& (Int64.ofNat 3689348814741910323)) + ((xshrL (v0 - ((xshrL v0 (xc 1)) &&& (Int64.ofNat 6148914691236517205))) (xc 2)) &&& (Int64.ofNat 3689348814741910323))) + (xshrL (((v0 - ((xshrL v0 (xc 1)) &&& (Int64.ofNat 6148914691236517205))) &&& (Int64.ofNat 3689348814741910323)) + ((xshrL (v0 - ((xshrL v0 (xc 1)) &&& (Int64.ofNat 6148914691236517205))) (xc 2)) &&& (Int64.ofNat 3689348814741910323))) (xc 4))) &&& (Int64.ofNat 1085102592571150095)) (xc 8))) + (xshrL ((((((v0 - ((xshrL v0 (xc 1)) &&& (Int64.ofNat 6148914691236517205))) &&& (Int64.ofNat 3689348814741910323)) + ((xshrL (v0 - ((xshrL v0 (xc 1)) &&& (Int64.ofNat 6148914691236517205))) (xc 2)) &&& (Int64.ofNat 3689348814741910323))) + (xshrL (((v0 - ((xshrL v0 (xc 1)) &&& (Int64.ofNat 6148914691236517205))) &&& (Int64.ofNat 3689348814741910323)) + ((xshrL (v0 - ((xshrL v0 (xc 1)) &&& (Int64.ofNat 6148914691236517205))) (xc 2)) &&& (Int64.ofNat 3689348814741910323))) (xc 4))) &&& (Int64.ofNat 1085102592571150095)) + (xshrL (((((v0 - ((xshrL v0 (xc 1)) &&& (Int64.ofNat 6148914691236517205))) &&& (Int64.ofNat 3689348814741910323)) + ((xshrL (v0 - ((xshrL v0 (xc 1)) &&& (Int64.ofNat 6148914691236517205))) (xc 2)) &&& (Int64.ofNat 3689348814741910323))) + (xshrL (((v0 - ((xshrL v0 (xc 1)) &&& (Int64.ofNat 6148914691236517205))) &&& (Int64.ofNat 3689348814741910323)) + ((xshrL (v0 - ((xshrL v0 (xc 1)) &&& (Int64.ofNat 6148914691236517205))) (xc 2)) &&& (Int64.ofNat 3689348814741910323))) (xc 4))) &&& (Int64.ofNat 1085102592571150095)) (xc 8))) (xc 16))) + (xshrL (((((((v0 - ((xshrL v0 (xc 1)) &&& (Int64.ofNat 6148914691236517205))) &&& (Int64.ofNat 3689348814741910323)) + ((xshrL (v0 - ((xshrL v0 (xc 1)) &&& (Int64.ofNat 6148914691236517205))) (xc 2)) &&& (Int64.ofNat 3689348814741910323))) + (xshrL (((v0 - ((xshrL v0 (xc 1)) &&& (Int64.ofNat 6148914691236517205))) &&& (Int64.ofNat 3689348814741910323)) + ((xshrL (v0 - ((xshrL v0 (xc 1)) &&& (Int64.ofNat 6148914691236517205))) (xc 2)) &&& (Int64.ofNat 3689348814741910323))) (xc 4))) &&& (Int64.ofNat 1085102592571150095)) + (xshrL (((((v0 - ((xshrL v0 (xc 1)) &&& (Int64.ofNat 6148914691236517205))) &&& (Int64.ofNat 3689348814741910323)) + ((xshrL (v0 - ((xshrL v0 (xc 1)) &&& (Int64.ofNat 6148914691236517205))) (xc 2)) &&& (Int64.ofNat 3689348814741910323))) + (xshrL (((v0 - ((xshrL v0 (xc 1)) &&& (Int64.ofNat 6148914691236517205))) &&& (Int64.ofNat 3689348814741910323)) + ((xshrL (v0 - ((xshrL v0 (xc 1)) &&& (Int64.ofNat 6148914691236517205))) (xc 2)) &&& (Int64.ofNat 3689348814741910323))) (xc 4))) &&& (Int64.ofNat 1085102592571150095)) (xc 8))) + (xshrL ((((((v0 - ((xshrL v0 (xc 1)) &&& (Int64.ofNat 6148914691236517205))) &&& (Int64.ofNat 3689348814741910323)) + ((xshrL (v0 - ((xshrL v0 (xc 1)) &&& (Int64.ofNat 6148914691236517205))) (xc 2)) &&& (Int64.ofNat 3689348814741910323))) + (xshrL (((v0 - ((xshrL v0 (xc 1)) &&& (Int64.ofNat 6148914691236517205))) &&& (Int64.ofNat 3689348814741910323)) + ((xshrL (v0 - ((xshrL v0 (xc 1)) &&& (Int64.ofNat 6148914691236517205))) (xc 2)) &&& (Int64.ofNat 3689348814741910323))) (xc 4))) &&& (Int64.ofNat 1085102592571150095)) + (xshrL (((((v0 - ((xshrL v0 (xc 1)) &&& (Int64.ofNat 6148914691236517205))) &&& (Int64.ofNat 3689348814741910323)) + ((xshrL (v0 - ((xshrL v0 (xc 1)) &&& (Int64.ofNat 6148914691236517205))) (xc 2)) &&& (Int64.ofNat 3689348814741910323))) + (xshrL (((v0 - ((xshrL v0 (xc 1)) &&& (Int64.ofNat 6148914691236517205))) &&& (Int64.ofNat 3689348814741910323)) + ((xshrL (v0 - ((xshrL v0 (xc 1)) &&& (Int64.ofNat 6148914691236517205))) (xc 2)) &&& (Int64.ofNat 3689348814741910323))) (xc 4))) &&& (Int64.ofNat 1085102592571150095)) (xc 8))) (xc 16))) (xc 32)))) &&& (xc 127))]) (μ' := μ) rfl ?_
  have ho := Option.some.inj h
  subst ho
  obtain ⟨rfl, rfl⟩ := hK
  exact xr_ret (rv := some (.int ((Int64.toInt32 ((((((((v0 - ((xshrL v0 (xc 1)) &&& (Int64.ofNat 6148914691236517205))) &&& (Int64.ofNat 3689348814741910323)) + ((xshrL (v0 - ((xshrL v0 (xc 1)) &&& (Int64.ofNat 6148914691236517205))) (xc 2)) &&& (Int64.ofNat 3689348814741910323))) + (xshrL (((v0 - ((xshrL v0 (xc 1)) &&& (Int64.ofNat 6148914691236517205))) &&& (Int64.ofNat 3689348814741910323)) + ((xshrL (v0 - ((xshrL v0 (xc 1)) &&& (Int64.ofNat 6148914691236517205))) (xc 2)) &&& (Int64.ofNat 3689348814741910323))) (xc 4))) &&& (Int64.ofNat 1085102592571150095)) + (xshrL (((((v0 - ((xshrL v0 (xc 1)) &&& (Int64.ofNat 6148914691236517205))) &&& (Int64.ofNat 3689348814741910323)) + ((xshrL (v0 - ((xshrL v0 (xc 1)) &&& (Int64.ofNat 6148914691236517205))) (xc 2)) &&& (Int64.ofNat 3689348814741910323))) + (xshrL (((v0 - ((xshrL v0 (xc 1)) &&& (Int64.ofNat 6148914691236517205))) &&& (Int64.ofNat 3689348814741910323)) + ((xshrL (v0 - ((xshrL v0 (xc 1)) &&& (Int64.ofNat 6148914691236517205))) (xc 2)) &&& (Int64.ofNat 3689348814741910323))) (xc 4))) &&& (Int64.ofNat 1085102592571150095)) (xc 8))) + (xshrL ((((((v0 - ((xshrL v0 (xc 1)) &&& (Int64.ofNat 6148914691236517205))) &&& (Int64.ofNat 3689348814741910323)) + ((xshrL (v0 - ((xshrL v0 (xc 1)) &&& (Int64.ofNat 6148914691236517205))) (xc 2)) &&& (Int64.ofNat 3689348814741910323))) + (xshrL (((v0 - ((xshrL v0 (xc 1)) &&& (Int64.ofNat 6148914691236517205))) &&& (Int64.ofNat 3689348814741910323)) + ((xshrL (v0 - ((xshrL v0 (xc 1)) &&& (Int64.ofNat 6148914691236517205))) (xc 2)) &&& (Int64.ofNat 3689348814741910323))) (xc 4))) &&& (Int64.ofNat 1085102592571150095)) + (xshrL (((((v0 - ((xshrL v0 (xc 1)) &&& (Int64.ofNat 6148914691236517205))) &&& (Int64.ofNat 3689348814741910323)) + ((xshrL (v0 - ((xshrL v0 (xc 1)) &&& (Int64.ofNat 6148914691236517205))) (xc 2)) &&& (Int64.ofNat 3689348814741910323))) + (xshrL (((v0 - ((xshrL v0 (xc 1)) &&& (Int64.ofNat 6148914691236517205))) &&& (Int64.ofNat 3689348814741910323)) + ((xshrL (v0 - ((xshrL v0 (xc 1)) &&& (Int64.ofNat 6148914691236517205))) (xc 2)) &&& (Int64.ofNat 3689348814741910323))) (xc 4))) &&& (Int64.ofNat 1085102592571150095)) (xc 8))) (xc 16))) + (xshrL (((((((v0 - ((xshrL v0 (xc 1)) &&& (Int64.ofNat 6148914691236517205))) &&& (Int64.ofNat 3689348814741910323)) + ((xshrL (v0 - ((xshrL v0 (xc 1)) &&& (Int64.ofNat 6148914691236517205))) (xc 2)) &&& (Int64.ofNat 3689348814741910323))) + (xshrL (((v0 - ((xshrL v0 (xc 1)) &&& (Int64.ofNat 6148914691236517205))) &&& (Int64.ofNat 3689348814741910323)) + ((xshrL (v0 - ((xshrL v0 (xc 1)) &&& (Int64.ofNat 6148914691236517205))) (xc 2)) &&& (Int64.ofNat 3689348814741910323))) (xc 4))) &&& (Int64.ofNat 1085102592571150095)) + (xshrL (((((v0 - ((xshrL v0 (xc 1)) &&& (Int64.ofNat 6148914691236517205))) &&& (Int64.ofNat 3689348814741910323)) + ((xshrL (v0 - ((xshrL v0 (xc 1)) &&& (Int64.ofNat 6148914691236517205))) (xc 2)) &&& (Int64.ofNat 3689348814741910323))) + (xshrL (((v0 - ((xshrL v0 (xc 1)) &&& (Int64.ofNat 6148914691236517205))) &&& (Int64.ofNat 3689348814741910323)) + ((xshrL (v0 - ((xshrL v0 (xc 1)) &&& (Int64.ofNat 6148914691236517205))) (xc 2)) &&& (Int64.ofNat 3689348814741910323))) (xc 4))) &&& (Int64.ofNat 1085102592571150095)) (xc 8))) + (xshrL ((((((v0 - ((xshrL v0 (xc 1)) &&& (Int64.ofNat 6148914691236517205))) &&& (Int64.ofNat 3689348814741910323)) + ((xshrL (v0 - ((xshrL v0 (xc 1)) &&& (Int64.ofNat 6148914691236517205))) (xc 2)) &&& (Int64.ofNat 3689348814741910323))) + (xshrL (((v0 - ((xshrL v0 (xc 1)) &&& (Int64.ofNat 6148914691236517205))) &&& (Int64.ofNat 3689348814741910323)) + ((xshrL (v0 - ((xshrL v0 (xc 1)) &&& (Int64.ofNat 6148914691236517205))) (xc 2)) &&& (Int64.ofNat 3689348814741910323))) (xc 4))) &&& (Int64.ofNat 1085102592571150095)) + (xshrL (((((v0 - ((xshrL v0 (xc 1)) &&& (Int64.ofNat 6148914691236517205))) &&& (Int64.ofNat 3689348814741910323)) + ((xshrL (v0 - ((xshrL v0 (xc 1)) &&& (Int64.ofNat 6148914691236517205))) (xc 2)) &&& (Int64.ofNat 3689348814741910323))) + (xshrL (((v0 - ((xshrL v0 (xc 1)) &&& (Int64.ofNat 6148914691236517205))) &&& (Int64.ofNat 3689348814741910323)) + ((xshrL (v0 - ((xshrL v0 (xc 1)) &&& (Int64.ofNat 6148914691236517205))) (xc 2)) &&& (Int64.ofNat 3689348814741910323))) (xc 4))) &&& (Int64.ofNat 1085102592571150095)) (xc 8))) (xc 16))) (xc 32)))) &&& (xc 127)))) rfl rfl (Or.inl rfl)
noncomputable def fJL_bitCount (a0 : Int64) (μ : xM) : Option (Int32) := fJL_bitCount_0 a0 μ
theorem fJL_bitCount_ok {d : Nat} {a0 : Int64} {μ : xM} {o : Int32} (h : fJL_bitCount a0 μ = some o) : xRun (d + 0) 222 0 [some (.long a0), none] [] μ (some (.int o)) μ :=
  xr_forget (lo := [some (.long a0), none]) (⟨rfl, trivial⟩) (fJL_bitCount_0_ok (d := d) h (show fJL_bitCount_K μ _ _ o from ⟨rfl, rfl⟩))
-- KeptAnswers$Worlds.howMany(LKeptAnswers$Holding;)I 
def fW_howMany_K (rv : Option Value) (μf : xM) : (Int32 × xM) → Prop := fun o => rv = some (.int o.1) ∧ μf = o.2
def fW_howMany_K9 (v0 : Nat) (μ : xM) (d : Nat) (rv : Option Value) (μf : xM) : ((Int32 × Int32) ⊕ (Int32 × xM)) → Prop := Sum.elim (fun s : Int32 × Int32 => xRun (d + 5) 123 9 [some (.ref v0), none, some (.int s.1), some (.int s.2)] [] μ rv μf) (fW_howMany_K rv μf)
noncomputable def fW_howMany_33  (v2 : Int32) (μ : xM) : Option (Int32 × xM) := some ((v2, μ))
theorem fW_howMany_33_ok {d : Nat} {v2 : Int32} {μ : xM} {rv : Option Value} {μf : xM} {out : Int32 × xM} (h : fW_howMany_33 v2 μ = some out) (hK : fW_howMany_K rv μf out) : xRun (d + 5) 123 33 [none, none, some (.int v2), none] [] μ rv μf := by
  unfold fW_howMany_33 at h
  refine xr_go 1 (pc' := 34) (lo' := [none, none, some (.int v2), none]) (st' := [.int v2]) (μ' := μ) rfl ?_
  have ho := Option.some.inj h
  subst ho
  obtain ⟨rfl, rfl⟩ := hK
  exact xr_ret (rv := some (.int v2)) rfl rfl (Or.inl rfl)
noncomputable def fW_howMany_L9  (v0 : Nat) (v2 : Int32) (v3 : Int32) (μ : xM) : Option ((Int32 × Int32) ⊕ (Int32 × xM)) := if (xc 64) ≤ v3 then ((fW_howMany_33 v2 μ).map (fun o => .inr o)) else ((ldFR μ v0 8 0).bind fun x1 => (ldAL μ x1 v3).bind fun x2 => (fJL_bitCount x2 μ).bind fun r3 => some (.inl ((v2 + r3, v3 + xc 1))))
theorem fW_howMany_L9_ok {d : Nat} {v0 : Nat} {v2 : Int32} {v3 : Int32} {μ : xM} {rv : Option Value} {μf : xM} {out : (Int32 × Int32) ⊕ (Int32 × xM)} (h : fW_howMany_L9 v0 v2 v3 μ = some out) (hK : fW_howMany_K9 v0 μ d rv μf out) : xRun (d + 5) 123 9 [some (.ref v0), none, some (.int v2), some (.int v3)] [] μ rv μf := by
  unfold fW_howMany_L9 at h
  refine xr_go 2 (pc' := 12) (lo' := [some (.ref v0), none, some (.int v2), some (.int v3)]) (st' := [.int (xc 64), .int v3]) (μ' := μ) rfl ?_
  refine xr_icmp (pct := 33) rfl rfl rfl (fun hc => ?_) (fun hc => ?_)
  · replace h := (if_pos (of_decide_eq_true hc)).symm.trans h
    refine xr_forget (lo := [none, none, some (.int v2), none]) ⟨rfl, trivial⟩ ?_
    obtain ⟨o, h2, rfl⟩ := Option.map_eq_some_iff.mp h
    exact fW_howMany_33_ok h2 hK
  · replace h := (if_neg (of_decide_eq_false hc)).symm.trans h
    refine xr_go 2 (pc' := 17) (lo' := [some (.ref v0), none, some (.int v2), some (.int v3)]) (st' := [.ref v0, .int v2]) (μ' := μ) rfl ?_
    obtain ⟨x1, hx1, h⟩ := Option.bind_eq_some_iff.mp h
    refine xr_opA (pc' := 20) (lo' := [some (.ref v0), none, some (.int v2), some (.int v3)]) (st' := [.int v2]) (o := ldFR μ v0 8 0) rfl hx1 ?_
    refine xr_go 1 (pc' := 21) (lo' := [some (.ref v0), none, some (.int v2), some (.int v3)]) (st' := [.int v3, .ref x1, .int v2]) (μ' := μ) rfl ?_
    obtain ⟨x2, hx2, h⟩ := Option.bind_eq_some_iff.mp h
    refine xr_opJ (pc' := 22) (lo' := [some (.ref v0), none, some (.int v2), some (.int v3)]) (st' := [.int v2]) (o := ldAL μ x1 v3) rfl hx2 ?_
    obtain ⟨r3, hr3, h⟩ := Option.bind_eq_some_iff.mp h
    refine xr_callS (j := 222) (d' := (d + 4)) (rv1 := some (.int r3)) (μ1 := μ) (rest := [.int v2]) (As := [.long x2]) rfl rfl rfl rfl (Nat.le_of_ble_eq_true rfl) rfl (by exact (fJL_bitCount_ok (d := d + (4)) hr3)) ?_
    refine xr_go 4 (pc' := 9) (lo' := [some (.ref v0), none, some (.int (v2 + r3)), some (.int (v3 + xc 1))]) (st' := []) (μ' := μ) rfl ?_
    refine xr_forget (lo := [some (.ref v0), none, some (.int (v2 + r3)), some (.int (v3 + xc 1))]) ⟨rfl, rfl, rfl, trivial⟩ ?_
    have ho := Option.some.inj h
    subst ho
    exact hK
theorem fW_howMany_L9_lp {d : Nat} {v0 : Nat} {v2 : Int32} {v3 : Int32} {μ : xM} {rv : Option Value} {μf : xM} {out : Int32 × xM} (h : xwh (fun s : Int32 × Int32 => fW_howMany_L9 v0 s.1 s.2 μ) (v2, v3) = some out) (hK : fW_howMany_K rv μf out) : xRun (d + 5) 123 9 [some (.ref v0), none, some (.int v2), some (.int v3)] [] μ rv μf :=
  xwh_ind (Rh := fun s : Int32 × Int32 => xRun (d + 5) 123 9 [some (.ref v0), none, some (.int s.1), some (.int s.2)] [] μ rv μf) (Co := fW_howMany_K rv μf) (fun s o hb hk => fW_howMany_L9_ok hb hk) h hK
noncomputable def fW_howMany_0  (v0 : Nat) (v1 : Nat) (μ : xM) : Option (Int32 × xM) := (fW_findOpen v0 v1 μ).bind fun r4 => xwh (fun s : Int32 × Int32 => fW_howMany_L9 v0 s.1 s.2 r4) (xc 0, xc 0)
theorem fW_howMany_0_ok {d : Nat} {v0 : Nat} {v1 : Nat} {μ : xM} {rv : Option Value} {μf : xM} {out : Int32 × xM} (h : fW_howMany_0 v0 v1 μ = some out) (hK : fW_howMany_K rv μf out) : xRun (d + 5) 123 0 [some (.ref v0), some (.ref v1), none, none] [] μ rv μf := by
  unfold fW_howMany_0 at h
  refine xr_go 2 (pc' := 2) (lo' := [some (.ref v0), some (.ref v1), none, none]) (st' := [.ref v1, .ref v0]) (μ' := μ) rfl ?_
  obtain ⟨r4, hr4, h⟩ := Option.bind_eq_some_iff.mp h
  refine xr_callV (j := 127) (d' := (d + 4)) (rv1 := none) (μ1 := r4) (rest := []) (As := [.ref v1]) rfl rfl rfl rfl (Nat.le_of_ble_eq_true rfl) (fW_findOpen_kd hr4) rfl (by exact (fW_findOpen_ok (d := d + (0)) hr4)) ?_
  refine xr_go 4 (pc' := 9) (lo' := [some (.ref v0), some (.ref v1), some (.int (xc 0)), some (.int (xc 0))]) (st' := []) (μ' := r4) rfl ?_
  refine xr_forget (lo := [some (.ref v0), none, some (.int (xc 0)), some (.int (xc 0))]) ⟨rfl, rfl, rfl, trivial⟩ ?_
  exact fW_howMany_L9_lp h hK
noncomputable def fW_howMany (a0 : Nat) (a1 : Nat) (μ : xM) : Option (Int32 × xM) := xgd μ a0 8 (fW_howMany_0 a0 a1 μ)
theorem fW_howMany_kd {a0 : Nat} {a1 : Nat} {μ : xM} {o : Int32 × xM} (h : fW_howMany a0 a1 μ = some o) : (xK μ a0).1 = 10 + 8 := (xgd_some h).1
theorem fW_howMany_ok {d : Nat} {a0 : Nat} {a1 : Nat} {μ : xM} {o : Int32 × xM} (h : fW_howMany a0 a1 μ = some o) : xRun (d + 5) 123 0 [some (.ref a0), some (.ref a1), none, none] [] μ (some (.int o.1)) o.2 :=
  xr_forget (lo := [some (.ref a0), some (.ref a1), none, none]) (⟨rfl, rfl, trivial⟩) (fW_howMany_0_ok (d := d) (xgd_some h).2 (show fW_howMany_K _ _ o from ⟨rfl, rfl⟩))
-- KeptAnswers.worlds()I 
def fX_worlds_K (rv : Option Value) (μf : xM) : (Int32 × xM) → Prop := fun o => rv = some (.int o.1) ∧ μf = o.2
noncomputable def fX_worlds_0  (v0 : Nat) (μ : xM) : Option (Int32 × xM) := (ldFR μ v0 0 8).bind fun x1 => (ldFR μ v0 0 0).bind fun x2 => (fW_howMany x1 x2 μ).bind fun r3 => some ((r3.1, r3.2))
theorem fX_worlds_0_ok {d : Nat} {v0 : Nat} {μ : xM} {rv : Option Value} {μf : xM} {out : Int32 × xM} (h : fX_worlds_0 v0 μ = some out) (hK : fX_worlds_K rv μf out) : xRun (d + 6) 22 0 [some (.ref v0)] [] μ rv μf := by
  unfold fX_worlds_0 at h
  refine xr_go 1 (pc' := 1) (lo' := [some (.ref v0)]) (st' := [.ref v0]) (μ' := μ) rfl ?_
  obtain ⟨x1, hx1, h⟩ := Option.bind_eq_some_iff.mp h
  refine xr_opA (pc' := 4) (lo' := [some (.ref v0)]) (st' := []) (o := ldFR μ v0 0 8) rfl hx1 ?_
  refine xr_go 1 (pc' := 5) (lo' := [some (.ref v0)]) (st' := [.ref v0, .ref x1]) (μ' := μ) rfl ?_
  obtain ⟨x2, hx2, h⟩ := Option.bind_eq_some_iff.mp h
  refine xr_opA (pc' := 8) (lo' := [some (.ref v0)]) (st' := [.ref x1]) (o := ldFR μ v0 0 0) rfl hx2 ?_
  obtain ⟨r3, hr3, h⟩ := Option.bind_eq_some_iff.mp h
  refine xr_callV (j := 123) (d' := (d + 5)) (rv1 := some (.int r3.1)) (μ1 := r3.2) (rest := []) (As := [.ref x2]) rfl rfl rfl rfl (Nat.le_of_ble_eq_true rfl) (fW_howMany_kd hr3) rfl (by exact (fW_howMany_ok (d := d + (0)) hr3)) ?_
  have ho := Option.some.inj h
  subst ho
  obtain ⟨rfl, rfl⟩ := hK
  exact xr_ret (rv := some (.int r3.1)) rfl rfl (Or.inl rfl)
noncomputable def fX_worlds (a0 : Nat) (μ : xM) : Option (Int32 × xM) := xgd μ a0 0 (fX_worlds_0 a0 μ)
theorem fX_worlds_kd {a0 : Nat} {μ : xM} {o : Int32 × xM} (h : fX_worlds a0 μ = some o) : (xK μ a0).1 = 10 + 0 := (xgd_some h).1
theorem fX_worlds_ok {d : Nat} {a0 : Nat} {μ : xM} {o : Int32 × xM} (h : fX_worlds a0 μ = some o) : xRun (d + 6) 22 0 [some (.ref a0)] [] μ (some (.int o.1)) o.2 :=
  xr_forget (lo := [some (.ref a0)]) (⟨rfl, trivial⟩) (fX_worlds_0_ok (d := d) (xgd_some h).2 (show fX_worlds_K _ _ o from ⟨rfl, rfl⟩))
-- KeptAnswersModel.isWorld(I)Z 
def fM_isWorld_K (μ : xM) (rv : Option Value) (μf : xM) : (Int32) → Prop := fun o => rv = some (.int o) ∧ μf = μ
def fM_isWorld_K50 (v0 : Nat) (v1 : Int32) (μ : xM) (d : Nat) (rv : Option Value) (μf : xM) : ((Int32 × Int32) ⊕ (Int32)) → Prop := Sum.elim (fun s : Int32 × Int32 => xRun (d + 2) 197 50 [some (.ref v0), some (.int v1), some (.int s.1), some (.int s.2)] [] μ rv μf) (fM_isWorld_K μ rv μf)
def fM_isWorld_K4 (v0 : Nat) (v1 : Int32) (μ : xM) (d : Nat) (rv : Option Value) (μf : xM) : ((Int32 × Int32) ⊕ (Int32)) → Prop := Sum.elim (fun s : Int32 × Int32 => xRun (d + 2) 197 4 [some (.ref v0), some (.int v1), some (.int s.1), some (.int s.2)] [] μ rv μf) (fM_isWorld_K μ rv μf)
noncomputable def fM_isWorld_101  (v2 : Int32) (μ : xM) : Option (Int32) := if v2 = 0 ∨ v2 = 1 then some v2 else none
theorem fM_isWorld_101_ok {d : Nat} {v2 : Int32} {μ : xM} {rv : Option Value} {μf : xM} {out : Int32} (h : fM_isWorld_101 v2 μ = some out) (hK : fM_isWorld_K μ rv μf out) : xRun (d + 2) 197 101 [none, none, some (.int v2), none] [] μ rv μf := by
  unfold fM_isWorld_101 at h
  refine xr_go 1 (pc' := 102) (lo' := [none, none, some (.int v2), none]) (st' := [.int v2]) (μ' := μ) rfl ?_
  obtain ⟨hb, h⟩ := xifO h
  have ho := Option.some.inj h
  subst ho
  obtain ⟨rfl, rfl⟩ := hK
  exact xr_ret (rv := some (.int v2)) rfl rfl (Or.inr ⟨rfl, hb⟩)
noncomputable def fM_isWorld_94  (v0 : Nat) (v1 : Int32) (v3 : Int32) (s0 : Int32) (μ : xM) : Option ((Int32 × Int32) ⊕ (Int32)) := some (.inl ((s0, v3 + xc 1)))
theorem fM_isWorld_94_ok {d : Nat} {v0 : Nat} {v1 : Int32} {v3 : Int32} {s0 : Int32} {μ : xM} {rv : Option Value} {μf : xM} {out : (Int32 × Int32) ⊕ (Int32)} (h : fM_isWorld_94 v0 v1 v3 s0 μ = some out) (hK : fM_isWorld_K50 v0 v1 μ d rv μf out) : xRun (d + 2) 197 94 [some (.ref v0), some (.int v1), none, some (.int v3)] [.int s0] μ rv μf := by
  unfold fM_isWorld_94 at h
  refine xr_go 3 (pc' := 50) (lo' := [some (.ref v0), some (.int v1), some (.int s0), some (.int (v3 + xc 1))]) (st' := []) (μ' := μ) rfl ?_
  refine xr_forget (lo := [some (.ref v0), some (.int v1), some (.int s0), some (.int (v3 + xc 1))]) ⟨rfl, rfl, rfl, rfl, trivial⟩ ?_
  have ho := Option.some.inj h
  subst ho
  exact hK
noncomputable def fM_isWorld_89  (v0 : Nat) (v1 : Int32) (v3 : Int32) (μ : xM) : Option ((Int32 × Int32) ⊕ (Int32)) := fM_isWorld_94 v0 v1 v3 (xc 1) μ
theorem fM_isWorld_89_ok {d : Nat} {v0 : Nat} {v1 : Int32} {v3 : Int32} {μ : xM} {rv : Option Value} {μf : xM} {out : (Int32 × Int32) ⊕ (Int32)} (h : fM_isWorld_89 v0 v1 v3 μ = some out) (hK : fM_isWorld_K50 v0 v1 μ d rv μf out) : xRun (d + 2) 197 89 [some (.ref v0), some (.int v1), none, some (.int v3)] [] μ rv μf := by
  unfold fM_isWorld_89 at h
  refine xr_go 2 (pc' := 94) (lo' := [some (.ref v0), some (.int v1), none, some (.int v3)]) (st' := [.int (xc 1)]) (μ' := μ) rfl ?_
  refine xr_forget (lo := [some (.ref v0), some (.int v1), none, some (.int v3)]) ⟨rfl, rfl, rfl, trivial⟩ ?_
  exact fM_isWorld_94_ok h hK
noncomputable def fM_isWorld_L50  (v0 : Nat) (v1 : Int32) (v2 : Int32) (v3 : Int32) (μ : xM) : Option ((Int32 × Int32) ⊕ (Int32)) := (ldF μ v0 9 9).bind fun x1 => if x1 ≤ v3 then ((fM_isWorld_101 v2 μ).map (fun o => .inr o)) else (if v2 = 0 then ((fM_isWorld_101 v2 μ).map (fun o => .inr o)) else ((ldFR μ v0 9 16).bind fun x2 => (ldA μ x2 v3).bind fun x3 => if x3 < 0 then (fM_isWorld_89 v0 v1 v3 μ) else ((fM_answerBy v0 ((xc 10) + v3) v1 μ).bind fun r4 => (ldFR μ v0 9 16).bind fun x5 => (ldA μ x5 v3).bind fun x6 => if r4 = x6 then (fM_isWorld_89 v0 v1 v3 μ) else (fM_isWorld_94 v0 v1 v3 (xc 0) μ))))
theorem fM_isWorld_L50_ok {d : Nat} {v0 : Nat} {v1 : Int32} {v2 : Int32} {v3 : Int32} {μ : xM} {rv : Option Value} {μf : xM} {out : (Int32 × Int32) ⊕ (Int32)} (h : fM_isWorld_L50 v0 v1 v2 v3 μ = some out) (hK : fM_isWorld_K50 v0 v1 μ d rv μf out) : xRun (d + 2) 197 50 [some (.ref v0), some (.int v1), some (.int v2), some (.int v3)] [] μ rv μf := by
  unfold fM_isWorld_L50 at h
  refine xr_go 2 (pc' := 52) (lo' := [some (.ref v0), some (.int v1), some (.int v2), some (.int v3)]) (st' := [.ref v0, .int v3]) (μ' := μ) rfl ?_
  obtain ⟨x1, hx1, h⟩ := Option.bind_eq_some_iff.mp h
  refine xr_opI (pc' := 55) (lo' := [some (.ref v0), some (.int v1), some (.int v2), some (.int v3)]) (st' := [.int v3]) (o := ldF μ v0 9 9) rfl hx1 ?_
  refine xr_icmp (pct := 101) rfl rfl rfl (fun hc => ?_) (fun hc => ?_)
  · replace h := (if_pos (of_decide_eq_true hc)).symm.trans h
    refine xr_forget (lo := [none, none, some (.int v2), none]) ⟨rfl, trivial⟩ ?_
    obtain ⟨o, h2, rfl⟩ := Option.map_eq_some_iff.mp h
    exact fM_isWorld_101_ok h2 hK
  · replace h := (if_neg (of_decide_eq_false hc)).symm.trans h
    refine xr_go 1 (pc' := 59) (lo' := [some (.ref v0), some (.int v1), some (.int v2), some (.int v3)]) (st' := [.int v2]) (μ' := μ) rfl ?_
    refine xr_ifc (pct := 101) rfl rfl rfl (fun hc => ?_) (fun hc => ?_)
    · replace h := (if_pos (of_decide_eq_true hc)).symm.trans h
      refine xr_forget (lo := [none, none, some (.int v2), none]) ⟨rfl, trivial⟩ ?_
      obtain ⟨o, h2, rfl⟩ := Option.map_eq_some_iff.mp h
      exact fM_isWorld_101_ok h2 hK
    · replace h := (if_neg (of_decide_eq_false hc)).symm.trans h
      refine xr_go 1 (pc' := 63) (lo' := [some (.ref v0), some (.int v1), some (.int v2), some (.int v3)]) (st' := [.ref v0]) (μ' := μ) rfl ?_
      obtain ⟨x2, hx2, h⟩ := Option.bind_eq_some_iff.mp h
      refine xr_opA (pc' := 66) (lo' := [some (.ref v0), some (.int v1), some (.int v2), some (.int v3)]) (st' := []) (o := ldFR μ v0 9 16) rfl hx2 ?_
      refine xr_go 1 (pc' := 67) (lo' := [some (.ref v0), some (.int v1), some (.int v2), some (.int v3)]) (st' := [.int v3, .ref x2]) (μ' := μ) rfl ?_
      obtain ⟨x3, hx3, h⟩ := Option.bind_eq_some_iff.mp h
      refine xr_opI (pc' := 68) (lo' := [some (.ref v0), some (.int v1), some (.int v2), some (.int v3)]) (st' := []) (o := ldA μ x2 v3) rfl hx3 ?_
      refine xr_ifc (pct := 89) rfl rfl rfl (fun hc => ?_) (fun hc => ?_)
      · replace h := (if_pos (of_decide_eq_true hc)).symm.trans h
        refine xr_forget (lo := [some (.ref v0), some (.int v1), none, some (.int v3)]) ⟨rfl, rfl, rfl, trivial⟩ ?_
        exact fM_isWorld_89_ok h hK
      · replace h := (if_neg (of_decide_eq_false hc)).symm.trans h
        refine xr_go 5 (pc' := 77) (lo' := [some (.ref v0), some (.int v1), some (.int v2), some (.int v3)]) (st' := [.int v1, .int ((xc 10) + v3), .ref v0]) (μ' := μ) rfl ?_
        obtain ⟨r4, hr4, h⟩ := Option.bind_eq_some_iff.mp h
        refine xr_callV (j := 163) (d' := (d + 1)) (rv1 := some (.int r4)) (μ1 := μ) (rest := []) (As := [.int ((xc 10) + v3), .int v1]) rfl rfl rfl rfl (Nat.le_of_ble_eq_true rfl) (fM_answerBy_kd hr4) rfl (by exact (fM_answerBy_ok (d := d + (0)) hr4)) ?_
        refine xr_go 1 (pc' := 81) (lo' := [some (.ref v0), some (.int v1), some (.int v2), some (.int v3)]) (st' := [.ref v0, .int r4]) (μ' := μ) rfl ?_
        obtain ⟨x5, hx5, h⟩ := Option.bind_eq_some_iff.mp h
        refine xr_opA (pc' := 84) (lo' := [some (.ref v0), some (.int v1), some (.int v2), some (.int v3)]) (st' := [.int r4]) (o := ldFR μ v0 9 16) rfl hx5 ?_
        refine xr_go 1 (pc' := 85) (lo' := [some (.ref v0), some (.int v1), some (.int v2), some (.int v3)]) (st' := [.int v3, .ref x5, .int r4]) (μ' := μ) rfl ?_
        obtain ⟨x6, hx6, h⟩ := Option.bind_eq_some_iff.mp h
        refine xr_opI (pc' := 86) (lo' := [some (.ref v0), some (.int v1), some (.int v2), some (.int v3)]) (st' := [.int r4]) (o := ldA μ x5 v3) rfl hx6 ?_
        refine xr_icmp (pct := 93) rfl rfl rfl (fun hc => ?_) (fun hc => ?_)
        · replace h := (if_neg (of_decide_eq_true hc)).symm.trans h
          refine xr_go 1 (pc' := 94) (lo' := [some (.ref v0), some (.int v1), some (.int v2), some (.int v3)]) (st' := [.int (xc 0)]) (μ' := μ) rfl ?_
          refine xr_forget (lo := [some (.ref v0), some (.int v1), none, some (.int v3)]) ⟨rfl, rfl, rfl, trivial⟩ ?_
          exact fM_isWorld_94_ok h hK
        · replace h := (if_pos (Decidable.of_not_not (of_decide_eq_false hc))).symm.trans h
          refine xr_forget (lo := [some (.ref v0), some (.int v1), none, some (.int v3)]) ⟨rfl, rfl, rfl, trivial⟩ ?_
          exact fM_isWorld_89_ok h hK
theorem fM_isWorld_L50_lp {d : Nat} {v0 : Nat} {v1 : Int32} {v2 : Int32} {v3 : Int32} {μ : xM} {rv : Option Value} {μf : xM} {out : Int32} (h : xwh (fun s : Int32 × Int32 => fM_isWorld_L50 v0 v1 s.1 s.2 μ) (v2, v3) = some out) (hK : fM_isWorld_K μ rv μf out) : xRun (d + 2) 197 50 [some (.ref v0), some (.int v1), some (.int v2), some (.int v3)] [] μ rv μf :=
  xwh_ind (Rh := fun s : Int32 × Int32 => xRun (d + 2) 197 50 [some (.ref v0), some (.int v1), some (.int s.1), some (.int s.2)] [] μ rv μf) (Co := fM_isWorld_K μ rv μf) (fun s o hb hk => fM_isWorld_L50_ok hb hk) h hK
noncomputable def fM_isWorld_48  (v0 : Nat) (v1 : Int32) (v2 : Int32) (μ : xM) : Option (Int32) := xwh (fun s : Int32 × Int32 => fM_isWorld_L50 v0 v1 s.1 s.2 μ) (v2, xc 0)
theorem fM_isWorld_48_ok {d : Nat} {v0 : Nat} {v1 : Int32} {v2 : Int32} {μ : xM} {rv : Option Value} {μf : xM} {out : Int32} (h : fM_isWorld_48 v0 v1 v2 μ = some out) (hK : fM_isWorld_K μ rv μf out) : xRun (d + 2) 197 48 [some (.ref v0), some (.int v1), some (.int v2), none] [] μ rv μf := by
  unfold fM_isWorld_48 at h
  refine xr_go 2 (pc' := 50) (lo' := [some (.ref v0), some (.int v1), some (.int v2), some (.int (xc 0))]) (st' := []) (μ' := μ) rfl ?_
  refine xr_forget (lo := [some (.ref v0), some (.int v1), some (.int v2), some (.int (xc 0))]) ⟨rfl, rfl, rfl, rfl, trivial⟩ ?_
  exact fM_isWorld_L50_lp h hK
noncomputable def fM_isWorld_41  (v0 : Nat) (v1 : Int32) (v3 : Int32) (s0 : Int32) (μ : xM) : Option ((Int32 × Int32) ⊕ (Int32)) := some (.inl ((s0, v3 + xc 1)))
theorem fM_isWorld_41_ok {d : Nat} {v0 : Nat} {v1 : Int32} {v3 : Int32} {s0 : Int32} {μ : xM} {rv : Option Value} {μf : xM} {out : (Int32 × Int32) ⊕ (Int32)} (h : fM_isWorld_41 v0 v1 v3 s0 μ = some out) (hK : fM_isWorld_K4 v0 v1 μ d rv μf out) : xRun (d + 2) 197 41 [some (.ref v0), some (.int v1), none, some (.int v3)] [.int s0] μ rv μf := by
  unfold fM_isWorld_41 at h
  refine xr_go 3 (pc' := 4) (lo' := [some (.ref v0), some (.int v1), some (.int s0), some (.int (v3 + xc 1))]) (st' := []) (μ' := μ) rfl ?_
  refine xr_forget (lo := [some (.ref v0), some (.int v1), some (.int s0), some (.int (v3 + xc 1))]) ⟨rfl, rfl, rfl, rfl, trivial⟩ ?_
  have ho := Option.some.inj h
  subst ho
  exact hK
noncomputable def fM_isWorld_40  (v0 : Nat) (v1 : Int32) (v3 : Int32) (μ : xM) : Option ((Int32 × Int32) ⊕ (Int32)) := fM_isWorld_41 v0 v1 v3 (xc 0) μ
theorem fM_isWorld_40_ok {d : Nat} {v0 : Nat} {v1 : Int32} {v3 : Int32} {μ : xM} {rv : Option Value} {μf : xM} {out : (Int32 × Int32) ⊕ (Int32)} (h : fM_isWorld_40 v0 v1 v3 μ = some out) (hK : fM_isWorld_K4 v0 v1 μ d rv μf out) : xRun (d + 2) 197 40 [some (.ref v0), some (.int v1), none, some (.int v3)] [] μ rv μf := by
  unfold fM_isWorld_40 at h
  refine xr_go 1 (pc' := 41) (lo' := [some (.ref v0), some (.int v1), none, some (.int v3)]) (st' := [.int (xc 0)]) (μ' := μ) rfl ?_
  refine xr_forget (lo := [some (.ref v0), some (.int v1), none, some (.int v3)]) ⟨rfl, rfl, rfl, trivial⟩ ?_
  exact fM_isWorld_41_ok h hK
noncomputable def fM_isWorld_36  (v0 : Nat) (v1 : Int32) (v3 : Int32) (μ : xM) : Option ((Int32 × Int32) ⊕ (Int32)) := fM_isWorld_41 v0 v1 v3 (xc 1) μ
theorem fM_isWorld_36_ok {d : Nat} {v0 : Nat} {v1 : Int32} {v3 : Int32} {μ : xM} {rv : Option Value} {μf : xM} {out : (Int32 × Int32) ⊕ (Int32)} (h : fM_isWorld_36 v0 v1 v3 μ = some out) (hK : fM_isWorld_K4 v0 v1 μ d rv μf out) : xRun (d + 2) 197 36 [some (.ref v0), some (.int v1), none, some (.int v3)] [] μ rv μf := by
  unfold fM_isWorld_36 at h
  refine xr_go 2 (pc' := 41) (lo' := [some (.ref v0), some (.int v1), none, some (.int v3)]) (st' := [.int (xc 1)]) (μ' := μ) rfl ?_
  refine xr_forget (lo := [some (.ref v0), some (.int v1), none, some (.int v3)]) ⟨rfl, rfl, rfl, trivial⟩ ?_
  exact fM_isWorld_41_ok h hK
noncomputable def fM_isWorld_L4  (v0 : Nat) (v1 : Int32) (v2 : Int32) (v3 : Int32) (μ : xM) : Option ((Int32 × Int32) ⊕ (Int32)) := if (xc 3) ≤ v3 then ((fM_isWorld_48 v0 v1 v2 μ).map (fun o => .inr o)) else (if v2 = 0 then (fM_isWorld_40 v0 v1 v3 μ) else ((ldFR μ v0 9 1).bind fun x7 => (ldAZ μ x7 v3).bind fun x8 => if x8 = 0 then (fM_isWorld_36 v0 v1 v3 μ) else ((fM_isKeyed ((v1 >>> (((xc 4) * v3) &&& 31)) &&& (xc 15)) μ).bind fun r9 => if r9 = 0 then (fM_isWorld_40 v0 v1 v3 μ) else (fM_isWorld_36 v0 v1 v3 μ))))
theorem fM_isWorld_L4_ok {d : Nat} {v0 : Nat} {v1 : Int32} {v2 : Int32} {v3 : Int32} {μ : xM} {rv : Option Value} {μf : xM} {out : (Int32 × Int32) ⊕ (Int32)} (h : fM_isWorld_L4 v0 v1 v2 v3 μ = some out) (hK : fM_isWorld_K4 v0 v1 μ d rv μf out) : xRun (d + 2) 197 4 [some (.ref v0), some (.int v1), some (.int v2), some (.int v3)] [] μ rv μf := by
  unfold fM_isWorld_L4 at h
  refine xr_go 2 (pc' := 6) (lo' := [some (.ref v0), some (.int v1), some (.int v2), some (.int v3)]) (st' := [.int (xc 3), .int v3]) (μ' := μ) rfl ?_
  refine xr_icmp (pct := 48) rfl rfl rfl (fun hc => ?_) (fun hc => ?_)
  · replace h := (if_pos (of_decide_eq_true hc)).symm.trans h
    refine xr_forget (lo := [some (.ref v0), some (.int v1), some (.int v2), none]) ⟨rfl, rfl, rfl, trivial⟩ ?_
    obtain ⟨o, h2, rfl⟩ := Option.map_eq_some_iff.mp h
    exact fM_isWorld_48_ok h2 hK
  · replace h := (if_neg (of_decide_eq_false hc)).symm.trans h
    refine xr_go 1 (pc' := 10) (lo' := [some (.ref v0), some (.int v1), some (.int v2), some (.int v3)]) (st' := [.int v2]) (μ' := μ) rfl ?_
    refine xr_ifc (pct := 40) rfl rfl rfl (fun hc => ?_) (fun hc => ?_)
    · replace h := (if_pos (of_decide_eq_true hc)).symm.trans h
      refine xr_forget (lo := [some (.ref v0), some (.int v1), none, some (.int v3)]) ⟨rfl, rfl, rfl, trivial⟩ ?_
      exact fM_isWorld_40_ok h hK
    · replace h := (if_neg (of_decide_eq_false hc)).symm.trans h
      refine xr_go 1 (pc' := 14) (lo' := [some (.ref v0), some (.int v1), some (.int v2), some (.int v3)]) (st' := [.ref v0]) (μ' := μ) rfl ?_
      obtain ⟨x7, hx7, h⟩ := Option.bind_eq_some_iff.mp h
      refine xr_opA (pc' := 17) (lo' := [some (.ref v0), some (.int v1), some (.int v2), some (.int v3)]) (st' := []) (o := ldFR μ v0 9 1) rfl hx7 ?_
      refine xr_go 1 (pc' := 18) (lo' := [some (.ref v0), some (.int v1), some (.int v2), some (.int v3)]) (st' := [.int v3, .ref x7]) (μ' := μ) rfl ?_
      obtain ⟨x8, hx8, h⟩ := Option.bind_eq_some_iff.mp h
      refine xr_opI (pc' := 19) (lo' := [some (.ref v0), some (.int v1), some (.int v2), some (.int v3)]) (st' := []) (o := ldAZ μ x7 v3) rfl hx8 ?_
      refine xr_ifc (pct := 36) rfl rfl rfl (fun hc => ?_) (fun hc => ?_)
      · replace h := (if_pos (of_decide_eq_true hc)).symm.trans h
        refine xr_forget (lo := [some (.ref v0), some (.int v1), none, some (.int v3)]) ⟨rfl, rfl, rfl, trivial⟩ ?_
        exact fM_isWorld_36_ok h hK
      · replace h := (if_neg (of_decide_eq_false hc)).symm.trans h
        refine xr_go 7 (pc' := 30) (lo' := [some (.ref v0), some (.int v1), some (.int v2), some (.int v3)]) (st' := [.int ((v1 >>> (((xc 4) * v3) &&& 31)) &&& (xc 15))]) (μ' := μ) rfl ?_
        obtain ⟨r9, hr9, h⟩ := Option.bind_eq_some_iff.mp h
        refine xr_callS (j := 142) (d' := (d + 1)) (rv1 := some (.int r9)) (μ1 := μ) (rest := []) (As := [.int ((v1 >>> (((xc 4) * v3) &&& 31)) &&& (xc 15))]) rfl rfl rfl rfl (Nat.le_of_ble_eq_true rfl) rfl (by exact (fM_isKeyed_ok (d := d + (1)) hr9)) ?_
        refine xr_ifc (pct := 40) rfl rfl rfl (fun hc => ?_) (fun hc => ?_)
        · replace h := (if_pos (of_decide_eq_true hc)).symm.trans h
          refine xr_forget (lo := [some (.ref v0), some (.int v1), none, some (.int v3)]) ⟨rfl, rfl, rfl, trivial⟩ ?_
          exact fM_isWorld_40_ok h hK
        · replace h := (if_neg (of_decide_eq_false hc)).symm.trans h
          refine xr_forget (lo := [some (.ref v0), some (.int v1), none, some (.int v3)]) ⟨rfl, rfl, rfl, trivial⟩ ?_
          exact fM_isWorld_36_ok h hK
theorem fM_isWorld_L4_lp {d : Nat} {v0 : Nat} {v1 : Int32} {v2 : Int32} {v3 : Int32} {μ : xM} {rv : Option Value} {μf : xM} {out : Int32} (h : xwh (fun s : Int32 × Int32 => fM_isWorld_L4 v0 v1 s.1 s.2 μ) (v2, v3) = some out) (hK : fM_isWorld_K μ rv μf out) : xRun (d + 2) 197 4 [some (.ref v0), some (.int v1), some (.int v2), some (.int v3)] [] μ rv μf :=
  xwh_ind (Rh := fun s : Int32 × Int32 => xRun (d + 2) 197 4 [some (.ref v0), some (.int v1), some (.int s.1), some (.int s.2)] [] μ rv μf) (Co := fM_isWorld_K μ rv μf) (fun s o hb hk => fM_isWorld_L4_ok hb hk) h hK
noncomputable def fM_isWorld_0  (v0 : Nat) (v1 : Int32) (μ : xM) : Option (Int32) := xwh (fun s : Int32 × Int32 => fM_isWorld_L4 v0 v1 s.1 s.2 μ) (xc 1, xc 0)
theorem fM_isWorld_0_ok {d : Nat} {v0 : Nat} {v1 : Int32} {μ : xM} {rv : Option Value} {μf : xM} {out : Int32} (h : fM_isWorld_0 v0 v1 μ = some out) (hK : fM_isWorld_K μ rv μf out) : xRun (d + 2) 197 0 [some (.ref v0), some (.int v1), none, none] [] μ rv μf := by
  unfold fM_isWorld_0 at h
  refine xr_go 4 (pc' := 4) (lo' := [some (.ref v0), some (.int v1), some (.int (xc 1)), some (.int (xc 0))]) (st' := []) (μ' := μ) rfl ?_
  refine xr_forget (lo := [some (.ref v0), some (.int v1), some (.int (xc 1)), some (.int (xc 0))]) ⟨rfl, rfl, rfl, rfl, trivial⟩ ?_
  exact fM_isWorld_L4_lp h hK
noncomputable def fM_isWorld (a0 : Nat) (a1 : Int32) (μ : xM) : Option (Int32) := xgd μ a0 9 (fM_isWorld_0 a0 a1 μ)
theorem fM_isWorld_kd {a0 : Nat} {a1 : Int32} {μ : xM} {o : Int32} (h : fM_isWorld a0 a1 μ = some o) : (xK μ a0).1 = 10 + 9 := (xgd_some h).1
theorem fM_isWorld_ok {d : Nat} {a0 : Nat} {a1 : Int32} {μ : xM} {o : Int32} (h : fM_isWorld a0 a1 μ = some o) : xRun (d + 2) 197 0 [some (.ref a0), some (.int a1), none, none] [] μ (some (.int o)) μ :=
  xr_forget (lo := [some (.ref a0), some (.int a1), none, none]) (⟨rfl, rfl, trivial⟩) (fM_isWorld_0_ok (d := d) (xgd_some h).2 (show fM_isWorld_K μ _ _ o from ⟨rfl, rfl⟩))
-- KeptAnswersModel.worlds()I 
def fM_worlds_K (μ : xM) (rv : Option Value) (μf : xM) : (Int32) → Prop := fun o => rv = some (.int o) ∧ μf = μ
def fM_worlds_K4 (v0 : Nat) (μ : xM) (d : Nat) (rv : Option Value) (μf : xM) : ((Int32 × Int32) ⊕ (Int32)) → Prop := Sum.elim (fun s : Int32 × Int32 => xRun (d + 3) 198 4 [some (.ref v0), some (.int s.1), some (.int s.2)] [] μ rv μf) (fM_worlds_K μ rv μf)
noncomputable def fM_worlds_33  (v1 : Int32) (μ : xM) : Option (Int32) := some v1
theorem fM_worlds_33_ok {d : Nat} {v1 : Int32} {μ : xM} {rv : Option Value} {μf : xM} {out : Int32} (h : fM_worlds_33 v1 μ = some out) (hK : fM_worlds_K μ rv μf out) : xRun (d + 3) 198 33 [none, some (.int v1), none] [] μ rv μf := by
  unfold fM_worlds_33 at h
  refine xr_go 1 (pc' := 34) (lo' := [none, some (.int v1), none]) (st' := [.int v1]) (μ' := μ) rfl ?_
  have ho := Option.some.inj h
  subst ho
  obtain ⟨rfl, rfl⟩ := hK
  exact xr_ret (rv := some (.int v1)) rfl rfl (Or.inl rfl)
noncomputable def fM_worlds_25  (v0 : Nat) (v2 : Int32) (s0 : Int32) (s1 : Int32) (μ : xM) : Option ((Int32 × Int32) ⊕ (Int32)) := some (.inl ((s1 + s0, v2 + xc 1)))
theorem fM_worlds_25_ok {d : Nat} {v0 : Nat} {v2 : Int32} {s0 : Int32} {s1 : Int32} {μ : xM} {rv : Option Value} {μf : xM} {out : (Int32 × Int32) ⊕ (Int32)} (h : fM_worlds_25 v0 v2 s0 s1 μ = some out) (hK : fM_worlds_K4 v0 μ d rv μf out) : xRun (d + 3) 198 25 [some (.ref v0), none, some (.int v2)] [.int s0, .int s1] μ rv μf := by
  unfold fM_worlds_25 at h
  refine xr_go 4 (pc' := 4) (lo' := [some (.ref v0), some (.int (s1 + s0)), some (.int (v2 + xc 1))]) (st' := []) (μ' := μ) rfl ?_
  refine xr_forget (lo := [some (.ref v0), some (.int (s1 + s0)), some (.int (v2 + xc 1))]) ⟨rfl, rfl, rfl, trivial⟩ ?_
  have ho := Option.some.inj h
  subst ho
  exact hK
noncomputable def fM_worlds_L4  (v0 : Nat) (v1 : Int32) (v2 : Int32) (μ : xM) : Option ((Int32 × Int32) ⊕ (Int32)) := if (xc 4096) ≤ v2 then ((fM_worlds_33 v1 μ).map (fun o => .inr o)) else ((fM_isWorld v0 v2 μ).bind fun r1 => if r1 = 0 then (fM_worlds_25 v0 v2 (xc 0) v1 μ) else (fM_worlds_25 v0 v2 (xc 1) v1 μ))
theorem fM_worlds_L4_ok {d : Nat} {v0 : Nat} {v1 : Int32} {v2 : Int32} {μ : xM} {rv : Option Value} {μf : xM} {out : (Int32 × Int32) ⊕ (Int32)} (h : fM_worlds_L4 v0 v1 v2 μ = some out) (hK : fM_worlds_K4 v0 μ d rv μf out) : xRun (d + 3) 198 4 [some (.ref v0), some (.int v1), some (.int v2)] [] μ rv μf := by
  unfold fM_worlds_L4 at h
  refine xr_go 2 (pc' := 8) (lo' := [some (.ref v0), some (.int v1), some (.int v2)]) (st' := [.int (xc 4096), .int v2]) (μ' := μ) rfl ?_
  refine xr_icmp (pct := 33) rfl rfl rfl (fun hc => ?_) (fun hc => ?_)
  · replace h := (if_pos (of_decide_eq_true hc)).symm.trans h
    refine xr_forget (lo := [none, some (.int v1), none]) ⟨rfl, trivial⟩ ?_
    obtain ⟨o, h2, rfl⟩ := Option.map_eq_some_iff.mp h
    exact fM_worlds_33_ok h2 hK
  · replace h := (if_neg (of_decide_eq_false hc)).symm.trans h
    refine xr_go 3 (pc' := 14) (lo' := [some (.ref v0), some (.int v1), some (.int v2)]) (st' := [.int v2, .ref v0, .int v1]) (μ' := μ) rfl ?_
    obtain ⟨r1, hr1, h⟩ := Option.bind_eq_some_iff.mp h
    refine xr_callV (j := 197) (d' := (d + 2)) (rv1 := some (.int r1)) (μ1 := μ) (rest := [.int v1]) (As := [.int v2]) rfl rfl rfl rfl (Nat.le_of_ble_eq_true rfl) (fM_isWorld_kd hr1) rfl (by exact (fM_isWorld_ok (d := d + (0)) hr1)) ?_
    refine xr_ifc (pct := 24) rfl rfl rfl (fun hc => ?_) (fun hc => ?_)
    · replace h := (if_pos (of_decide_eq_true hc)).symm.trans h
      refine xr_go 1 (pc' := 25) (lo' := [some (.ref v0), some (.int v1), some (.int v2)]) (st' := [.int (xc 0), .int v1]) (μ' := μ) rfl ?_
      refine xr_forget (lo := [some (.ref v0), none, some (.int v2)]) ⟨rfl, rfl, trivial⟩ ?_
      exact fM_worlds_25_ok h hK
    · replace h := (if_neg (of_decide_eq_false hc)).symm.trans h
      refine xr_go 2 (pc' := 25) (lo' := [some (.ref v0), some (.int v1), some (.int v2)]) (st' := [.int (xc 1), .int v1]) (μ' := μ) rfl ?_
      refine xr_forget (lo := [some (.ref v0), none, some (.int v2)]) ⟨rfl, rfl, trivial⟩ ?_
      exact fM_worlds_25_ok h hK
theorem fM_worlds_L4_lp {d : Nat} {v0 : Nat} {v1 : Int32} {v2 : Int32} {μ : xM} {rv : Option Value} {μf : xM} {out : Int32} (h : xwh (fun s : Int32 × Int32 => fM_worlds_L4 v0 s.1 s.2 μ) (v1, v2) = some out) (hK : fM_worlds_K μ rv μf out) : xRun (d + 3) 198 4 [some (.ref v0), some (.int v1), some (.int v2)] [] μ rv μf :=
  xwh_ind (Rh := fun s : Int32 × Int32 => xRun (d + 3) 198 4 [some (.ref v0), some (.int s.1), some (.int s.2)] [] μ rv μf) (Co := fM_worlds_K μ rv μf) (fun s o hb hk => fM_worlds_L4_ok hb hk) h hK
noncomputable def fM_worlds_0  (v0 : Nat) (μ : xM) : Option (Int32) := xwh (fun s : Int32 × Int32 => fM_worlds_L4 v0 s.1 s.2 μ) (xc 0, xc 0)
theorem fM_worlds_0_ok {d : Nat} {v0 : Nat} {μ : xM} {rv : Option Value} {μf : xM} {out : Int32} (h : fM_worlds_0 v0 μ = some out) (hK : fM_worlds_K μ rv μf out) : xRun (d + 3) 198 0 [some (.ref v0), none, none] [] μ rv μf := by
  unfold fM_worlds_0 at h
  refine xr_go 4 (pc' := 4) (lo' := [some (.ref v0), some (.int (xc 0)), some (.int (xc 0))]) (st' := []) (μ' := μ) rfl ?_
  refine xr_forget (lo := [some (.ref v0), some (.int (xc 0)), some (.int (xc 0))]) ⟨rfl, rfl, rfl, trivial⟩ ?_
  exact fM_worlds_L4_lp h hK
noncomputable def fM_worlds (a0 : Nat) (μ : xM) : Option (Int32) := xgd μ a0 9 (fM_worlds_0 a0 μ)
theorem fM_worlds_kd {a0 : Nat} {μ : xM} {o : Int32} (h : fM_worlds a0 μ = some o) : (xK μ a0).1 = 10 + 9 := (xgd_some h).1
theorem fM_worlds_ok {d : Nat} {a0 : Nat} {μ : xM} {o : Int32} (h : fM_worlds a0 μ = some o) : xRun (d + 3) 198 0 [some (.ref a0), none, none] [] μ (some (.int o)) μ :=
  xr_forget (lo := [some (.ref a0), none, none]) (⟨rfl, trivial⟩) (fM_worlds_0_ok (d := d) (xgd_some h).2 (show fM_worlds_K μ _ _ o from ⟨rfl, rfl⟩))
-- KeptAnswers$Worlds.isEmpty([J)Z 
def fW_isEmpty_K (μ : xM) (rv : Option Value) (μf : xM) : (Int32) → Prop := fun o => rv = some (.int o) ∧ μf = μ
def fW_isEmpty_K2 (v0 : Nat) (μ : xM) (d : Nat) (rv : Option Value) (μf : xM) : ((Int32) ⊕ (Int32)) → Prop := Sum.elim (fun s : Int32 => xRun (d + 0) 133 2 [some (.ref v0), some (.int s)] [] μ rv μf) (fW_isEmpty_K μ rv μf)
noncomputable def fW_isEmpty_24  (μ : xM) : Option (Int32) := some (xc 1)
theorem fW_isEmpty_24_ok {d : Nat} {μ : xM} {rv : Option Value} {μf : xM} {out : Int32} (h : fW_isEmpty_24 μ = some out) (hK : fW_isEmpty_K μ rv μf out) : xRun (d + 0) 133 24 [none, none] [] μ rv μf := by
  unfold fW_isEmpty_24 at h
  refine xr_go 1 (pc' := 25) (lo' := [none, none]) (st' := [.int (xc 1)]) (μ' := μ) rfl ?_
  have ho := Option.some.inj h
  subst ho
  obtain ⟨rfl, rfl⟩ := hK
  exact xr_ret (rv := some (.int (xc 1))) rfl rfl (Or.inr ⟨rfl, Or.inr rfl⟩)
noncomputable def fW_isEmpty_16  (μ : xM) : Option (Int32) := some (xc 0)
theorem fW_isEmpty_16_ok {d : Nat} {μ : xM} {rv : Option Value} {μf : xM} {out : Int32} (h : fW_isEmpty_16 μ = some out) (hK : fW_isEmpty_K μ rv μf out) : xRun (d + 0) 133 16 [none, none] [] μ rv μf := by
  unfold fW_isEmpty_16 at h
  refine xr_go 1 (pc' := 17) (lo' := [none, none]) (st' := [.int (xc 0)]) (μ' := μ) rfl ?_
  have ho := Option.some.inj h
  subst ho
  obtain ⟨rfl, rfl⟩ := hK
  exact xr_ret (rv := some (.int (xc 0))) rfl rfl (Or.inr ⟨rfl, Or.inl rfl⟩)
noncomputable def fW_isEmpty_L2  (v0 : Nat) (v1 : Int32) (μ : xM) : Option ((Int32) ⊕ (Int32)) := if (xc 64) ≤ v1 then ((fW_isEmpty_24 μ).map (fun o => .inr o)) else ((ldAL μ v0 v1).bind fun x1 => if (lg_cmp x1 (Int64.ofNat 0)) = 0 then (some (.inl ((v1 + xc 1)))) else ((fW_isEmpty_16 μ).map (fun o => .inr o)))
theorem fW_isEmpty_L2_ok {d : Nat} {v0 : Nat} {v1 : Int32} {μ : xM} {rv : Option Value} {μf : xM} {out : (Int32) ⊕ (Int32)} (h : fW_isEmpty_L2 v0 v1 μ = some out) (hK : fW_isEmpty_K2 v0 μ d rv μf out) : xRun (d + 0) 133 2 [some (.ref v0), some (.int v1)] [] μ rv μf := by
  unfold fW_isEmpty_L2 at h
  refine xr_go 2 (pc' := 5) (lo' := [some (.ref v0), some (.int v1)]) (st' := [.int (xc 64), .int v1]) (μ' := μ) rfl ?_
  refine xr_icmp (pct := 24) rfl rfl rfl (fun hc => ?_) (fun hc => ?_)
  · replace h := (if_pos (of_decide_eq_true hc)).symm.trans h
    refine xr_forget (lo := [none, none]) trivial ?_
    obtain ⟨o, h2, rfl⟩ := Option.map_eq_some_iff.mp h
    exact fW_isEmpty_24_ok h2 hK
  · replace h := (if_neg (of_decide_eq_false hc)).symm.trans h
    refine xr_go 2 (pc' := 10) (lo' := [some (.ref v0), some (.int v1)]) (st' := [.int v1, .ref v0]) (μ' := μ) rfl ?_
    obtain ⟨x1, hx1, h⟩ := Option.bind_eq_some_iff.mp h
    refine xr_opJ (pc' := 11) (lo' := [some (.ref v0), some (.int v1)]) (st' := []) (o := ldAL μ v0 v1) rfl hx1 ?_
    refine xr_go 2 (pc' := 13) (lo' := [some (.ref v0), some (.int v1)]) (st' := [.int (lg_cmp x1 (Int64.ofNat 0))]) (μ' := μ) rfl ?_
    refine xr_ifc (pct := 18) rfl rfl rfl (fun hc => ?_) (fun hc => ?_)
    · replace h := (if_pos (of_decide_eq_true hc)).symm.trans h
      refine xr_go 2 (pc' := 2) (lo' := [some (.ref v0), some (.int (v1 + xc 1))]) (st' := []) (μ' := μ) rfl ?_
      refine xr_forget (lo := [some (.ref v0), some (.int (v1 + xc 1))]) ⟨rfl, rfl, trivial⟩ ?_
      have ho := Option.some.inj h
      subst ho
      exact hK
    · replace h := (if_neg (of_decide_eq_false hc)).symm.trans h
      refine xr_forget (lo := [none, none]) trivial ?_
      obtain ⟨o, h2, rfl⟩ := Option.map_eq_some_iff.mp h
      exact fW_isEmpty_16_ok h2 hK
theorem fW_isEmpty_L2_lp {d : Nat} {v0 : Nat} {v1 : Int32} {μ : xM} {rv : Option Value} {μf : xM} {out : Int32} (h : xwh (fun s : Int32 => fW_isEmpty_L2 v0 s μ) (v1) = some out) (hK : fW_isEmpty_K μ rv μf out) : xRun (d + 0) 133 2 [some (.ref v0), some (.int v1)] [] μ rv μf :=
  xwh_ind (Rh := fun s : Int32 => xRun (d + 0) 133 2 [some (.ref v0), some (.int s)] [] μ rv μf) (Co := fW_isEmpty_K μ rv μf) (fun s o hb hk => fW_isEmpty_L2_ok hb hk) h hK
noncomputable def fW_isEmpty_0  (v0 : Nat) (μ : xM) : Option (Int32) := xwh (fun s : Int32 => fW_isEmpty_L2 v0 s μ) (xc 0)
theorem fW_isEmpty_0_ok {d : Nat} {v0 : Nat} {μ : xM} {rv : Option Value} {μf : xM} {out : Int32} (h : fW_isEmpty_0 v0 μ = some out) (hK : fW_isEmpty_K μ rv μf out) : xRun (d + 0) 133 0 [some (.ref v0), none] [] μ rv μf := by
  unfold fW_isEmpty_0 at h
  refine xr_go 2 (pc' := 2) (lo' := [some (.ref v0), some (.int (xc 0))]) (st' := []) (μ' := μ) rfl ?_
  refine xr_forget (lo := [some (.ref v0), some (.int (xc 0))]) ⟨rfl, rfl, trivial⟩ ?_
  exact fW_isEmpty_L2_lp h hK
noncomputable def fW_isEmpty (a0 : Nat) (μ : xM) : Option (Int32) := fW_isEmpty_0 a0 μ
theorem fW_isEmpty_ok {d : Nat} {a0 : Nat} {μ : xM} {o : Int32} (h : fW_isEmpty a0 μ = some o) : xRun (d + 0) 133 0 [some (.ref a0), none] [] μ (some (.int o)) μ :=
  xr_forget (lo := [some (.ref a0), none]) (⟨rfl, trivial⟩) (fW_isEmpty_0_ok (d := d) h (show fW_isEmpty_K μ _ _ o from ⟨rfl, rfl⟩))
-- KeptAnswers$Worlds.leaves([J[J)Z 
def fW_leaves_K (μ : xM) (rv : Option Value) (μf : xM) : (Int32) → Prop := fun o => rv = some (.int o) ∧ μf = μ
def fW_leaves_K2 (v0 : Nat) (v1 : Nat) (μ : xM) (d : Nat) (rv : Option Value) (μf : xM) : ((Int32) ⊕ (Int32)) → Prop := Sum.elim (fun s : Int32 => xRun (d + 0) 135 2 [some (.ref v0), some (.ref v1), some (.int s)] [] μ rv μf) (fW_leaves_K μ rv μf)
noncomputable def fW_leaves_32  (μ : xM) : Option (Int32) := some (xc 0)
theorem fW_leaves_32_ok {d : Nat} {μ : xM} {rv : Option Value} {μf : xM} {out : Int32} (h : fW_leaves_32 μ = some out) (hK : fW_leaves_K μ rv μf out) : xRun (d + 0) 135 32 [none, none, none] [] μ rv μf := by
  unfold fW_leaves_32 at h
  refine xr_go 1 (pc' := 33) (lo' := [none, none, none]) (st' := [.int (xc 0)]) (μ' := μ) rfl ?_
  have ho := Option.some.inj h
  subst ho
  obtain ⟨rfl, rfl⟩ := hK
  exact xr_ret (rv := some (.int (xc 0))) rfl rfl (Or.inr ⟨rfl, Or.inl rfl⟩)
noncomputable def fW_leaves_24  (μ : xM) : Option (Int32) := some (xc 1)
theorem fW_leaves_24_ok {d : Nat} {μ : xM} {rv : Option Value} {μf : xM} {out : Int32} (h : fW_leaves_24 μ = some out) (hK : fW_leaves_K μ rv μf out) : xRun (d + 0) 135 24 [none, none, none] [] μ rv μf := by
  unfold fW_leaves_24 at h
  refine xr_go 1 (pc' := 25) (lo' := [none, none, none]) (st' := [.int (xc 1)]) (μ' := μ) rfl ?_
  have ho := Option.some.inj h
  subst ho
  obtain ⟨rfl, rfl⟩ := hK
  exact xr_ret (rv := some (.int (xc 1))) rfl rfl (Or.inr ⟨rfl, Or.inr rfl⟩)
noncomputable def fW_leaves_L2  (v0 : Nat) (v1 : Nat) (v2 : Int32) (μ : xM) : Option ((Int32) ⊕ (Int32)) := if (xc 64) ≤ v2 then ((fW_leaves_32 μ).map (fun o => .inr o)) else ((ldAL μ v0 v2).bind fun x1 => (ldAL μ v1 v2).bind fun x2 => if (lg_cmp (x1 &&& (x2 ^^^ (Int64.ofNat 18446744073709551615))) (Int64.ofNat 0)) = 0 then (some (.inl ((v2 + xc 1)))) else ((fW_leaves_24 μ).map (fun o => .inr o)))
theorem fW_leaves_L2_ok {d : Nat} {v0 : Nat} {v1 : Nat} {v2 : Int32} {μ : xM} {rv : Option Value} {μf : xM} {out : (Int32) ⊕ (Int32)} (h : fW_leaves_L2 v0 v1 v2 μ = some out) (hK : fW_leaves_K2 v0 v1 μ d rv μf out) : xRun (d + 0) 135 2 [some (.ref v0), some (.ref v1), some (.int v2)] [] μ rv μf := by
  unfold fW_leaves_L2 at h
  refine xr_go 2 (pc' := 5) (lo' := [some (.ref v0), some (.ref v1), some (.int v2)]) (st' := [.int (xc 64), .int v2]) (μ' := μ) rfl ?_
  refine xr_icmp (pct := 32) rfl rfl rfl (fun hc => ?_) (fun hc => ?_)
  · replace h := (if_pos (of_decide_eq_true hc)).symm.trans h
    refine xr_forget (lo := [none, none, none]) trivial ?_
    obtain ⟨o, h2, rfl⟩ := Option.map_eq_some_iff.mp h
    exact fW_leaves_32_ok h2 hK
  · replace h := (if_neg (of_decide_eq_false hc)).symm.trans h
    refine xr_go 2 (pc' := 10) (lo' := [some (.ref v0), some (.ref v1), some (.int v2)]) (st' := [.int v2, .ref v0]) (μ' := μ) rfl ?_
    obtain ⟨x1, hx1, h⟩ := Option.bind_eq_some_iff.mp h
    refine xr_opJ (pc' := 11) (lo' := [some (.ref v0), some (.ref v1), some (.int v2)]) (st' := []) (o := ldAL μ v0 v2) rfl hx1 ?_
    refine xr_go 2 (pc' := 13) (lo' := [some (.ref v0), some (.ref v1), some (.int v2)]) (st' := [.int v2, .ref v1, .long x1]) (μ' := μ) rfl ?_
    obtain ⟨x2, hx2, h⟩ := Option.bind_eq_some_iff.mp h
    refine xr_opJ (pc' := 14) (lo' := [some (.ref v0), some (.ref v1), some (.int v2)]) (st' := [.long x1]) (o := ldAL μ v1 v2) rfl hx2 ?_
    refine xr_go 5 (pc' := 21) (lo' := [some (.ref v0), some (.ref v1), some (.int v2)]) (st' := [.int (lg_cmp (x1 &&& (x2 ^^^ (Int64.ofNat 18446744073709551615))) (Int64.ofNat 0))]) (μ' := μ) rfl ?_
    refine xr_ifc (pct := 26) rfl rfl rfl (fun hc => ?_) (fun hc => ?_)
    · replace h := (if_pos (of_decide_eq_true hc)).symm.trans h
      refine xr_go 2 (pc' := 2) (lo' := [some (.ref v0), some (.ref v1), some (.int (v2 + xc 1))]) (st' := []) (μ' := μ) rfl ?_
      refine xr_forget (lo := [some (.ref v0), some (.ref v1), some (.int (v2 + xc 1))]) ⟨rfl, rfl, rfl, trivial⟩ ?_
      have ho := Option.some.inj h
      subst ho
      exact hK
    · replace h := (if_neg (of_decide_eq_false hc)).symm.trans h
      refine xr_forget (lo := [none, none, none]) trivial ?_
      obtain ⟨o, h2, rfl⟩ := Option.map_eq_some_iff.mp h
      exact fW_leaves_24_ok h2 hK
theorem fW_leaves_L2_lp {d : Nat} {v0 : Nat} {v1 : Nat} {v2 : Int32} {μ : xM} {rv : Option Value} {μf : xM} {out : Int32} (h : xwh (fun s : Int32 => fW_leaves_L2 v0 v1 s μ) (v2) = some out) (hK : fW_leaves_K μ rv μf out) : xRun (d + 0) 135 2 [some (.ref v0), some (.ref v1), some (.int v2)] [] μ rv μf :=
  xwh_ind (Rh := fun s : Int32 => xRun (d + 0) 135 2 [some (.ref v0), some (.ref v1), some (.int s)] [] μ rv μf) (Co := fW_leaves_K μ rv μf) (fun s o hb hk => fW_leaves_L2_ok hb hk) h hK
noncomputable def fW_leaves_0  (v0 : Nat) (v1 : Nat) (μ : xM) : Option (Int32) := xwh (fun s : Int32 => fW_leaves_L2 v0 v1 s μ) (xc 0)
theorem fW_leaves_0_ok {d : Nat} {v0 : Nat} {v1 : Nat} {μ : xM} {rv : Option Value} {μf : xM} {out : Int32} (h : fW_leaves_0 v0 v1 μ = some out) (hK : fW_leaves_K μ rv μf out) : xRun (d + 0) 135 0 [some (.ref v0), some (.ref v1), none] [] μ rv μf := by
  unfold fW_leaves_0 at h
  refine xr_go 2 (pc' := 2) (lo' := [some (.ref v0), some (.ref v1), some (.int (xc 0))]) (st' := []) (μ' := μ) rfl ?_
  refine xr_forget (lo := [some (.ref v0), some (.ref v1), some (.int (xc 0))]) ⟨rfl, rfl, rfl, trivial⟩ ?_
  exact fW_leaves_L2_lp h hK
noncomputable def fW_leaves (a0 : Nat) (a1 : Nat) (μ : xM) : Option (Int32) := fW_leaves_0 a0 a1 μ
theorem fW_leaves_ok {d : Nat} {a0 : Nat} {a1 : Nat} {μ : xM} {o : Int32} (h : fW_leaves a0 a1 μ = some o) : xRun (d + 0) 135 0 [some (.ref a0), some (.ref a1), none] [] μ (some (.int o)) μ :=
  xr_forget (lo := [some (.ref a0), some (.ref a1), none]) (⟨rfl, rfl, trivial⟩) (fW_leaves_0_ok (d := d) h (show fW_leaves_K μ _ _ o from ⟨rfl, rfl⟩))
-- KeptAnswers$Worlds.meets([J[J)Z 
def fW_meets_K (μ : xM) (rv : Option Value) (μf : xM) : (Int32) → Prop := fun o => rv = some (.int o) ∧ μf = μ
def fW_meets_K2 (v0 : Nat) (v1 : Nat) (μ : xM) (d : Nat) (rv : Option Value) (μf : xM) : ((Int32) ⊕ (Int32)) → Prop := Sum.elim (fun s : Int32 => xRun (d + 0) 134 2 [some (.ref v0), some (.ref v1), some (.int s)] [] μ rv μf) (fW_meets_K μ rv μf)
noncomputable def fW_meets_28  (μ : xM) : Option (Int32) := some (xc 0)
theorem fW_meets_28_ok {d : Nat} {μ : xM} {rv : Option Value} {μf : xM} {out : Int32} (h : fW_meets_28 μ = some out) (hK : fW_meets_K μ rv μf out) : xRun (d + 0) 134 28 [none, none, none] [] μ rv μf := by
  unfold fW_meets_28 at h
  refine xr_go 1 (pc' := 29) (lo' := [none, none, none]) (st' := [.int (xc 0)]) (μ' := μ) rfl ?_
  have ho := Option.some.inj h
  subst ho
  obtain ⟨rfl, rfl⟩ := hK
  exact xr_ret (rv := some (.int (xc 0))) rfl rfl (Or.inr ⟨rfl, Or.inl rfl⟩)
noncomputable def fW_meets_20  (μ : xM) : Option (Int32) := some (xc 1)
theorem fW_meets_20_ok {d : Nat} {μ : xM} {rv : Option Value} {μf : xM} {out : Int32} (h : fW_meets_20 μ = some out) (hK : fW_meets_K μ rv μf out) : xRun (d + 0) 134 20 [none, none, none] [] μ rv μf := by
  unfold fW_meets_20 at h
  refine xr_go 1 (pc' := 21) (lo' := [none, none, none]) (st' := [.int (xc 1)]) (μ' := μ) rfl ?_
  have ho := Option.some.inj h
  subst ho
  obtain ⟨rfl, rfl⟩ := hK
  exact xr_ret (rv := some (.int (xc 1))) rfl rfl (Or.inr ⟨rfl, Or.inr rfl⟩)
noncomputable def fW_meets_L2  (v0 : Nat) (v1 : Nat) (v2 : Int32) (μ : xM) : Option ((Int32) ⊕ (Int32)) := if (xc 64) ≤ v2 then ((fW_meets_28 μ).map (fun o => .inr o)) else ((ldAL μ v0 v2).bind fun x1 => (ldAL μ v1 v2).bind fun x2 => if (lg_cmp (x1 &&& x2) (Int64.ofNat 0)) = 0 then (some (.inl ((v2 + xc 1)))) else ((fW_meets_20 μ).map (fun o => .inr o)))
theorem fW_meets_L2_ok {d : Nat} {v0 : Nat} {v1 : Nat} {v2 : Int32} {μ : xM} {rv : Option Value} {μf : xM} {out : (Int32) ⊕ (Int32)} (h : fW_meets_L2 v0 v1 v2 μ = some out) (hK : fW_meets_K2 v0 v1 μ d rv μf out) : xRun (d + 0) 134 2 [some (.ref v0), some (.ref v1), some (.int v2)] [] μ rv μf := by
  unfold fW_meets_L2 at h
  refine xr_go 2 (pc' := 5) (lo' := [some (.ref v0), some (.ref v1), some (.int v2)]) (st' := [.int (xc 64), .int v2]) (μ' := μ) rfl ?_
  refine xr_icmp (pct := 28) rfl rfl rfl (fun hc => ?_) (fun hc => ?_)
  · replace h := (if_pos (of_decide_eq_true hc)).symm.trans h
    refine xr_forget (lo := [none, none, none]) trivial ?_
    obtain ⟨o, h2, rfl⟩ := Option.map_eq_some_iff.mp h
    exact fW_meets_28_ok h2 hK
  · replace h := (if_neg (of_decide_eq_false hc)).symm.trans h
    refine xr_go 2 (pc' := 10) (lo' := [some (.ref v0), some (.ref v1), some (.int v2)]) (st' := [.int v2, .ref v0]) (μ' := μ) rfl ?_
    obtain ⟨x1, hx1, h⟩ := Option.bind_eq_some_iff.mp h
    refine xr_opJ (pc' := 11) (lo' := [some (.ref v0), some (.ref v1), some (.int v2)]) (st' := []) (o := ldAL μ v0 v2) rfl hx1 ?_
    refine xr_go 2 (pc' := 13) (lo' := [some (.ref v0), some (.ref v1), some (.int v2)]) (st' := [.int v2, .ref v1, .long x1]) (μ' := μ) rfl ?_
    obtain ⟨x2, hx2, h⟩ := Option.bind_eq_some_iff.mp h
    refine xr_opJ (pc' := 14) (lo' := [some (.ref v0), some (.ref v1), some (.int v2)]) (st' := [.long x1]) (o := ldAL μ v1 v2) rfl hx2 ?_
    refine xr_go 3 (pc' := 17) (lo' := [some (.ref v0), some (.ref v1), some (.int v2)]) (st' := [.int (lg_cmp (x1 &&& x2) (Int64.ofNat 0))]) (μ' := μ) rfl ?_
    refine xr_ifc (pct := 22) rfl rfl rfl (fun hc => ?_) (fun hc => ?_)
    · replace h := (if_pos (of_decide_eq_true hc)).symm.trans h
      refine xr_go 2 (pc' := 2) (lo' := [some (.ref v0), some (.ref v1), some (.int (v2 + xc 1))]) (st' := []) (μ' := μ) rfl ?_
      refine xr_forget (lo := [some (.ref v0), some (.ref v1), some (.int (v2 + xc 1))]) ⟨rfl, rfl, rfl, trivial⟩ ?_
      have ho := Option.some.inj h
      subst ho
      exact hK
    · replace h := (if_neg (of_decide_eq_false hc)).symm.trans h
      refine xr_forget (lo := [none, none, none]) trivial ?_
      obtain ⟨o, h2, rfl⟩ := Option.map_eq_some_iff.mp h
      exact fW_meets_20_ok h2 hK
theorem fW_meets_L2_lp {d : Nat} {v0 : Nat} {v1 : Nat} {v2 : Int32} {μ : xM} {rv : Option Value} {μf : xM} {out : Int32} (h : xwh (fun s : Int32 => fW_meets_L2 v0 v1 s μ) (v2) = some out) (hK : fW_meets_K μ rv μf out) : xRun (d + 0) 134 2 [some (.ref v0), some (.ref v1), some (.int v2)] [] μ rv μf :=
  xwh_ind (Rh := fun s : Int32 => xRun (d + 0) 134 2 [some (.ref v0), some (.ref v1), some (.int s)] [] μ rv μf) (Co := fW_meets_K μ rv μf) (fun s o hb hk => fW_meets_L2_ok hb hk) h hK
noncomputable def fW_meets_0  (v0 : Nat) (v1 : Nat) (μ : xM) : Option (Int32) := xwh (fun s : Int32 => fW_meets_L2 v0 v1 s μ) (xc 0)
theorem fW_meets_0_ok {d : Nat} {v0 : Nat} {v1 : Nat} {μ : xM} {rv : Option Value} {μf : xM} {out : Int32} (h : fW_meets_0 v0 v1 μ = some out) (hK : fW_meets_K μ rv μf out) : xRun (d + 0) 134 0 [some (.ref v0), some (.ref v1), none] [] μ rv μf := by
  unfold fW_meets_0 at h
  refine xr_go 2 (pc' := 2) (lo' := [some (.ref v0), some (.ref v1), some (.int (xc 0))]) (st' := []) (μ' := μ) rfl ?_
  refine xr_forget (lo := [some (.ref v0), some (.ref v1), some (.int (xc 0))]) ⟨rfl, rfl, rfl, trivial⟩ ?_
  exact fW_meets_L2_lp h hK
noncomputable def fW_meets (a0 : Nat) (a1 : Nat) (μ : xM) : Option (Int32) := fW_meets_0 a0 a1 μ
theorem fW_meets_ok {d : Nat} {a0 : Nat} {a1 : Nat} {μ : xM} {o : Int32} (h : fW_meets a0 a1 μ = some o) : xRun (d + 0) 134 0 [some (.ref a0), some (.ref a1), none] [] μ (some (.int o)) μ :=
  xr_forget (lo := [some (.ref a0), some (.ref a1), none]) (⟨rfl, rfl, trivial⟩) (fW_meets_0_ok (d := d) h (show fW_meets_K μ _ _ o from ⟨rfl, rfl⟩))
-- KeptAnswers$Worlds.answerOf(LKeptAnswers$Holding;LKeptAnswers$Picture;Z)I 
def fW_answerOf_K (rv : Option Value) (μf : xM) : (Int32 × xM) → Prop := fun o => rv = some (.int o.1) ∧ μf = o.2
def fW_answerOf_K29 (v0 : Nat) (v3 : Int32) (μ : xM) (d : Nat) (rv : Option Value) (μf : xM) : ((Int32 × Int32) ⊕ (Int32 × xM)) → Prop := Sum.elim (fun s : Int32 × Int32 => xRun (d + 5) 124 29 [some (.ref v0), none, none, some (.int v3), some (.int s.1), some (.int s.2)] [] μ rv μf) (fW_answerOf_K rv μf)
noncomputable def fW_answerOf_92  (v4 : Int32) (μ : xM) : Option (Int32 × xM) := some ((v4, μ))
theorem fW_answerOf_92_ok {d : Nat} {v4 : Int32} {μ : xM} {rv : Option Value} {μf : xM} {out : Int32 × xM} (h : fW_answerOf_92 v4 μ = some out) (hK : fW_answerOf_K rv μf out) : xRun (d + 5) 124 92 [none, none, none, none, some (.int v4), none] [] μ rv μf := by
  unfold fW_answerOf_92 at h
  refine xr_go 1 (pc' := 94) (lo' := [none, none, none, none, some (.int v4), none]) (st' := [.int v4]) (μ' := μ) rfl ?_
  have ho := Option.some.inj h
  subst ho
  obtain ⟨rfl, rfl⟩ := hK
  exact xr_ret (rv := some (.int v4)) rfl rfl (Or.inl rfl)
noncomputable def fW_answerOf_86  (v0 : Nat) (v3 : Int32) (v4 : Int32) (v5 : Int32) (μ : xM) : Option ((Int32 × Int32) ⊕ (Int32 × xM)) := some (.inl ((v4, v5 + xc 1)))
theorem fW_answerOf_86_ok {d : Nat} {v0 : Nat} {v3 : Int32} {v4 : Int32} {v5 : Int32} {μ : xM} {rv : Option Value} {μf : xM} {out : (Int32 × Int32) ⊕ (Int32 × xM)} (h : fW_answerOf_86 v0 v3 v4 v5 μ = some out) (hK : fW_answerOf_K29 v0 v3 μ d rv μf out) : xRun (d + 5) 124 86 [some (.ref v0), none, none, some (.int v3), some (.int v4), some (.int v5)] [] μ rv μf := by
  unfold fW_answerOf_86 at h
  refine xr_go 2 (pc' := 29) (lo' := [some (.ref v0), none, none, some (.int v3), some (.int v4), some (.int (v5 + xc 1))]) (st' := []) (μ' := μ) rfl ?_
  refine xr_forget (lo := [some (.ref v0), none, none, some (.int v3), some (.int v4), some (.int (v5 + xc 1))]) ⟨rfl, rfl, rfl, rfl, trivial⟩ ?_
  have ho := Option.some.inj h
  subst ho
  exact hK
noncomputable def fW_answerOf_77  (v0 : Nat) (v3 : Int32) (v4 : Int32) (v5 : Int32) (μ : xM) : Option ((Int32 × Int32) ⊕ (Int32 × xM)) := fW_answerOf_86 v0 v3 (v4 ||| ((xc 1) <<< (v5 &&& 31))) v5 μ
theorem fW_answerOf_77_ok {d : Nat} {v0 : Nat} {v3 : Int32} {v4 : Int32} {v5 : Int32} {μ : xM} {rv : Option Value} {μf : xM} {out : (Int32 × Int32) ⊕ (Int32 × xM)} (h : fW_answerOf_77 v0 v3 v4 v5 μ = some out) (hK : fW_answerOf_K29 v0 v3 μ d rv μf out) : xRun (d + 5) 124 77 [some (.ref v0), none, none, some (.int v3), some (.int v4), some (.int v5)] [] μ rv μf := by
  unfold fW_answerOf_77 at h
  refine xr_go 6 (pc' := 86) (lo' := [some (.ref v0), none, none, some (.int v3), some (.int (v4 ||| ((xc 1) <<< (v5 &&& 31)))), some (.int v5)]) (st' := []) (μ' := μ) rfl ?_
  refine xr_forget (lo := [some (.ref v0), none, none, some (.int v3), some (.int (v4 ||| ((xc 1) <<< (v5 &&& 31)))), some (.int v5)]) ⟨rfl, rfl, rfl, rfl, trivial⟩ ?_
  exact fW_answerOf_86_ok h hK
noncomputable def fW_answerOf_L29  (v0 : Nat) (v3 : Int32) (v4 : Int32) (v5 : Int32) (μ : xM) : Option ((Int32 × Int32) ⊕ (Int32 × xM)) := if (xc 8) ≤ v5 then ((fW_answerOf_92 v4 μ).map (fun o => .inr o)) else (if v3 = 0 then ((ldFR μ v0 8 0).bind fun x1 => (ldFR μ v0 8 2).bind fun x2 => (ldAR μ x2 v5).bind fun x3 => (fW_meets x1 x3 μ).bind fun r4 => if r4 = 0 then (fW_answerOf_86 v0 v3 v4 v5 μ) else (fW_answerOf_77 v0 v3 v4 v5 μ)) else ((ldFR μ v0 8 0).bind fun x5 => (ldFR μ v0 8 2).bind fun x6 => (ldAR μ x6 v5).bind fun x7 => (fW_leaves x5 x7 μ).bind fun r8 => if r8 = 0 then (fW_answerOf_77 v0 v3 v4 v5 μ) else (fW_answerOf_86 v0 v3 v4 v5 μ)))
theorem fW_answerOf_L29_ok {d : Nat} {v0 : Nat} {v3 : Int32} {v4 : Int32} {v5 : Int32} {μ : xM} {rv : Option Value} {μf : xM} {out : (Int32 × Int32) ⊕ (Int32 × xM)} (h : fW_answerOf_L29 v0 v3 v4 v5 μ = some out) (hK : fW_answerOf_K29 v0 v3 μ d rv μf out) : xRun (d + 5) 124 29 [some (.ref v0), none, none, some (.int v3), some (.int v4), some (.int v5)] [] μ rv μf := by
  unfold fW_answerOf_L29 at h
  refine xr_go 2 (pc' := 33) (lo' := [some (.ref v0), none, none, some (.int v3), some (.int v4), some (.int v5)]) (st' := [.int (xc 8), .int v5]) (μ' := μ) rfl ?_
  refine xr_icmp (pct := 92) rfl rfl rfl (fun hc => ?_) (fun hc => ?_)
  · replace h := (if_pos (of_decide_eq_true hc)).symm.trans h
    refine xr_forget (lo := [none, none, none, none, some (.int v4), none]) ⟨rfl, trivial⟩ ?_
    obtain ⟨o, h2, rfl⟩ := Option.map_eq_some_iff.mp h
    exact fW_answerOf_92_ok h2 hK
  · replace h := (if_neg (of_decide_eq_false hc)).symm.trans h
    refine xr_go 1 (pc' := 37) (lo' := [some (.ref v0), none, none, some (.int v3), some (.int v4), some (.int v5)]) (st' := [.int v3]) (μ' := μ) rfl ?_
    refine xr_ifc (pct := 60) rfl rfl rfl (fun hc => ?_) (fun hc => ?_)
    · replace h := (if_pos (of_decide_eq_true hc)).symm.trans h
      refine xr_go 1 (pc' := 61) (lo' := [some (.ref v0), none, none, some (.int v3), some (.int v4), some (.int v5)]) (st' := [.ref v0]) (μ' := μ) rfl ?_
      obtain ⟨x1, hx1, h⟩ := Option.bind_eq_some_iff.mp h
      refine xr_opA (pc' := 64) (lo' := [some (.ref v0), none, none, some (.int v3), some (.int v4), some (.int v5)]) (st' := []) (o := ldFR μ v0 8 0) rfl hx1 ?_
      refine xr_go 1 (pc' := 65) (lo' := [some (.ref v0), none, none, some (.int v3), some (.int v4), some (.int v5)]) (st' := [.ref v0, .ref x1]) (μ' := μ) rfl ?_
      obtain ⟨x2, hx2, h⟩ := Option.bind_eq_some_iff.mp h
      refine xr_opA (pc' := 68) (lo' := [some (.ref v0), none, none, some (.int v3), some (.int v4), some (.int v5)]) (st' := [.ref x1]) (o := ldFR μ v0 8 2) rfl hx2 ?_
      refine xr_go 1 (pc' := 70) (lo' := [some (.ref v0), none, none, some (.int v3), some (.int v4), some (.int v5)]) (st' := [.int v5, .ref x2, .ref x1]) (μ' := μ) rfl ?_
      obtain ⟨x3, hx3, h⟩ := Option.bind_eq_some_iff.mp h
      refine xr_opA (pc' := 71) (lo' := [some (.ref v0), none, none, some (.int v3), some (.int v4), some (.int v5)]) (st' := [.ref x1]) (o := ldAR μ x2 v5) rfl hx3 ?_
      obtain ⟨r4, hr4, h⟩ := Option.bind_eq_some_iff.mp h
      refine xr_callS (j := 134) (d' := (d + 4)) (rv1 := some (.int r4)) (μ1 := μ) (rest := []) (As := [.ref x1, .ref x3]) rfl rfl rfl rfl (Nat.le_of_ble_eq_true rfl) rfl (by exact (fW_meets_ok (d := d + (4)) hr4)) ?_
      refine xr_ifc (pct := 86) rfl rfl rfl (fun hc => ?_) (fun hc => ?_)
      · replace h := (if_pos (of_decide_eq_true hc)).symm.trans h
        refine xr_forget (lo := [some (.ref v0), none, none, some (.int v3), some (.int v4), some (.int v5)]) ⟨rfl, rfl, rfl, rfl, trivial⟩ ?_
        exact fW_answerOf_86_ok h hK
      · replace h := (if_neg (of_decide_eq_false hc)).symm.trans h
        refine xr_forget (lo := [some (.ref v0), none, none, some (.int v3), some (.int v4), some (.int v5)]) ⟨rfl, rfl, rfl, rfl, trivial⟩ ?_
        exact fW_answerOf_77_ok h hK
    · replace h := (if_neg (of_decide_eq_false hc)).symm.trans h
      refine xr_go 1 (pc' := 41) (lo' := [some (.ref v0), none, none, some (.int v3), some (.int v4), some (.int v5)]) (st' := [.ref v0]) (μ' := μ) rfl ?_
      obtain ⟨x5, hx5, h⟩ := Option.bind_eq_some_iff.mp h
      refine xr_opA (pc' := 44) (lo' := [some (.ref v0), none, none, some (.int v3), some (.int v4), some (.int v5)]) (st' := []) (o := ldFR μ v0 8 0) rfl hx5 ?_
      refine xr_go 1 (pc' := 45) (lo' := [some (.ref v0), none, none, some (.int v3), some (.int v4), some (.int v5)]) (st' := [.ref v0, .ref x5]) (μ' := μ) rfl ?_
      obtain ⟨x6, hx6, h⟩ := Option.bind_eq_some_iff.mp h
      refine xr_opA (pc' := 48) (lo' := [some (.ref v0), none, none, some (.int v3), some (.int v4), some (.int v5)]) (st' := [.ref x5]) (o := ldFR μ v0 8 2) rfl hx6 ?_
      refine xr_go 1 (pc' := 50) (lo' := [some (.ref v0), none, none, some (.int v3), some (.int v4), some (.int v5)]) (st' := [.int v5, .ref x6, .ref x5]) (μ' := μ) rfl ?_
      obtain ⟨x7, hx7, h⟩ := Option.bind_eq_some_iff.mp h
      refine xr_opA (pc' := 51) (lo' := [some (.ref v0), none, none, some (.int v3), some (.int v4), some (.int v5)]) (st' := [.ref x5]) (o := ldAR μ x6 v5) rfl hx7 ?_
      obtain ⟨r8, hr8, h⟩ := Option.bind_eq_some_iff.mp h
      refine xr_callS (j := 135) (d' := (d + 4)) (rv1 := some (.int r8)) (μ1 := μ) (rest := []) (As := [.ref x5, .ref x7]) rfl rfl rfl rfl (Nat.le_of_ble_eq_true rfl) rfl (by exact (fW_leaves_ok (d := d + (4)) hr8)) ?_
      refine xr_ifc (pct := 86) rfl rfl rfl (fun hc => ?_) (fun hc => ?_)
      · replace h := (if_neg (of_decide_eq_true hc)).symm.trans h
        refine xr_forget (lo := [some (.ref v0), none, none, some (.int v3), some (.int v4), some (.int v5)]) ⟨rfl, rfl, rfl, rfl, trivial⟩ ?_
        exact fW_answerOf_86_ok h hK
      · replace h := (if_pos (Decidable.of_not_not (of_decide_eq_false hc))).symm.trans h
        refine xr_go 1 (pc' := 77) (lo' := [some (.ref v0), none, none, some (.int v3), some (.int v4), some (.int v5)]) (st' := []) (μ' := μ) rfl ?_
        refine xr_forget (lo := [some (.ref v0), none, none, some (.int v3), some (.int v4), some (.int v5)]) ⟨rfl, rfl, rfl, rfl, trivial⟩ ?_
        exact fW_answerOf_77_ok h hK
theorem fW_answerOf_L29_lp {d : Nat} {v0 : Nat} {v3 : Int32} {v4 : Int32} {v5 : Int32} {μ : xM} {rv : Option Value} {μf : xM} {out : Int32 × xM} (h : xwh (fun s : Int32 × Int32 => fW_answerOf_L29 v0 v3 s.1 s.2 μ) (v4, v5) = some out) (hK : fW_answerOf_K rv μf out) : xRun (d + 5) 124 29 [some (.ref v0), none, none, some (.int v3), some (.int v4), some (.int v5)] [] μ rv μf :=
  xwh_ind (Rh := fun s : Int32 × Int32 => xRun (d + 5) 124 29 [some (.ref v0), none, none, some (.int v3), some (.int s.1), some (.int s.2)] [] μ rv μf) (Co := fW_answerOf_K rv μf) (fun s o hb hk => fW_answerOf_L29_ok hb hk) h hK
noncomputable def fW_answerOf_0  (v0 : Nat) (v1 : Nat) (v2 : Nat) (v3 : Int32) (μ : xM) : Option (Int32 × xM) := (fW_findOpen v0 v1 μ).bind fun r9 => (ldFR r9 v0 8 0).bind fun x10 => (fW_isEmpty x10 r9).bind fun r11 => if r11 = 0 then ((fW_spread v0 v2 r9).bind fun r12 => xwh (fun s : Int32 × Int32 => fW_answerOf_L29 v0 v3 s.1 s.2 r12) (xc 0, xc 0)) else (some ((xc (-9), r9)))
theorem fW_answerOf_0_ok {d : Nat} {v0 : Nat} {v1 : Nat} {v2 : Nat} {v3 : Int32} {μ : xM} {rv : Option Value} {μf : xM} {out : Int32 × xM} (h : fW_answerOf_0 v0 v1 v2 v3 μ = some out) (hK : fW_answerOf_K rv μf out) : xRun (d + 5) 124 0 [some (.ref v0), some (.ref v1), some (.ref v2), some (.int v3), none, none] [] μ rv μf := by
  unfold fW_answerOf_0 at h
  refine xr_go 2 (pc' := 2) (lo' := [some (.ref v0), some (.ref v1), some (.ref v2), some (.int v3), none, none]) (st' := [.ref v1, .ref v0]) (μ' := μ) rfl ?_
  obtain ⟨r9, hr9, h⟩ := Option.bind_eq_some_iff.mp h
  refine xr_callV (j := 127) (d' := (d + 4)) (rv1 := none) (μ1 := r9) (rest := []) (As := [.ref v1]) rfl rfl rfl rfl (Nat.le_of_ble_eq_true rfl) (fW_findOpen_kd hr9) rfl (by exact (fW_findOpen_ok (d := d + (0)) hr9)) ?_
  refine xr_go 1 (pc' := 6) (lo' := [some (.ref v0), some (.ref v1), some (.ref v2), some (.int v3), none, none]) (st' := [.ref v0]) (μ' := r9) rfl ?_
  obtain ⟨x10, hx10, h⟩ := Option.bind_eq_some_iff.mp h
  refine xr_opA (pc' := 9) (lo' := [some (.ref v0), some (.ref v1), some (.ref v2), some (.int v3), none, none]) (st' := []) (o := ldFR r9 v0 8 0) rfl hx10 ?_
  obtain ⟨r11, hr11, h⟩ := Option.bind_eq_some_iff.mp h
  refine xr_callS (j := 133) (d' := (d + 4)) (rv1 := some (.int r11)) (μ1 := r9) (rest := []) (As := [.ref x10]) rfl rfl rfl rfl (Nat.le_of_ble_eq_true rfl) rfl (by exact (fW_isEmpty_ok (d := d + (4)) hr11)) ?_
  refine xr_ifc (pct := 18) rfl rfl rfl (fun hc => ?_) (fun hc => ?_)
  · replace h := (if_pos (of_decide_eq_true hc)).symm.trans h
    refine xr_go 2 (pc' := 20) (lo' := [some (.ref v0), some (.ref v1), some (.ref v2), some (.int v3), none, none]) (st' := [.ref v2, .ref v0]) (μ' := r9) rfl ?_
    obtain ⟨r12, hr12, h⟩ := Option.bind_eq_some_iff.mp h
    refine xr_callV (j := 130) (d' := (d + 4)) (rv1 := none) (μ1 := r12) (rest := []) (As := [.ref v2]) rfl rfl rfl rfl (Nat.le_of_ble_eq_true rfl) (fW_spread_kd hr12) rfl (by exact (fW_spread_ok (d := d + (2)) hr12)) ?_
    refine xr_go 4 (pc' := 29) (lo' := [some (.ref v0), some (.ref v1), some (.ref v2), some (.int v3), some (.int (xc 0)), some (.int (xc 0))]) (st' := []) (μ' := r12) rfl ?_
    refine xr_forget (lo := [some (.ref v0), none, none, some (.int v3), some (.int (xc 0)), some (.int (xc 0))]) ⟨rfl, rfl, rfl, rfl, trivial⟩ ?_
    exact fW_answerOf_L29_lp h hK
  · replace h := (if_neg (of_decide_eq_false hc)).symm.trans h
    refine xr_go 1 (pc' := 17) (lo' := [some (.ref v0), some (.ref v1), some (.ref v2), some (.int v3), none, none]) (st' := [.int (xc (-9))]) (μ' := r9) rfl ?_
    have ho := Option.some.inj h
    subst ho
    obtain ⟨rfl, rfl⟩ := hK
    exact xr_ret (rv := some (.int (xc (-9)))) rfl rfl (Or.inl rfl)
noncomputable def fW_answerOf (a0 : Nat) (a1 : Nat) (a2 : Nat) (a3 : Int32) (μ : xM) : Option (Int32 × xM) := xgd μ a0 8 (fW_answerOf_0 a0 a1 a2 a3 μ)
theorem fW_answerOf_kd {a0 : Nat} {a1 : Nat} {a2 : Nat} {a3 : Int32} {μ : xM} {o : Int32 × xM} (h : fW_answerOf a0 a1 a2 a3 μ = some o) : (xK μ a0).1 = 10 + 8 := (xgd_some h).1
theorem fW_answerOf_ok {d : Nat} {a0 : Nat} {a1 : Nat} {a2 : Nat} {a3 : Int32} {μ : xM} {o : Int32 × xM} (h : fW_answerOf a0 a1 a2 a3 μ = some o) : xRun (d + 5) 124 0 [some (.ref a0), some (.ref a1), some (.ref a2), some (.int a3), none, none] [] μ (some (.int o.1)) o.2 :=
  xr_forget (lo := [some (.ref a0), some (.ref a1), some (.ref a2), some (.int a3), none, none]) (⟨rfl, rfl, rfl, rfl, trivial⟩) (fW_answerOf_0_ok (d := d) (xgd_some h).2 (show fW_answerOf_K _ _ o from ⟨rfl, rfl⟩))
-- KeptAnswers.sure(II)I 
def fX_sure_K (rv : Option Value) (μf : xM) : (Int32 × xM) → Prop := fun o => rv = some (.int o.1) ∧ μf = o.2
noncomputable def fX_sure_56  (s0 : Int32) (s1 : Nat) (s2 : Nat) (s3 : Nat) (μ : xM) : Option (Int32 × xM) := (fW_answerOf s3 s2 s1 s0 μ).bind fun r1 => some ((r1.1, r1.2))
theorem fX_sure_56_ok {d : Nat} {s0 : Int32} {s1 : Nat} {s2 : Nat} {s3 : Nat} {μ : xM} {rv : Option Value} {μf : xM} {out : Int32 × xM} (h : fX_sure_56 s0 s1 s2 s3 μ = some out) (hK : fX_sure_K rv μf out) : xRun (d + 6) 23 56 [none, none, none] [.int s0, .ref s1, .ref s2, .ref s3] μ rv μf := by
  unfold fX_sure_56 at h
  obtain ⟨r1, hr1, h⟩ := Option.bind_eq_some_iff.mp h
  refine xr_callV (j := 124) (d' := (d + 5)) (rv1 := some (.int r1.1)) (μ1 := r1.2) (rest := []) (As := [.ref s2, .ref s1, .int s0]) rfl rfl rfl rfl (Nat.le_of_ble_eq_true rfl) (fW_answerOf_kd hr1) rfl (by exact (fW_answerOf_ok (d := d + (0)) hr1)) ?_
  have ho := Option.some.inj h
  subst ho
  obtain ⟨rfl, rfl⟩ := hK
  exact xr_ret (rv := some (.int r1.1)) rfl rfl (Or.inl rfl)
noncomputable def fX_sure_23  (v0 : Nat) (μ : xM) : Option (Int32 × xM) := (fX_refuse v0 (xc (-2)) μ).bind fun r2 => some ((r2.1, r2.2))
theorem fX_sure_23_ok {d : Nat} {v0 : Nat} {μ : xM} {rv : Option Value} {μf : xM} {out : Int32 × xM} (h : fX_sure_23 v0 μ = some out) (hK : fX_sure_K rv μf out) : xRun (d + 6) 23 23 [some (.ref v0), none, none] [] μ rv μf := by
  unfold fX_sure_23 at h
  refine xr_go 2 (pc' := 26) (lo' := [some (.ref v0), none, none]) (st' := [.int (xc (-2)), .ref v0]) (μ' := μ) rfl ?_
  obtain ⟨r2, hr2, h⟩ := Option.bind_eq_some_iff.mp h
  refine xr_callV (j := 37) (d' := (d + 5)) (rv1 := some (.int r2.1)) (μ1 := r2.2) (rest := []) (As := [.int (xc (-2))]) rfl rfl rfl rfl (Nat.le_of_ble_eq_true rfl) (fX_refuse_kd hr2) rfl (by exact (fX_refuse_ok (d := d + (5)) hr2)) ?_
  have ho := Option.some.inj h
  subst ho
  obtain ⟨rfl, rfl⟩ := hK
  exact xr_ret (rv := some (.int r2.1)) rfl rfl (Or.inl rfl)
noncomputable def fX_sure_0  (v0 : Nat) (v1 : Int32) (v2 : Int32) (μ : xM) : Option (Int32 × xM) := (fX_isAsk v0 v1 μ).bind fun r3 => if r3 = 0 then ((fX_refuse v0 (xc (-1)) μ).bind fun r9 => some ((r9.1, r9.2))) else (if v2 < 0 then (fX_sure_23 v0 μ) else (if v2 ≤ (xc 1) then ((ldFR μ v0 0 8).bind fun x4 => (ldFR μ v0 0 0).bind fun x5 => (ldFR μ v0 0 0).bind fun x6 => (ldFR μ x6 3 8).bind fun x7 => (ldAR μ x7 v1).bind fun x8 => if v2 = 0 then (fX_sure_56 (xc 1) x8 x5 x4 μ) else (fX_sure_56 (xc 0) x8 x5 x4 μ)) else (fX_sure_23 v0 μ)))
theorem fX_sure_0_ok {d : Nat} {v0 : Nat} {v1 : Int32} {v2 : Int32} {μ : xM} {rv : Option Value} {μf : xM} {out : Int32 × xM} (h : fX_sure_0 v0 v1 v2 μ = some out) (hK : fX_sure_K rv μf out) : xRun (d + 6) 23 0 [some (.ref v0), some (.int v1), some (.int v2)] [] μ rv μf := by
  unfold fX_sure_0 at h
  refine xr_go 2 (pc' := 2) (lo' := [some (.ref v0), some (.int v1), some (.int v2)]) (st' := [.int v1, .ref v0]) (μ' := μ) rfl ?_
  obtain ⟨r3, hr3, h⟩ := Option.bind_eq_some_iff.mp h
  refine xr_callV (j := 39) (d' := (d + 5)) (rv1 := some (.int r3)) (μ1 := μ) (rest := []) (As := [.int v1]) rfl rfl rfl rfl (Nat.le_of_ble_eq_true rfl) (fX_isAsk_kd hr3) rfl (by exact (fX_isAsk_ok (d := d + (5)) hr3)) ?_
  refine xr_ifc (pct := 14) rfl rfl rfl (fun hc => ?_) (fun hc => ?_)
  · replace h := (if_neg (of_decide_eq_true hc)).symm.trans h
    refine xr_go 1 (pc' := 15) (lo' := [some (.ref v0), some (.int v1), some (.int v2)]) (st' := [.int v2]) (μ' := μ) rfl ?_
    refine xr_ifc (pct := 23) rfl rfl rfl (fun hc => ?_) (fun hc => ?_)
    · replace h := (if_pos (of_decide_eq_true hc)).symm.trans h
      refine xr_forget (lo := [some (.ref v0), none, none]) ⟨rfl, trivial⟩ ?_
      exact fX_sure_23_ok h hK
    · replace h := (if_neg (of_decide_eq_false hc)).symm.trans h
      refine xr_go 2 (pc' := 20) (lo' := [some (.ref v0), some (.int v1), some (.int v2)]) (st' := [.int (xc 1), .int v2]) (μ' := μ) rfl ?_
      refine xr_icmp (pct := 30) rfl rfl rfl (fun hc => ?_) (fun hc => ?_)
      · replace h := (if_pos (of_decide_eq_true hc)).symm.trans h
        refine xr_go 1 (pc' := 31) (lo' := [some (.ref v0), some (.int v1), some (.int v2)]) (st' := [.ref v0]) (μ' := μ) rfl ?_
        obtain ⟨x4, hx4, h⟩ := Option.bind_eq_some_iff.mp h
        refine xr_opA (pc' := 34) (lo' := [some (.ref v0), some (.int v1), some (.int v2)]) (st' := []) (o := ldFR μ v0 0 8) rfl hx4 ?_
        refine xr_go 1 (pc' := 35) (lo' := [some (.ref v0), some (.int v1), some (.int v2)]) (st' := [.ref v0, .ref x4]) (μ' := μ) rfl ?_
        obtain ⟨x5, hx5, h⟩ := Option.bind_eq_some_iff.mp h
        refine xr_opA (pc' := 38) (lo' := [some (.ref v0), some (.int v1), some (.int v2)]) (st' := [.ref x4]) (o := ldFR μ v0 0 0) rfl hx5 ?_
        refine xr_go 1 (pc' := 39) (lo' := [some (.ref v0), some (.int v1), some (.int v2)]) (st' := [.ref v0, .ref x5, .ref x4]) (μ' := μ) rfl ?_
        obtain ⟨x6, hx6, h⟩ := Option.bind_eq_some_iff.mp h
        refine xr_opA (pc' := 42) (lo' := [some (.ref v0), some (.int v1), some (.int v2)]) (st' := [.ref x5, .ref x4]) (o := ldFR μ v0 0 0) rfl hx6 ?_
        obtain ⟨x7, hx7, h⟩ := Option.bind_eq_some_iff.mp h
        refine xr_opA (pc' := 45) (lo' := [some (.ref v0), some (.int v1), some (.int v2)]) (st' := [.ref x5, .ref x4]) (o := ldFR μ x6 3 8) rfl hx7 ?_
        refine xr_go 1 (pc' := 46) (lo' := [some (.ref v0), some (.int v1), some (.int v2)]) (st' := [.int v1, .ref x7, .ref x5, .ref x4]) (μ' := μ) rfl ?_
        obtain ⟨x8, hx8, h⟩ := Option.bind_eq_some_iff.mp h
        refine xr_opA (pc' := 47) (lo' := [some (.ref v0), some (.int v1), some (.int v2)]) (st' := [.ref x5, .ref x4]) (o := ldAR μ x7 v1) rfl hx8 ?_
        refine xr_go 1 (pc' := 48) (lo' := [some (.ref v0), some (.int v1), some (.int v2)]) (st' := [.int v2, .ref x8, .ref x5, .ref x4]) (μ' := μ) rfl ?_
        refine xr_ifc (pct := 55) rfl rfl rfl (fun hc => ?_) (fun hc => ?_)
        · replace h := (if_neg (of_decide_eq_true hc)).symm.trans h
          refine xr_go 1 (pc' := 56) (lo' := [some (.ref v0), some (.int v1), some (.int v2)]) (st' := [.int (xc 0), .ref x8, .ref x5, .ref x4]) (μ' := μ) rfl ?_
          refine xr_forget (lo := [none, none, none]) trivial ?_
          exact fX_sure_56_ok h hK
        · replace h := (if_pos (Decidable.of_not_not (of_decide_eq_false hc))).symm.trans h
          refine xr_go 2 (pc' := 56) (lo' := [some (.ref v0), some (.int v1), some (.int v2)]) (st' := [.int (xc 1), .ref x8, .ref x5, .ref x4]) (μ' := μ) rfl ?_
          refine xr_forget (lo := [none, none, none]) trivial ?_
          exact fX_sure_56_ok h hK
      · replace h := (if_neg (of_decide_eq_false hc)).symm.trans h
        refine xr_forget (lo := [some (.ref v0), none, none]) ⟨rfl, trivial⟩ ?_
        exact fX_sure_23_ok h hK
  · replace h := (if_pos (Decidable.of_not_not (of_decide_eq_false hc))).symm.trans h
    refine xr_go 2 (pc' := 10) (lo' := [some (.ref v0), some (.int v1), some (.int v2)]) (st' := [.int (xc (-1)), .ref v0]) (μ' := μ) rfl ?_
    obtain ⟨r9, hr9, h⟩ := Option.bind_eq_some_iff.mp h
    refine xr_callV (j := 37) (d' := (d + 5)) (rv1 := some (.int r9.1)) (μ1 := r9.2) (rest := []) (As := [.int (xc (-1))]) rfl rfl rfl rfl (Nat.le_of_ble_eq_true rfl) (fX_refuse_kd hr9) rfl (by exact (fX_refuse_ok (d := d + (5)) hr9)) ?_
    have ho := Option.some.inj h
    subst ho
    obtain ⟨rfl, rfl⟩ := hK
    exact xr_ret (rv := some (.int r9.1)) rfl rfl (Or.inl rfl)
noncomputable def fX_sure (a0 : Nat) (a1 : Int32) (a2 : Int32) (μ : xM) : Option (Int32 × xM) := xgd μ a0 0 (fX_sure_0 a0 a1 a2 μ)
theorem fX_sure_kd {a0 : Nat} {a1 : Int32} {a2 : Int32} {μ : xM} {o : Int32 × xM} (h : fX_sure a0 a1 a2 μ = some o) : (xK μ a0).1 = 10 + 0 := (xgd_some h).1
theorem fX_sure_ok {d : Nat} {a0 : Nat} {a1 : Int32} {a2 : Int32} {μ : xM} {o : Int32 × xM} (h : fX_sure a0 a1 a2 μ = some o) : xRun (d + 6) 23 0 [some (.ref a0), some (.int a1), some (.int a2)] [] μ (some (.int o.1)) o.2 :=
  xr_forget (lo := [some (.ref a0), some (.int a1), some (.int a2)]) (⟨rfl, rfl, rfl, trivial⟩) (fX_sure_0_ok (d := d) (xgd_some h).2 (show fX_sure_K _ _ o from ⟨rfl, rfl⟩))
-- KeptAnswersModel.findSure(I)V 
def fM_findSure_K (rv : Option Value) (μf : xM) : (xM) → Prop := fun o => rv = none ∧ μf = o
def fM_findSure_K19 (v0 : Nat) (v1 : Int32) (d : Nat) (rv : Option Value) (μf : xM) : ((Int32 × xM) ⊕ (xM)) → Prop := Sum.elim (fun s : Int32 × xM => xRun (d + 3) 199 19 [some (.ref v0), some (.int v1), some (.int s.1), none] [] s.2 rv μf) (fM_findSure_K rv μf)
noncomputable def fM_findSure_71  (v0 : Nat) (v1 : Int32) (v2 : Int32) (μ : xM) : Option ((Int32 × xM) ⊕ (xM)) := some (.inl ((v2 + xc 1, μ)))
theorem fM_findSure_71_ok {d : Nat} {v0 : Nat} {v1 : Int32} {v2 : Int32} {μ : xM} {rv : Option Value} {μf : xM} {out : (Int32 × xM) ⊕ (xM)} (h : fM_findSure_71 v0 v1 v2 μ = some out) (hK : fM_findSure_K19 v0 v1 d rv μf out) : xRun (d + 3) 199 71 [some (.ref v0), some (.int v1), some (.int v2), none] [] μ rv μf := by
  unfold fM_findSure_71 at h
  refine xr_go 2 (pc' := 19) (lo' := [some (.ref v0), some (.int v1), some (.int (v2 + xc 1)), none]) (st' := []) (μ' := μ) rfl ?_
  refine xr_forget (lo := [some (.ref v0), some (.int v1), some (.int (v2 + xc 1)), none]) ⟨rfl, rfl, rfl, trivial⟩ ?_
  have ho := Option.some.inj h
  subst ho
  exact hK
noncomputable def fM_findSure_L19  (v0 : Nat) (v1 : Int32) (v2 : Int32) (μ : xM) : Option ((Int32 × xM) ⊕ (xM)) := if (xc 4096) ≤ v2 then (some (.inr μ)) else ((fM_isWorld v0 v2 μ).bind fun r1 => if r1 = 0 then (fM_findSure_71 v0 v1 v2 μ) else ((fM_answerBy v0 v1 v2 μ).bind fun r2 => (ldF μ v0 9 54).bind fun x3 => (stF μ v0 9 54 (x3 &&& r2)).bind fun μ4 => (ldF μ4 v0 9 55).bind fun x5 => (stF μ4 v0 9 55 (x5 ||| r2)).bind fun μ6 => (ldF μ6 v0 9 56).bind fun x7 => (stF μ6 v0 9 56 (x7 + (xc 1))).bind fun μ8 => fM_findSure_71 v0 v1 v2 μ8))
theorem fM_findSure_L19_ok {d : Nat} {v0 : Nat} {v1 : Int32} {v2 : Int32} {μ : xM} {rv : Option Value} {μf : xM} {out : (Int32 × xM) ⊕ (xM)} (h : fM_findSure_L19 v0 v1 v2 μ = some out) (hK : fM_findSure_K19 v0 v1 d rv μf out) : xRun (d + 3) 199 19 [some (.ref v0), some (.int v1), some (.int v2), none] [] μ rv μf := by
  unfold fM_findSure_L19 at h
  refine xr_go 2 (pc' := 23) (lo' := [some (.ref v0), some (.int v1), some (.int v2), none]) (st' := [.int (xc 4096), .int v2]) (μ' := μ) rfl ?_
  refine xr_icmp (pct := 77) rfl rfl rfl (fun hc => ?_) (fun hc => ?_)
  · replace h := (if_pos (of_decide_eq_true hc)).symm.trans h
    have ho := Option.some.inj h
    subst ho
    obtain ⟨rfl, rfl⟩ := hK
    exact xr_ret (rv := none) rfl rfl (rfl)
  · replace h := (if_neg (of_decide_eq_false hc)).symm.trans h
    refine xr_go 2 (pc' := 28) (lo' := [some (.ref v0), some (.int v1), some (.int v2), none]) (st' := [.int v2, .ref v0]) (μ' := μ) rfl ?_
    obtain ⟨r1, hr1, h⟩ := Option.bind_eq_some_iff.mp h
    refine xr_callV (j := 197) (d' := (d + 2)) (rv1 := some (.int r1)) (μ1 := μ) (rest := []) (As := [.int v2]) rfl rfl rfl rfl (Nat.le_of_ble_eq_true rfl) (fM_isWorld_kd hr1) rfl (by exact (fM_isWorld_ok (d := d + (0)) hr1)) ?_
    refine xr_ifc (pct := 71) rfl rfl rfl (fun hc => ?_) (fun hc => ?_)
    · replace h := (if_pos (of_decide_eq_true hc)).symm.trans h
      refine xr_forget (lo := [some (.ref v0), some (.int v1), some (.int v2), none]) ⟨rfl, rfl, rfl, trivial⟩ ?_
      exact fM_findSure_71_ok h hK
    · replace h := (if_neg (of_decide_eq_false hc)).symm.trans h
      refine xr_go 3 (pc' := 37) (lo' := [some (.ref v0), some (.int v1), some (.int v2), none]) (st' := [.int v2, .int v1, .ref v0]) (μ' := μ) rfl ?_
      obtain ⟨r2, hr2, h⟩ := Option.bind_eq_some_iff.mp h
      refine xr_callV (j := 163) (d' := (d + 2)) (rv1 := some (.int r2)) (μ1 := μ) (rest := []) (As := [.int v1, .int v2]) rfl rfl rfl rfl (Nat.le_of_ble_eq_true rfl) (fM_answerBy_kd hr2) rfl (by exact (fM_answerBy_ok (d := d + (1)) hr2)) ?_
      refine xr_go 3 (pc' := 43) (lo' := [some (.ref v0), some (.int v1), some (.int v2), some (.int r2)]) (st' := [.ref v0, .ref v0]) (μ' := μ) rfl ?_
      obtain ⟨x3, hx3, h⟩ := Option.bind_eq_some_iff.mp h
      refine xr_opI (pc' := 46) (lo' := [some (.ref v0), some (.int v1), some (.int v2), some (.int r2)]) (st' := [.ref v0]) (o := ldF μ v0 9 54) rfl hx3 ?_
      refine xr_go 2 (pc' := 48) (lo' := [some (.ref v0), some (.int v1), some (.int v2), some (.int r2)]) (st' := [.int (x3 &&& r2), .ref v0]) (μ' := μ) rfl ?_
      obtain ⟨μ4, hμ4, h⟩ := Option.bind_eq_some_iff.mp h
      refine xr_opM (pc' := 51) (lo' := [some (.ref v0), some (.int v1), some (.int v2), some (.int r2)]) (st' := []) (o := stF μ v0 9 54 (x3 &&& r2)) rfl hμ4 ?_
      refine xr_go 2 (pc' := 53) (lo' := [some (.ref v0), some (.int v1), some (.int v2), some (.int r2)]) (st' := [.ref v0, .ref v0]) (μ' := μ4) rfl ?_
      obtain ⟨x5, hx5, h⟩ := Option.bind_eq_some_iff.mp h
      refine xr_opI (pc' := 56) (lo' := [some (.ref v0), some (.int v1), some (.int v2), some (.int r2)]) (st' := [.ref v0]) (o := ldF μ4 v0 9 55) rfl hx5 ?_
      refine xr_go 2 (pc' := 58) (lo' := [some (.ref v0), some (.int v1), some (.int v2), some (.int r2)]) (st' := [.int (x5 ||| r2), .ref v0]) (μ' := μ4) rfl ?_
      obtain ⟨μ6, hμ6, h⟩ := Option.bind_eq_some_iff.mp h
      refine xr_opM (pc' := 61) (lo' := [some (.ref v0), some (.int v1), some (.int v2), some (.int r2)]) (st' := []) (o := stF μ4 v0 9 55 (x5 ||| r2)) rfl hμ6 ?_
      refine xr_go 2 (pc' := 63) (lo' := [some (.ref v0), some (.int v1), some (.int v2), some (.int r2)]) (st' := [.ref v0, .ref v0]) (μ' := μ6) rfl ?_
      obtain ⟨x7, hx7, h⟩ := Option.bind_eq_some_iff.mp h
      refine xr_opI (pc' := 66) (lo' := [some (.ref v0), some (.int v1), some (.int v2), some (.int r2)]) (st' := [.ref v0]) (o := ldF μ6 v0 9 56) rfl hx7 ?_
      refine xr_go 2 (pc' := 68) (lo' := [some (.ref v0), some (.int v1), some (.int v2), some (.int r2)]) (st' := [.int (x7 + (xc 1)), .ref v0]) (μ' := μ6) rfl ?_
      obtain ⟨μ8, hμ8, h⟩ := Option.bind_eq_some_iff.mp h
      refine xr_opM (pc' := 71) (lo' := [some (.ref v0), some (.int v1), some (.int v2), some (.int r2)]) (st' := []) (o := stF μ6 v0 9 56 (x7 + (xc 1))) rfl hμ8 ?_
      refine xr_forget (lo := [some (.ref v0), some (.int v1), some (.int v2), none]) ⟨rfl, rfl, rfl, trivial⟩ ?_
      exact fM_findSure_71_ok h hK
theorem fM_findSure_L19_lp {d : Nat} {v0 : Nat} {v1 : Int32} {v2 : Int32} {μ : xM} {rv : Option Value} {μf : xM} {out : xM} (h : xwh (fun s : Int32 × xM => fM_findSure_L19 v0 v1 s.1 s.2) (v2, μ) = some out) (hK : fM_findSure_K rv μf out) : xRun (d + 3) 199 19 [some (.ref v0), some (.int v1), some (.int v2), none] [] μ rv μf :=
  xwh_ind (Rh := fun s : Int32 × xM => xRun (d + 3) 199 19 [some (.ref v0), some (.int v1), some (.int s.1), none] [] s.2 rv μf) (Co := fM_findSure_K rv μf) (fun s o hb hk => fM_findSure_L19_ok hb hk) h hK
noncomputable def fM_findSure_0  (v0 : Nat) (v1 : Int32) (μ : xM) : Option (xM) := (stF μ v0 9 54 (xc 255)).bind fun μ9 => (stF μ9 v0 9 55 (xc 0)).bind fun μ10 => (stF μ10 v0 9 56 (xc 0)).bind fun μ11 => xwh (fun s : Int32 × xM => fM_findSure_L19 v0 v1 s.1 s.2) (xc 0, μ11)
theorem fM_findSure_0_ok {d : Nat} {v0 : Nat} {v1 : Int32} {μ : xM} {rv : Option Value} {μf : xM} {out : xM} (h : fM_findSure_0 v0 v1 μ = some out) (hK : fM_findSure_K rv μf out) : xRun (d + 3) 199 0 [some (.ref v0), some (.int v1), none, none] [] μ rv μf := by
  unfold fM_findSure_0 at h
  refine xr_go 2 (pc' := 4) (lo' := [some (.ref v0), some (.int v1), none, none]) (st' := [.int (xc 255), .ref v0]) (μ' := μ) rfl ?_
  obtain ⟨μ9, hμ9, h⟩ := Option.bind_eq_some_iff.mp h
  refine xr_opM (pc' := 7) (lo' := [some (.ref v0), some (.int v1), none, none]) (st' := []) (o := stF μ v0 9 54 (xc 255)) rfl hμ9 ?_
  refine xr_go 2 (pc' := 9) (lo' := [some (.ref v0), some (.int v1), none, none]) (st' := [.int (xc 0), .ref v0]) (μ' := μ9) rfl ?_
  obtain ⟨μ10, hμ10, h⟩ := Option.bind_eq_some_iff.mp h
  refine xr_opM (pc' := 12) (lo' := [some (.ref v0), some (.int v1), none, none]) (st' := []) (o := stF μ9 v0 9 55 (xc 0)) rfl hμ10 ?_
  refine xr_go 2 (pc' := 14) (lo' := [some (.ref v0), some (.int v1), none, none]) (st' := [.int (xc 0), .ref v0]) (μ' := μ10) rfl ?_
  obtain ⟨μ11, hμ11, h⟩ := Option.bind_eq_some_iff.mp h
  refine xr_opM (pc' := 17) (lo' := [some (.ref v0), some (.int v1), none, none]) (st' := []) (o := stF μ10 v0 9 56 (xc 0)) rfl hμ11 ?_
  refine xr_go 2 (pc' := 19) (lo' := [some (.ref v0), some (.int v1), some (.int (xc 0)), none]) (st' := []) (μ' := μ11) rfl ?_
  refine xr_forget (lo := [some (.ref v0), some (.int v1), some (.int (xc 0)), none]) ⟨rfl, rfl, rfl, trivial⟩ ?_
  exact fM_findSure_L19_lp h hK
noncomputable def fM_findSure (a0 : Nat) (a1 : Int32) (μ : xM) : Option (xM) := xgd μ a0 9 (fM_findSure_0 a0 a1 μ)
theorem fM_findSure_kd {a0 : Nat} {a1 : Int32} {μ : xM} {o : xM} (h : fM_findSure a0 a1 μ = some o) : (xK μ a0).1 = 10 + 9 := (xgd_some h).1
theorem fM_findSure_ok {d : Nat} {a0 : Nat} {a1 : Int32} {μ : xM} {o : xM} (h : fM_findSure a0 a1 μ = some o) : xRun (d + 3) 199 0 [some (.ref a0), some (.int a1), none, none] [] μ none o :=
  xr_forget (lo := [some (.ref a0), some (.int a1), none, none]) (⟨rfl, rfl, trivial⟩) (fM_findSure_0_ok (d := d) (xgd_some h).2 (show fM_findSure_K _ _ o from ⟨rfl, rfl⟩))
-- KeptAnswersModel.sure(II)I 
def fM_sure_K (rv : Option Value) (μf : xM) : (Int32 × xM) → Prop := fun o => rv = some (.int o.1) ∧ μf = o.2
noncomputable def fM_sure_0  (v0 : Nat) (v1 : Int32) (v2 : Int32) (μ : xM) : Option (Int32 × xM) := (fM_isAsk v0 v1 μ).bind fun r1 => if r1 = 0 then ((fM_refuse v0 (xc (-1)) μ).bind fun r8 => some ((r8.1, r8.2))) else ((fM_isIn (Int32.toInt64 v2) (Int64.ofNat 0) (Int64.ofNat 1) μ).bind fun r2 => if r2 = 0 then ((fM_refuse v0 (xc (-2)) μ).bind fun r7 => some ((r7.1, r7.2))) else ((fM_findSure v0 v1 μ).bind fun r3 => (ldF r3 v0 9 56).bind fun x4 => if x4 = 0 then (some ((xc (-9), r3))) else (if v2 = 0 then ((ldF r3 v0 9 54).bind fun x6 => some ((x6, r3))) else ((ldF r3 v0 9 55).bind fun x5 => some ((x5, r3))))))
theorem fM_sure_0_ok {d : Nat} {v0 : Nat} {v1 : Int32} {v2 : Int32} {μ : xM} {rv : Option Value} {μf : xM} {out : Int32 × xM} (h : fM_sure_0 v0 v1 v2 μ = some out) (hK : fM_sure_K rv μf out) : xRun (d + 4) 200 0 [some (.ref v0), some (.int v1), some (.int v2)] [] μ rv μf := by
  unfold fM_sure_0 at h
  refine xr_go 2 (pc' := 2) (lo' := [some (.ref v0), some (.int v1), some (.int v2)]) (st' := [.int v1, .ref v0]) (μ' := μ) rfl ?_
  obtain ⟨r1, hr1, h⟩ := Option.bind_eq_some_iff.mp h
  refine xr_callV (j := 139) (d' := (d + 3)) (rv1 := some (.int r1)) (μ1 := μ) (rest := []) (As := [.int v1]) rfl rfl rfl rfl (Nat.le_of_ble_eq_true rfl) (fM_isAsk_kd hr1) rfl (by exact (fM_isAsk_ok (d := d + (2)) hr1)) ?_
  refine xr_ifc (pct := 14) rfl rfl rfl (fun hc => ?_) (fun hc => ?_)
  · replace h := (if_neg (of_decide_eq_true hc)).symm.trans h
    refine xr_go 4 (pc' := 18) (lo' := [some (.ref v0), some (.int v1), some (.int v2)]) (st' := [.long (Int64.ofNat 1), .long (Int64.ofNat 0), .long (Int32.toInt64 v2)]) (μ' := μ) rfl ?_
    obtain ⟨r2, hr2, h⟩ := Option.bind_eq_some_iff.mp h
    refine xr_callS (j := 137) (d' := (d + 3)) (rv1 := some (.int r2)) (μ1 := μ) (rest := []) (As := [.long (Int32.toInt64 v2), .long (Int64.ofNat 0), .long (Int64.ofNat 1)]) rfl rfl rfl rfl (Nat.le_of_ble_eq_true rfl) rfl (by exact (fM_isIn_ok (d := d + (3)) hr2)) ?_
    refine xr_ifc (pct := 31) rfl rfl rfl (fun hc => ?_) (fun hc => ?_)
    · replace h := (if_neg (of_decide_eq_true hc)).symm.trans h
      refine xr_go 2 (pc' := 33) (lo' := [some (.ref v0), some (.int v1), some (.int v2)]) (st' := [.int v1, .ref v0]) (μ' := μ) rfl ?_
      obtain ⟨r3, hr3, h⟩ := Option.bind_eq_some_iff.mp h
      refine xr_callV (j := 199) (d' := (d + 3)) (rv1 := none) (μ1 := r3) (rest := []) (As := [.int v1]) rfl rfl rfl rfl (Nat.le_of_ble_eq_true rfl) (fM_findSure_kd hr3) rfl (by exact (fM_findSure_ok (d := d + (0)) hr3)) ?_
      refine xr_go 1 (pc' := 37) (lo' := [some (.ref v0), some (.int v1), some (.int v2)]) (st' := [.ref v0]) (μ' := r3) rfl ?_
      obtain ⟨x4, hx4, h⟩ := Option.bind_eq_some_iff.mp h
      refine xr_opI (pc' := 40) (lo' := [some (.ref v0), some (.int v1), some (.int v2)]) (st' := []) (o := ldF r3 v0 9 56) rfl hx4 ?_
      refine xr_ifc (pct := 48) rfl rfl rfl (fun hc => ?_) (fun hc => ?_)
      · replace h := (if_neg (of_decide_eq_true hc)).symm.trans h
        refine xr_go 1 (pc' := 49) (lo' := [some (.ref v0), some (.int v1), some (.int v2)]) (st' := [.int v2]) (μ' := r3) rfl ?_
        refine xr_ifc (pct := 59) rfl rfl rfl (fun hc => ?_) (fun hc => ?_)
        · replace h := (if_neg (of_decide_eq_true hc)).symm.trans h
          refine xr_go 1 (pc' := 60) (lo' := [some (.ref v0), some (.int v1), some (.int v2)]) (st' := [.ref v0]) (μ' := r3) rfl ?_
          obtain ⟨x5, hx5, h⟩ := Option.bind_eq_some_iff.mp h
          refine xr_opI (pc' := 63) (lo' := [some (.ref v0), some (.int v1), some (.int v2)]) (st' := []) (o := ldF r3 v0 9 55) rfl hx5 ?_
          have ho := Option.some.inj h
          subst ho
          obtain ⟨rfl, rfl⟩ := hK
          exact xr_ret (rv := some (.int x5)) rfl rfl (Or.inl rfl)
        · replace h := (if_pos (Decidable.of_not_not (of_decide_eq_false hc))).symm.trans h
          refine xr_go 1 (pc' := 53) (lo' := [some (.ref v0), some (.int v1), some (.int v2)]) (st' := [.ref v0]) (μ' := r3) rfl ?_
          obtain ⟨x6, hx6, h⟩ := Option.bind_eq_some_iff.mp h
          refine xr_opI (pc' := 56) (lo' := [some (.ref v0), some (.int v1), some (.int v2)]) (st' := []) (o := ldF r3 v0 9 54) rfl hx6 ?_
          refine xr_go 1 (pc' := 63) (lo' := [some (.ref v0), some (.int v1), some (.int v2)]) (st' := [.int x6]) (μ' := r3) rfl ?_
          have ho := Option.some.inj h
          subst ho
          obtain ⟨rfl, rfl⟩ := hK
          exact xr_ret (rv := some (.int x6)) rfl rfl (Or.inl rfl)
      · replace h := (if_pos (Decidable.of_not_not (of_decide_eq_false hc))).symm.trans h
        refine xr_go 2 (pc' := 63) (lo' := [some (.ref v0), some (.int v1), some (.int v2)]) (st' := [.int (xc (-9))]) (μ' := r3) rfl ?_
        have ho := Option.some.inj h
        subst ho
        obtain ⟨rfl, rfl⟩ := hK
        exact xr_ret (rv := some (.int (xc (-9)))) rfl rfl (Or.inl rfl)
    · replace h := (if_pos (Decidable.of_not_not (of_decide_eq_false hc))).symm.trans h
      refine xr_go 2 (pc' := 27) (lo' := [some (.ref v0), some (.int v1), some (.int v2)]) (st' := [.int (xc (-2)), .ref v0]) (μ' := μ) rfl ?_
      obtain ⟨r7, hr7, h⟩ := Option.bind_eq_some_iff.mp h
      refine xr_callV (j := 138) (d' := (d + 3)) (rv1 := some (.int r7.1)) (μ1 := r7.2) (rest := []) (As := [.int (xc (-2))]) rfl rfl rfl rfl (Nat.le_of_ble_eq_true rfl) (fM_refuse_kd hr7) rfl (by exact (fM_refuse_ok (d := d + (3)) hr7)) ?_
      have ho := Option.some.inj h
      subst ho
      obtain ⟨rfl, rfl⟩ := hK
      exact xr_ret (rv := some (.int r7.1)) rfl rfl (Or.inl rfl)
  · replace h := (if_pos (Decidable.of_not_not (of_decide_eq_false hc))).symm.trans h
    refine xr_go 2 (pc' := 10) (lo' := [some (.ref v0), some (.int v1), some (.int v2)]) (st' := [.int (xc (-1)), .ref v0]) (μ' := μ) rfl ?_
    obtain ⟨r8, hr8, h⟩ := Option.bind_eq_some_iff.mp h
    refine xr_callV (j := 138) (d' := (d + 3)) (rv1 := some (.int r8.1)) (μ1 := r8.2) (rest := []) (As := [.int (xc (-1))]) rfl rfl rfl rfl (Nat.le_of_ble_eq_true rfl) (fM_refuse_kd hr8) rfl (by exact (fM_refuse_ok (d := d + (3)) hr8)) ?_
    have ho := Option.some.inj h
    subst ho
    obtain ⟨rfl, rfl⟩ := hK
    exact xr_ret (rv := some (.int r8.1)) rfl rfl (Or.inl rfl)
noncomputable def fM_sure (a0 : Nat) (a1 : Int32) (a2 : Int32) (μ : xM) : Option (Int32 × xM) := xgd μ a0 9 (fM_sure_0 a0 a1 a2 μ)
theorem fM_sure_kd {a0 : Nat} {a1 : Int32} {a2 : Int32} {μ : xM} {o : Int32 × xM} (h : fM_sure a0 a1 a2 μ = some o) : (xK μ a0).1 = 10 + 9 := (xgd_some h).1
theorem fM_sure_ok {d : Nat} {a0 : Nat} {a1 : Int32} {a2 : Int32} {μ : xM} {o : Int32 × xM} (h : fM_sure a0 a1 a2 μ = some o) : xRun (d + 4) 200 0 [some (.ref a0), some (.int a1), some (.int a2)] [] μ (some (.int o.1)) o.2 :=
  xr_forget (lo := [some (.ref a0), some (.int a1), some (.int a2)]) (⟨rfl, rfl, rfl, trivial⟩) (fM_sure_0_ok (d := d) (xgd_some h).2 (show fM_sure_K _ _ o from ⟨rfl, rfl⟩))
-- KeptAnswers$Worlds.settles(I)Z 
def fW_settles_K (rv : Option Value) (μf : xM) : (Int32 × xM) → Prop := fun o => rv = some (.int o.1) ∧ μf = o.2
def fW_settles_K65 (v0 : Nat) (μ : xM) (d : Nat) (rv : Option Value) (μf : xM) : ((Int32) ⊕ (Int32 × xM)) → Prop := Sum.elim (fun s : Int32 => xRun (d + 1) 126 65 [some (.ref v0), none, some (.int s)] [] μ rv μf) (fW_settles_K rv μf)
def fW_settles_K17 (v0 : Nat) (v1 : Int32) (d : Nat) (rv : Option Value) (μf : xM) : ((Int32 × xM) ⊕ (Int32 × xM)) → Prop := Sum.elim (fun s : Int32 × xM => xRun (d + 1) 126 17 [some (.ref v0), some (.int v1), some (.int s.1)] [] s.2 rv μf) (fW_settles_K rv μf)
noncomputable def fW_settles_111  (μ : xM) : Option (Int32 × xM) := some ((xc 1, μ))
theorem fW_settles_111_ok {d : Nat} {μ : xM} {rv : Option Value} {μf : xM} {out : Int32 × xM} (h : fW_settles_111 μ = some out) (hK : fW_settles_K rv μf out) : xRun (d + 1) 126 111 [none, none, none] [] μ rv μf := by
  unfold fW_settles_111 at h
  refine xr_go 1 (pc' := 112) (lo' := [none, none, none]) (st' := [.int (xc 1)]) (μ' := μ) rfl ?_
  have ho := Option.some.inj h
  subst ho
  obtain ⟨rfl, rfl⟩ := hK
  exact xr_ret (rv := some (.int (xc 1))) rfl rfl (Or.inr ⟨rfl, Or.inr rfl⟩)
noncomputable def fW_settles_105  (v0 : Nat) (v2 : Int32) (μ : xM) : Option ((Int32) ⊕ (Int32 × xM)) := some (.inl ((v2 + xc 1)))
theorem fW_settles_105_ok {d : Nat} {v0 : Nat} {v2 : Int32} {μ : xM} {rv : Option Value} {μf : xM} {out : (Int32) ⊕ (Int32 × xM)} (h : fW_settles_105 v0 v2 μ = some out) (hK : fW_settles_K65 v0 μ d rv μf out) : xRun (d + 1) 126 105 [some (.ref v0), none, some (.int v2)] [] μ rv μf := by
  unfold fW_settles_105 at h
  refine xr_go 2 (pc' := 65) (lo' := [some (.ref v0), none, some (.int (v2 + xc 1))]) (st' := []) (μ' := μ) rfl ?_
  refine xr_forget (lo := [some (.ref v0), none, some (.int (v2 + xc 1))]) ⟨rfl, rfl, trivial⟩ ?_
  have ho := Option.some.inj h
  subst ho
  exact hK
noncomputable def fW_settles_103  (μ : xM) : Option (Int32 × xM) := some ((xc 0, μ))
theorem fW_settles_103_ok {d : Nat} {μ : xM} {rv : Option Value} {μf : xM} {out : Int32 × xM} (h : fW_settles_103 μ = some out) (hK : fW_settles_K rv μf out) : xRun (d + 1) 126 103 [none, none, none] [] μ rv μf := by
  unfold fW_settles_103 at h
  refine xr_go 1 (pc' := 104) (lo' := [none, none, none]) (st' := [.int (xc 0)]) (μ' := μ) rfl ?_
  have ho := Option.some.inj h
  subst ho
  obtain ⟨rfl, rfl⟩ := hK
  exact xr_ret (rv := some (.int (xc 0))) rfl rfl (Or.inr ⟨rfl, Or.inl rfl⟩)
noncomputable def fW_settles_L65  (v0 : Nat) (v2 : Int32) (μ : xM) : Option ((Int32) ⊕ (Int32 × xM)) := if (xc 8) ≤ v2 then ((fW_settles_111 μ).map (fun o => .inr o)) else ((ldFR μ v0 8 3).bind fun x1 => (ldFR μ v0 8 2).bind fun x2 => (ldAR μ x2 v2).bind fun x3 => (fW_meets x1 x3 μ).bind fun r4 => if r4 = 0 then (fW_settles_105 v0 v2 μ) else ((ldFR μ v0 8 3).bind fun x5 => (ldFR μ v0 8 2).bind fun x6 => (ldAR μ x6 v2).bind fun x7 => (fW_leaves x5 x7 μ).bind fun r8 => if r8 = 0 then (fW_settles_105 v0 v2 μ) else ((fW_settles_103 μ).map (fun o => .inr o))))
theorem fW_settles_L65_ok {d : Nat} {v0 : Nat} {v2 : Int32} {μ : xM} {rv : Option Value} {μf : xM} {out : (Int32) ⊕ (Int32 × xM)} (h : fW_settles_L65 v0 v2 μ = some out) (hK : fW_settles_K65 v0 μ d rv μf out) : xRun (d + 1) 126 65 [some (.ref v0), none, some (.int v2)] [] μ rv μf := by
  unfold fW_settles_L65 at h
  refine xr_go 2 (pc' := 68) (lo' := [some (.ref v0), none, some (.int v2)]) (st' := [.int (xc 8), .int v2]) (μ' := μ) rfl ?_
  refine xr_icmp (pct := 111) rfl rfl rfl (fun hc => ?_) (fun hc => ?_)
  · replace h := (if_pos (of_decide_eq_true hc)).symm.trans h
    refine xr_forget (lo := [none, none, none]) trivial ?_
    obtain ⟨o, h2, rfl⟩ := Option.map_eq_some_iff.mp h
    exact fW_settles_111_ok h2 hK
  · replace h := (if_neg (of_decide_eq_false hc)).symm.trans h
    refine xr_go 1 (pc' := 72) (lo' := [some (.ref v0), none, some (.int v2)]) (st' := [.ref v0]) (μ' := μ) rfl ?_
    obtain ⟨x1, hx1, h⟩ := Option.bind_eq_some_iff.mp h
    refine xr_opA (pc' := 75) (lo' := [some (.ref v0), none, some (.int v2)]) (st' := []) (o := ldFR μ v0 8 3) rfl hx1 ?_
    refine xr_go 1 (pc' := 76) (lo' := [some (.ref v0), none, some (.int v2)]) (st' := [.ref v0, .ref x1]) (μ' := μ) rfl ?_
    obtain ⟨x2, hx2, h⟩ := Option.bind_eq_some_iff.mp h
    refine xr_opA (pc' := 79) (lo' := [some (.ref v0), none, some (.int v2)]) (st' := [.ref x1]) (o := ldFR μ v0 8 2) rfl hx2 ?_
    refine xr_go 1 (pc' := 80) (lo' := [some (.ref v0), none, some (.int v2)]) (st' := [.int v2, .ref x2, .ref x1]) (μ' := μ) rfl ?_
    obtain ⟨x3, hx3, h⟩ := Option.bind_eq_some_iff.mp h
    refine xr_opA (pc' := 81) (lo' := [some (.ref v0), none, some (.int v2)]) (st' := [.ref x1]) (o := ldAR μ x2 v2) rfl hx3 ?_
    obtain ⟨r4, hr4, h⟩ := Option.bind_eq_some_iff.mp h
    refine xr_callS (j := 134) (d' := (d + 0)) (rv1 := some (.int r4)) (μ1 := μ) (rest := []) (As := [.ref x1, .ref x3]) rfl rfl rfl rfl (Nat.le_of_ble_eq_true rfl) rfl (by exact (fW_meets_ok (d := d + (0)) hr4)) ?_
    refine xr_ifc (pct := 105) rfl rfl rfl (fun hc => ?_) (fun hc => ?_)
    · replace h := (if_pos (of_decide_eq_true hc)).symm.trans h
      refine xr_forget (lo := [some (.ref v0), none, some (.int v2)]) ⟨rfl, rfl, trivial⟩ ?_
      exact fW_settles_105_ok h hK
    · replace h := (if_neg (of_decide_eq_false hc)).symm.trans h
      refine xr_go 1 (pc' := 88) (lo' := [some (.ref v0), none, some (.int v2)]) (st' := [.ref v0]) (μ' := μ) rfl ?_
      obtain ⟨x5, hx5, h⟩ := Option.bind_eq_some_iff.mp h
      refine xr_opA (pc' := 91) (lo' := [some (.ref v0), none, some (.int v2)]) (st' := []) (o := ldFR μ v0 8 3) rfl hx5 ?_
      refine xr_go 1 (pc' := 92) (lo' := [some (.ref v0), none, some (.int v2)]) (st' := [.ref v0, .ref x5]) (μ' := μ) rfl ?_
      obtain ⟨x6, hx6, h⟩ := Option.bind_eq_some_iff.mp h
      refine xr_opA (pc' := 95) (lo' := [some (.ref v0), none, some (.int v2)]) (st' := [.ref x5]) (o := ldFR μ v0 8 2) rfl hx6 ?_
      refine xr_go 1 (pc' := 96) (lo' := [some (.ref v0), none, some (.int v2)]) (st' := [.int v2, .ref x6, .ref x5]) (μ' := μ) rfl ?_
      obtain ⟨x7, hx7, h⟩ := Option.bind_eq_some_iff.mp h
      refine xr_opA (pc' := 97) (lo' := [some (.ref v0), none, some (.int v2)]) (st' := [.ref x5]) (o := ldAR μ x6 v2) rfl hx7 ?_
      obtain ⟨r8, hr8, h⟩ := Option.bind_eq_some_iff.mp h
      refine xr_callS (j := 135) (d' := (d + 0)) (rv1 := some (.int r8)) (μ1 := μ) (rest := []) (As := [.ref x5, .ref x7]) rfl rfl rfl rfl (Nat.le_of_ble_eq_true rfl) rfl (by exact (fW_leaves_ok (d := d + (0)) hr8)) ?_
      refine xr_ifc (pct := 105) rfl rfl rfl (fun hc => ?_) (fun hc => ?_)
      · replace h := (if_pos (of_decide_eq_true hc)).symm.trans h
        refine xr_forget (lo := [some (.ref v0), none, some (.int v2)]) ⟨rfl, rfl, trivial⟩ ?_
        exact fW_settles_105_ok h hK
      · replace h := (if_neg (of_decide_eq_false hc)).symm.trans h
        refine xr_forget (lo := [none, none, none]) trivial ?_
        obtain ⟨o, h2, rfl⟩ := Option.map_eq_some_iff.mp h
        exact fW_settles_103_ok h2 hK
theorem fW_settles_L65_lp {d : Nat} {v0 : Nat} {v2 : Int32} {μ : xM} {rv : Option Value} {μf : xM} {out : Int32 × xM} (h : xwh (fun s : Int32 => fW_settles_L65 v0 s μ) (v2) = some out) (hK : fW_settles_K rv μf out) : xRun (d + 1) 126 65 [some (.ref v0), none, some (.int v2)] [] μ rv μf :=
  xwh_ind (Rh := fun s : Int32 => xRun (d + 1) 126 65 [some (.ref v0), none, some (.int s)] [] μ rv μf) (Co := fW_settles_K rv μf) (fun s o hb hk => fW_settles_L65_ok hb hk) h hK
noncomputable def fW_settles_51  (v0 : Nat) (μ : xM) : Option (Int32 × xM) := (ldFR μ v0 8 3).bind fun x9 => (fW_isEmpty x9 μ).bind fun r10 => if r10 = 0 then (xwh (fun s : Int32 => fW_settles_L65 v0 s μ) (xc 0)) else (some ((xc 0, μ)))
theorem fW_settles_51_ok {d : Nat} {v0 : Nat} {μ : xM} {rv : Option Value} {μf : xM} {out : Int32 × xM} (h : fW_settles_51 v0 μ = some out) (hK : fW_settles_K rv μf out) : xRun (d + 1) 126 51 [some (.ref v0), none, none] [] μ rv μf := by
  unfold fW_settles_51 at h
  refine xr_go 1 (pc' := 52) (lo' := [some (.ref v0), none, none]) (st' := [.ref v0]) (μ' := μ) rfl ?_
  obtain ⟨x9, hx9, h⟩ := Option.bind_eq_some_iff.mp h
  refine xr_opA (pc' := 55) (lo' := [some (.ref v0), none, none]) (st' := []) (o := ldFR μ v0 8 3) rfl hx9 ?_
  obtain ⟨r10, hr10, h⟩ := Option.bind_eq_some_iff.mp h
  refine xr_callS (j := 133) (d' := (d + 0)) (rv1 := some (.int r10)) (μ1 := μ) (rest := []) (As := [.ref x9]) rfl rfl rfl rfl (Nat.le_of_ble_eq_true rfl) rfl (by exact (fW_isEmpty_ok (d := d + (0)) hr10)) ?_
  refine xr_ifc (pct := 63) rfl rfl rfl (fun hc => ?_) (fun hc => ?_)
  · replace h := (if_pos (of_decide_eq_true hc)).symm.trans h
    refine xr_go 2 (pc' := 65) (lo' := [some (.ref v0), none, some (.int (xc 0))]) (st' := []) (μ' := μ) rfl ?_
    refine xr_forget (lo := [some (.ref v0), none, some (.int (xc 0))]) ⟨rfl, rfl, trivial⟩ ?_
    exact fW_settles_L65_lp h hK
  · replace h := (if_neg (of_decide_eq_false hc)).symm.trans h
    refine xr_go 1 (pc' := 62) (lo' := [some (.ref v0), none, none]) (st' := [.int (xc 0)]) (μ' := μ) rfl ?_
    have ho := Option.some.inj h
    subst ho
    obtain ⟨rfl, rfl⟩ := hK
    exact xr_ret (rv := some (.int (xc 0))) rfl rfl (Or.inr ⟨rfl, Or.inl rfl⟩)
noncomputable def fW_settles_45  (v0 : Nat) (v1 : Int32) (v2 : Int32) (μ : xM) : Option ((Int32 × xM) ⊕ (Int32 × xM)) := some (.inl ((v2 + xc 1, μ)))
theorem fW_settles_45_ok {d : Nat} {v0 : Nat} {v1 : Int32} {v2 : Int32} {μ : xM} {rv : Option Value} {μf : xM} {out : (Int32 × xM) ⊕ (Int32 × xM)} (h : fW_settles_45 v0 v1 v2 μ = some out) (hK : fW_settles_K17 v0 v1 d rv μf out) : xRun (d + 1) 126 45 [some (.ref v0), some (.int v1), some (.int v2)] [] μ rv μf := by
  unfold fW_settles_45 at h
  refine xr_go 2 (pc' := 17) (lo' := [some (.ref v0), some (.int v1), some (.int (v2 + xc 1))]) (st' := []) (μ' := μ) rfl ?_
  refine xr_forget (lo := [some (.ref v0), some (.int v1), some (.int (v2 + xc 1))]) ⟨rfl, rfl, rfl, trivial⟩ ?_
  have ho := Option.some.inj h
  subst ho
  exact hK
noncomputable def fW_settles_L17  (v0 : Nat) (v1 : Int32) (v2 : Int32) (μ : xM) : Option ((Int32 × xM) ⊕ (Int32 × xM)) := if (xc 6) ≤ v2 then ((fW_settles_51 v0 μ).map (fun o => .inr o)) else (if ((v1 >>> (v2 &&& 31)) &&& (xc 1)) = 0 then (fW_settles_45 v0 v1 v2 μ) else ((ldFR μ v0 8 3).bind fun x11 => (ldFR μ v0 8 1).bind fun x12 => (ldAR μ x12 v2).bind fun x13 => (fW_keepAlike x11 x13 (xc 1) μ).bind fun r14 => fW_settles_45 v0 v1 v2 r14))
theorem fW_settles_L17_ok {d : Nat} {v0 : Nat} {v1 : Int32} {v2 : Int32} {μ : xM} {rv : Option Value} {μf : xM} {out : (Int32 × xM) ⊕ (Int32 × xM)} (h : fW_settles_L17 v0 v1 v2 μ = some out) (hK : fW_settles_K17 v0 v1 d rv μf out) : xRun (d + 1) 126 17 [some (.ref v0), some (.int v1), some (.int v2)] [] μ rv μf := by
  unfold fW_settles_L17 at h
  refine xr_go 2 (pc' := 20) (lo' := [some (.ref v0), some (.int v1), some (.int v2)]) (st' := [.int (xc 6), .int v2]) (μ' := μ) rfl ?_
  refine xr_icmp (pct := 51) rfl rfl rfl (fun hc => ?_) (fun hc => ?_)
  · replace h := (if_pos (of_decide_eq_true hc)).symm.trans h
    refine xr_forget (lo := [some (.ref v0), none, none]) ⟨rfl, trivial⟩ ?_
    obtain ⟨o, h2, rfl⟩ := Option.map_eq_some_iff.mp h
    exact fW_settles_51_ok h2 hK
  · replace h := (if_neg (of_decide_eq_false hc)).symm.trans h
    refine xr_go 5 (pc' := 28) (lo' := [some (.ref v0), some (.int v1), some (.int v2)]) (st' := [.int ((v1 >>> (v2 &&& 31)) &&& (xc 1))]) (μ' := μ) rfl ?_
    refine xr_ifc (pct := 45) rfl rfl rfl (fun hc => ?_) (fun hc => ?_)
    · replace h := (if_pos (of_decide_eq_true hc)).symm.trans h
      refine xr_forget (lo := [some (.ref v0), some (.int v1), some (.int v2)]) ⟨rfl, rfl, rfl, trivial⟩ ?_
      exact fW_settles_45_ok h hK
    · replace h := (if_neg (of_decide_eq_false hc)).symm.trans h
      refine xr_go 1 (pc' := 32) (lo' := [some (.ref v0), some (.int v1), some (.int v2)]) (st' := [.ref v0]) (μ' := μ) rfl ?_
      obtain ⟨x11, hx11, h⟩ := Option.bind_eq_some_iff.mp h
      refine xr_opA (pc' := 35) (lo' := [some (.ref v0), some (.int v1), some (.int v2)]) (st' := []) (o := ldFR μ v0 8 3) rfl hx11 ?_
      refine xr_go 1 (pc' := 36) (lo' := [some (.ref v0), some (.int v1), some (.int v2)]) (st' := [.ref v0, .ref x11]) (μ' := μ) rfl ?_
      obtain ⟨x12, hx12, h⟩ := Option.bind_eq_some_iff.mp h
      refine xr_opA (pc' := 39) (lo' := [some (.ref v0), some (.int v1), some (.int v2)]) (st' := [.ref x11]) (o := ldFR μ v0 8 1) rfl hx12 ?_
      refine xr_go 1 (pc' := 40) (lo' := [some (.ref v0), some (.int v1), some (.int v2)]) (st' := [.int v2, .ref x12, .ref x11]) (μ' := μ) rfl ?_
      obtain ⟨x13, hx13, h⟩ := Option.bind_eq_some_iff.mp h
      refine xr_opA (pc' := 41) (lo' := [some (.ref v0), some (.int v1), some (.int v2)]) (st' := [.ref x11]) (o := ldAR μ x12 v2) rfl hx13 ?_
      refine xr_go 1 (pc' := 42) (lo' := [some (.ref v0), some (.int v1), some (.int v2)]) (st' := [.int (xc 1), .ref x13, .ref x11]) (μ' := μ) rfl ?_
      obtain ⟨r14, hr14, h⟩ := Option.bind_eq_some_iff.mp h
      refine xr_callS (j := 132) (d' := (d + 0)) (rv1 := none) (μ1 := r14) (rest := []) (As := [.ref x11, .ref x13, .int (xc 1)]) rfl rfl rfl rfl (Nat.le_of_ble_eq_true rfl) rfl (by exact (fW_keepAlike_ok (d := d + (0)) hr14)) ?_
      refine xr_forget (lo := [some (.ref v0), some (.int v1), some (.int v2)]) ⟨rfl, rfl, rfl, trivial⟩ ?_
      exact fW_settles_45_ok h hK
theorem fW_settles_L17_lp {d : Nat} {v0 : Nat} {v1 : Int32} {v2 : Int32} {μ : xM} {rv : Option Value} {μf : xM} {out : Int32 × xM} (h : xwh (fun s : Int32 × xM => fW_settles_L17 v0 v1 s.1 s.2) (v2, μ) = some out) (hK : fW_settles_K rv μf out) : xRun (d + 1) 126 17 [some (.ref v0), some (.int v1), some (.int v2)] [] μ rv μf :=
  xwh_ind (Rh := fun s : Int32 × xM => xRun (d + 1) 126 17 [some (.ref v0), some (.int v1), some (.int s.1)] [] s.2 rv μf) (Co := fW_settles_K rv μf) (fun s o hb hk => fW_settles_L17_ok hb hk) h hK
noncomputable def fW_settles_0  (v0 : Nat) (v1 : Int32) (μ : xM) : Option (Int32 × xM) := (ldFR μ v0 8 0).bind fun x15 => (ldFR μ v0 8 3).bind fun x16 => (xcopyL μ x15 (xc 0) x16 (xc 0) (xc 64)).bind fun μ17 => xwh (fun s : Int32 × xM => fW_settles_L17 v0 v1 s.1 s.2) (xc 0, μ17)
theorem fW_settles_0_ok {d : Nat} {v0 : Nat} {v1 : Int32} {μ : xM} {rv : Option Value} {μf : xM} {out : Int32 × xM} (h : fW_settles_0 v0 v1 μ = some out) (hK : fW_settles_K rv μf out) : xRun (d + 1) 126 0 [some (.ref v0), some (.int v1), none] [] μ rv μf := by
  unfold fW_settles_0 at h
  refine xr_go 1 (pc' := 1) (lo' := [some (.ref v0), some (.int v1), none]) (st' := [.ref v0]) (μ' := μ) rfl ?_
  obtain ⟨x15, hx15, h⟩ := Option.bind_eq_some_iff.mp h
  refine xr_opA (pc' := 4) (lo' := [some (.ref v0), some (.int v1), none]) (st' := []) (o := ldFR μ v0 8 0) rfl hx15 ?_
  refine xr_go 2 (pc' := 6) (lo' := [some (.ref v0), some (.int v1), none]) (st' := [.ref v0, .int (xc 0), .ref x15]) (μ' := μ) rfl ?_
  obtain ⟨x16, hx16, h⟩ := Option.bind_eq_some_iff.mp h
  refine xr_opA (pc' := 9) (lo' := [some (.ref v0), some (.int v1), none]) (st' := [.int (xc 0), .ref x15]) (o := ldFR μ v0 8 3) rfl hx16 ?_
  refine xr_go 2 (pc' := 12) (lo' := [some (.ref v0), some (.int v1), none]) (st' := [.int (xc 64), .int (xc 0), .ref x16, .int (xc 0), .ref x15]) (μ' := μ) rfl ?_
  obtain ⟨μ17, hμ17, h⟩ := Option.bind_eq_some_iff.mp h
  refine xr_opM (pc' := 15) (lo' := [some (.ref v0), some (.int v1), none]) (st' := []) (o := xcopyL μ x15 (xc 0) x16 (xc 0) (xc 64)) rfl hμ17 ?_
  refine xr_go 2 (pc' := 17) (lo' := [some (.ref v0), some (.int v1), some (.int (xc 0))]) (st' := []) (μ' := μ17) rfl ?_
  refine xr_forget (lo := [some (.ref v0), some (.int v1), some (.int (xc 0))]) ⟨rfl, rfl, rfl, trivial⟩ ?_
  exact fW_settles_L17_lp h hK
noncomputable def fW_settles (a0 : Nat) (a1 : Int32) (μ : xM) : Option (Int32 × xM) := xgd μ a0 8 (fW_settles_0 a0 a1 μ)
theorem fW_settles_kd {a0 : Nat} {a1 : Int32} {μ : xM} {o : Int32 × xM} (h : fW_settles a0 a1 μ = some o) : (xK μ a0).1 = 10 + 8 := (xgd_some h).1
theorem fW_settles_ok {d : Nat} {a0 : Nat} {a1 : Int32} {μ : xM} {o : Int32 × xM} (h : fW_settles a0 a1 μ = some o) : xRun (d + 1) 126 0 [some (.ref a0), some (.int a1), none] [] μ (some (.int o.1)) o.2 :=
  xr_forget (lo := [some (.ref a0), some (.int a1), none]) (⟨rfl, rfl, trivial⟩) (fW_settles_0_ok (d := d) (xgd_some h).2 (show fW_settles_K _ _ o from ⟨rfl, rfl⟩))
-- KeptAnswers$Worlds.fewestBesides(LKeptAnswers$Holding;LKeptAnswers$Picture;)I 
def fW_fewestBesides_K (rv : Option Value) (μf : xM) : (Int32 × xM) → Prop := fun o => rv = some (.int o.1) ∧ μf = o.2
def fW_fewestBesides_K69 (v0 : Nat) (v1 : Nat) (d : Nat) (rv : Option Value) (μf : xM) : ((Int32 × xM) ⊕ (Int32 × xM)) → Prop := Sum.elim (fun s : Int32 × xM => xRun (d + 5) 125 69 [some (.ref v0), some (.ref v1), none, some (.int s.1), none, none] [] s.2 rv μf) (fW_fewestBesides_K rv μf)
def fW_fewestBesides_K7 (v0 : Nat) (v1 : Nat) (v2 : Nat) (d : Nat) (rv : Option Value) (μf : xM) : ((Int32 × xM) ⊕ (Int32 × xM)) → Prop := Sum.elim (fun s : Int32 × xM => xRun (d + 5) 125 7 [some (.ref v0), some (.ref v1), some (.ref v2), some (.int s.1), none, none] [] s.2 rv μf) (fW_fewestBesides_K rv μf)
def fW_fewestBesides_K80 (v0 : Nat) (v1 : Nat) (v3 : Int32) (d : Nat) (rv : Option Value) (μf : xM) : ((Int32 × xM) ⊕ ((Int32 × xM) ⊕ (Int32 × xM))) → Prop := Sum.elim (fun s : Int32 × xM => xRun (d + 5) 125 80 [some (.ref v0), some (.ref v1), none, some (.int v3), some (.int s.1), none] [] s.2 rv μf) (fW_fewestBesides_K69 v0 v1 d rv μf)
noncomputable def fW_fewestBesides_146  (μ : xM) : Option (Int32 × xM) := some ((xc (-9), μ))
theorem fW_fewestBesides_146_ok {d : Nat} {μ : xM} {rv : Option Value} {μf : xM} {out : Int32 × xM} (h : fW_fewestBesides_146 μ = some out) (hK : fW_fewestBesides_K rv μf out) : xRun (d + 5) 125 146 [none, none, none, none, none, none] [] μ rv μf := by
  unfold fW_fewestBesides_146 at h
  refine xr_go 1 (pc' := 148) (lo' := [none, none, none, none, none, none]) (st' := [.int (xc (-9))]) (μ' := μ) rfl ?_
  have ho := Option.some.inj h
  subst ho
  obtain ⟨rfl, rfl⟩ := hK
  exact xr_ret (rv := some (.int (xc (-9)))) rfl rfl (Or.inl rfl)
noncomputable def fW_fewestBesides_140  (v0 : Nat) (v1 : Nat) (v3 : Int32) (μ : xM) : Option ((Int32 × xM) ⊕ (Int32 × xM)) := some (.inl ((v3 + xc 1, μ)))
theorem fW_fewestBesides_140_ok {d : Nat} {v0 : Nat} {v1 : Nat} {v3 : Int32} {μ : xM} {rv : Option Value} {μf : xM} {out : (Int32 × xM) ⊕ (Int32 × xM)} (h : fW_fewestBesides_140 v0 v1 v3 μ = some out) (hK : fW_fewestBesides_K69 v0 v1 d rv μf out) : xRun (d + 5) 125 140 [some (.ref v0), some (.ref v1), none, some (.int v3), none, none] [] μ rv μf := by
  unfold fW_fewestBesides_140 at h
  refine xr_go 2 (pc' := 69) (lo' := [some (.ref v0), some (.ref v1), none, some (.int (v3 + xc 1)), none, none]) (st' := []) (μ' := μ) rfl ?_
  refine xr_forget (lo := [some (.ref v0), some (.ref v1), none, some (.int (v3 + xc 1)), none, none]) ⟨rfl, rfl, rfl, trivial⟩ ?_
  have ho := Option.some.inj h
  subst ho
  exact hK
noncomputable def fW_fewestBesides_134  (v0 : Nat) (v1 : Nat) (v3 : Int32) (v4 : Int32) (μ : xM) : Option ((Int32 × xM) ⊕ ((Int32 × xM) ⊕ (Int32 × xM))) := some (.inl ((v4 + xc 1, μ)))
theorem fW_fewestBesides_134_ok {d : Nat} {v0 : Nat} {v1 : Nat} {v3 : Int32} {v4 : Int32} {μ : xM} {rv : Option Value} {μf : xM} {out : (Int32 × xM) ⊕ ((Int32 × xM) ⊕ (Int32 × xM))} (h : fW_fewestBesides_134 v0 v1 v3 v4 μ = some out) (hK : fW_fewestBesides_K80 v0 v1 v3 d rv μf out) : xRun (d + 5) 125 134 [some (.ref v0), some (.ref v1), none, some (.int v3), some (.int v4), none] [] μ rv μf := by
  unfold fW_fewestBesides_134 at h
  refine xr_go 2 (pc' := 80) (lo' := [some (.ref v0), some (.ref v1), none, some (.int v3), some (.int (v4 + xc 1)), none]) (st' := []) (μ' := μ) rfl ?_
  refine xr_forget (lo := [some (.ref v0), some (.ref v1), none, some (.int v3), some (.int (v4 + xc 1)), none]) ⟨rfl, rfl, rfl, rfl, trivial⟩ ?_
  have ho := Option.some.inj h
  subst ho
  exact hK
noncomputable def fW_fewestBesides_131  (v4 : Int32) (μ : xM) : Option (Int32 × xM) := some ((v4, μ))
theorem fW_fewestBesides_131_ok {d : Nat} {v4 : Int32} {μ : xM} {rv : Option Value} {μf : xM} {out : Int32 × xM} (h : fW_fewestBesides_131 v4 μ = some out) (hK : fW_fewestBesides_K rv μf out) : xRun (d + 5) 125 131 [none, none, none, none, some (.int v4), none] [] μ rv μf := by
  unfold fW_fewestBesides_131 at h
  refine xr_go 1 (pc' := 133) (lo' := [none, none, none, none, some (.int v4), none]) (st' := [.int v4]) (μ' := μ) rfl ?_
  have ho := Option.some.inj h
  subst ho
  obtain ⟨rfl, rfl⟩ := hK
  exact xr_ret (rv := some (.int v4)) rfl rfl (Or.inl rfl)
noncomputable def fW_fewestBesides_115  (v0 : Nat) (v1 : Nat) (v3 : Int32) (v4 : Int32) (s0 : Int32) (μ : xM) : Option ((Int32 × xM) ⊕ ((Int32 × xM) ⊕ (Int32 × xM))) := if s0 = 0 then (fW_fewestBesides_134 v0 v1 v3 v4 μ) else ((fW_settles v0 v4 μ).bind fun r1 => if r1.1 = 0 then (fW_fewestBesides_134 v0 v1 v3 v4 r1.2) else ((fW_fewestBesides_131 v4 r1.2).map (fun o => .inr (.inr o))))
theorem fW_fewestBesides_115_ok {d : Nat} {v0 : Nat} {v1 : Nat} {v3 : Int32} {v4 : Int32} {s0 : Int32} {μ : xM} {rv : Option Value} {μf : xM} {out : (Int32 × xM) ⊕ ((Int32 × xM) ⊕ (Int32 × xM))} (h : fW_fewestBesides_115 v0 v1 v3 v4 s0 μ = some out) (hK : fW_fewestBesides_K80 v0 v1 v3 d rv μf out) : xRun (d + 5) 125 115 [some (.ref v0), some (.ref v1), none, some (.int v3), some (.int v4), none] [.int s0] μ rv μf := by
  unfold fW_fewestBesides_115 at h
  refine xr_go 2 (pc' := 119) (lo' := [some (.ref v0), some (.ref v1), none, some (.int v3), some (.int v4), some (.int s0)]) (st' := [.int s0]) (μ' := μ) rfl ?_
  refine xr_ifc (pct := 134) rfl rfl rfl (fun hc => ?_) (fun hc => ?_)
  · replace h := (if_pos (of_decide_eq_true hc)).symm.trans h
    refine xr_forget (lo := [some (.ref v0), some (.ref v1), none, some (.int v3), some (.int v4), none]) ⟨rfl, rfl, rfl, rfl, trivial⟩ ?_
    exact fW_fewestBesides_134_ok h hK
  · replace h := (if_neg (of_decide_eq_false hc)).symm.trans h
    refine xr_go 2 (pc' := 125) (lo' := [some (.ref v0), some (.ref v1), none, some (.int v3), some (.int v4), some (.int s0)]) (st' := [.int v4, .ref v0]) (μ' := μ) rfl ?_
    obtain ⟨r1, hr1, h⟩ := Option.bind_eq_some_iff.mp h
    refine xr_callV (j := 126) (d' := (d + 4)) (rv1 := some (.int r1.1)) (μ1 := r1.2) (rest := []) (As := [.int v4]) rfl rfl rfl rfl (Nat.le_of_ble_eq_true rfl) (fW_settles_kd hr1) rfl (by exact (fW_settles_ok (d := d + (3)) hr1)) ?_
    refine xr_ifc (pct := 134) rfl rfl rfl (fun hc => ?_) (fun hc => ?_)
    · replace h := (if_pos (of_decide_eq_true hc)).symm.trans h
      refine xr_forget (lo := [some (.ref v0), some (.ref v1), none, some (.int v3), some (.int v4), none]) ⟨rfl, rfl, rfl, rfl, trivial⟩ ?_
      exact fW_fewestBesides_134_ok h hK
    · replace h := (if_neg (of_decide_eq_false hc)).symm.trans h
      refine xr_forget (lo := [none, none, none, none, some (.int v4), none]) ⟨rfl, trivial⟩ ?_
      obtain ⟨o, h2, rfl⟩ := Option.map_eq_some_iff.mp h
      exact fW_fewestBesides_131_ok h2 hK
noncomputable def fW_fewestBesides_114  (v0 : Nat) (v1 : Nat) (v3 : Int32) (v4 : Int32) (μ : xM) : Option ((Int32 × xM) ⊕ ((Int32 × xM) ⊕ (Int32 × xM))) := fW_fewestBesides_115 v0 v1 v3 v4 (xc 0) μ
theorem fW_fewestBesides_114_ok {d : Nat} {v0 : Nat} {v1 : Nat} {v3 : Int32} {v4 : Int32} {μ : xM} {rv : Option Value} {μf : xM} {out : (Int32 × xM) ⊕ ((Int32 × xM) ⊕ (Int32 × xM))} (h : fW_fewestBesides_114 v0 v1 v3 v4 μ = some out) (hK : fW_fewestBesides_K80 v0 v1 v3 d rv μf out) : xRun (d + 5) 125 114 [some (.ref v0), some (.ref v1), none, some (.int v3), some (.int v4), none] [] μ rv μf := by
  unfold fW_fewestBesides_114 at h
  refine xr_go 1 (pc' := 115) (lo' := [some (.ref v0), some (.ref v1), none, some (.int v3), some (.int v4), none]) (st' := [.int (xc 0)]) (μ' := μ) rfl ?_
  refine xr_forget (lo := [some (.ref v0), some (.ref v1), none, some (.int v3), some (.int v4), none]) ⟨rfl, rfl, rfl, rfl, trivial⟩ ?_
  exact fW_fewestBesides_115_ok h hK
noncomputable def fW_fewestBesides_L80  (v0 : Nat) (v1 : Nat) (v3 : Int32) (v4 : Int32) (μ : xM) : Option ((Int32 × xM) ⊕ ((Int32 × xM) ⊕ (Int32 × xM))) := (ldF μ v1 3 3).bind fun x2 => if ((xc 1) <<< (x2 &&& 31)) ≤ v4 then ((fW_fewestBesides_140 v0 v1 v3 μ).map (fun o => .inr o)) else ((fJI_bitCount v4 μ).bind fun r3 => if r3 = v3 then ((ldF μ v1 3 4).bind fun x4 => if (v4 &&& x4) = 0 then (fW_fewestBesides_115 v0 v1 v3 v4 (xc 1) μ) else (fW_fewestBesides_114 v0 v1 v3 v4 μ)) else (fW_fewestBesides_114 v0 v1 v3 v4 μ))
theorem fW_fewestBesides_L80_ok {d : Nat} {v0 : Nat} {v1 : Nat} {v3 : Int32} {v4 : Int32} {μ : xM} {rv : Option Value} {μf : xM} {out : (Int32 × xM) ⊕ ((Int32 × xM) ⊕ (Int32 × xM))} (h : fW_fewestBesides_L80 v0 v1 v3 v4 μ = some out) (hK : fW_fewestBesides_K80 v0 v1 v3 d rv μf out) : xRun (d + 5) 125 80 [some (.ref v0), some (.ref v1), none, some (.int v3), some (.int v4), none] [] μ rv μf := by
  unfold fW_fewestBesides_L80 at h
  refine xr_go 3 (pc' := 84) (lo' := [some (.ref v0), some (.ref v1), none, some (.int v3), some (.int v4), none]) (st' := [.ref v1, .int (xc 1), .int v4]) (μ' := μ) rfl ?_
  obtain ⟨x2, hx2, h⟩ := Option.bind_eq_some_iff.mp h
  refine xr_opI (pc' := 87) (lo' := [some (.ref v0), some (.ref v1), none, some (.int v3), some (.int v4), none]) (st' := [.int (xc 1), .int v4]) (o := ldF μ v1 3 3) rfl hx2 ?_
  refine xr_go 1 (pc' := 88) (lo' := [some (.ref v0), some (.ref v1), none, some (.int v3), some (.int v4), none]) (st' := [.int ((xc 1) <<< (x2 &&& 31)), .int v4]) (μ' := μ) rfl ?_
  refine xr_icmp (pct := 140) rfl rfl rfl (fun hc => ?_) (fun hc => ?_)
  · replace h := (if_pos (of_decide_eq_true hc)).symm.trans h
    refine xr_forget (lo := [some (.ref v0), some (.ref v1), none, some (.int v3), none, none]) ⟨rfl, rfl, rfl, trivial⟩ ?_
    obtain ⟨o, h2, rfl⟩ := Option.map_eq_some_iff.mp h
    exact fW_fewestBesides_140_ok h2 hK
  · replace h := (if_neg (of_decide_eq_false hc)).symm.trans h
    refine xr_go 1 (pc' := 93) (lo' := [some (.ref v0), some (.ref v1), none, some (.int v3), some (.int v4), none]) (st' := [.int v4]) (μ' := μ) rfl ?_
    obtain ⟨r3, hr3, h⟩ := Option.bind_eq_some_iff.mp h
    refine xr_callS (j := 221) (d' := (d + 4)) (rv1 := some (.int r3)) (μ1 := μ) (rest := []) (As := [.int v4]) rfl rfl rfl rfl (Nat.le_of_ble_eq_true rfl) rfl (by exact (fJI_bitCount_ok (d := d + (4)) hr3)) ?_
    refine xr_go 1 (pc' := 97) (lo' := [some (.ref v0), some (.ref v1), none, some (.int v3), some (.int v4), none]) (st' := [.int v3, .int r3]) (μ' := μ) rfl ?_
    refine xr_icmp (pct := 114) rfl rfl rfl (fun hc => ?_) (fun hc => ?_)
    · replace h := (if_neg (of_decide_eq_true hc)).symm.trans h
      refine xr_forget (lo := [some (.ref v0), some (.ref v1), none, some (.int v3), some (.int v4), none]) ⟨rfl, rfl, rfl, rfl, trivial⟩ ?_
      exact fW_fewestBesides_114_ok h hK
    · replace h := (if_pos (Decidable.of_not_not (of_decide_eq_false hc))).symm.trans h
      refine xr_go 2 (pc' := 103) (lo' := [some (.ref v0), some (.ref v1), none, some (.int v3), some (.int v4), none]) (st' := [.ref v1, .int v4]) (μ' := μ) rfl ?_
      obtain ⟨x4, hx4, h⟩ := Option.bind_eq_some_iff.mp h
      refine xr_opI (pc' := 106) (lo' := [some (.ref v0), some (.ref v1), none, some (.int v3), some (.int v4), none]) (st' := [.int v4]) (o := ldF μ v1 3 4) rfl hx4 ?_
      refine xr_go 1 (pc' := 107) (lo' := [some (.ref v0), some (.ref v1), none, some (.int v3), some (.int v4), none]) (st' := [.int (v4 &&& x4)]) (μ' := μ) rfl ?_
      refine xr_ifc (pct := 114) rfl rfl rfl (fun hc => ?_) (fun hc => ?_)
      · replace h := (if_neg (of_decide_eq_true hc)).symm.trans h
        refine xr_forget (lo := [some (.ref v0), some (.ref v1), none, some (.int v3), some (.int v4), none]) ⟨rfl, rfl, rfl, rfl, trivial⟩ ?_
        exact fW_fewestBesides_114_ok h hK
      · replace h := (if_pos (Decidable.of_not_not (of_decide_eq_false hc))).symm.trans h
        refine xr_go 2 (pc' := 115) (lo' := [some (.ref v0), some (.ref v1), none, some (.int v3), some (.int v4), none]) (st' := [.int (xc 1)]) (μ' := μ) rfl ?_
        refine xr_forget (lo := [some (.ref v0), some (.ref v1), none, some (.int v3), some (.int v4), none]) ⟨rfl, rfl, rfl, rfl, trivial⟩ ?_
        exact fW_fewestBesides_115_ok h hK
theorem fW_fewestBesides_L80_lp {d : Nat} {v0 : Nat} {v1 : Nat} {v3 : Int32} {v4 : Int32} {μ : xM} {rv : Option Value} {μf : xM} {out : (Int32 × xM) ⊕ (Int32 × xM)} (h : xwh (fun s : Int32 × xM => fW_fewestBesides_L80 v0 v1 v3 s.1 s.2) (v4, μ) = some out) (hK : fW_fewestBesides_K69 v0 v1 d rv μf out) : xRun (d + 5) 125 80 [some (.ref v0), some (.ref v1), none, some (.int v3), some (.int v4), none] [] μ rv μf :=
  xwh_ind (Rh := fun s : Int32 × xM => xRun (d + 5) 125 80 [some (.ref v0), some (.ref v1), none, some (.int v3), some (.int s.1), none] [] s.2 rv μf) (Co := fW_fewestBesides_K69 v0 v1 d rv μf) (fun s o hb hk => fW_fewestBesides_L80_ok hb hk) h hK
noncomputable def fW_fewestBesides_L69  (v0 : Nat) (v1 : Nat) (v3 : Int32) (μ : xM) : Option ((Int32 × xM) ⊕ (Int32 × xM)) := (ldF μ v1 3 3).bind fun x5 => if x5 < v3 then ((fW_fewestBesides_146 μ).map (fun o => .inr o)) else (xwh (fun s : Int32 × xM => fW_fewestBesides_L80 v0 v1 v3 s.1 s.2) (xc 0, μ))
theorem fW_fewestBesides_L69_ok {d : Nat} {v0 : Nat} {v1 : Nat} {v3 : Int32} {μ : xM} {rv : Option Value} {μf : xM} {out : (Int32 × xM) ⊕ (Int32 × xM)} (h : fW_fewestBesides_L69 v0 v1 v3 μ = some out) (hK : fW_fewestBesides_K69 v0 v1 d rv μf out) : xRun (d + 5) 125 69 [some (.ref v0), some (.ref v1), none, some (.int v3), none, none] [] μ rv μf := by
  unfold fW_fewestBesides_L69 at h
  refine xr_go 2 (pc' := 71) (lo' := [some (.ref v0), some (.ref v1), none, some (.int v3), none, none]) (st' := [.ref v1, .int v3]) (μ' := μ) rfl ?_
  obtain ⟨x5, hx5, h⟩ := Option.bind_eq_some_iff.mp h
  refine xr_opI (pc' := 74) (lo' := [some (.ref v0), some (.ref v1), none, some (.int v3), none, none]) (st' := [.int v3]) (o := ldF μ v1 3 3) rfl hx5 ?_
  refine xr_icmp (pct := 146) rfl rfl rfl (fun hc => ?_) (fun hc => ?_)
  · replace h := (if_pos (of_decide_eq_true hc)).symm.trans h
    refine xr_forget (lo := [none, none, none, none, none, none]) trivial ?_
    obtain ⟨o, h2, rfl⟩ := Option.map_eq_some_iff.mp h
    exact fW_fewestBesides_146_ok h2 hK
  · replace h := (if_neg (of_decide_eq_false hc)).symm.trans h
    refine xr_go 2 (pc' := 80) (lo' := [some (.ref v0), some (.ref v1), none, some (.int v3), some (.int (xc 0)), none]) (st' := []) (μ' := μ) rfl ?_
    refine xr_forget (lo := [some (.ref v0), some (.ref v1), none, some (.int v3), some (.int (xc 0)), none]) ⟨rfl, rfl, rfl, rfl, trivial⟩ ?_
    exact fW_fewestBesides_L80_lp h hK
theorem fW_fewestBesides_L69_lp {d : Nat} {v0 : Nat} {v1 : Nat} {v3 : Int32} {μ : xM} {rv : Option Value} {μf : xM} {out : Int32 × xM} (h : xwh (fun s : Int32 × xM => fW_fewestBesides_L69 v0 v1 s.1 s.2) (v3, μ) = some out) (hK : fW_fewestBesides_K rv μf out) : xRun (d + 5) 125 69 [some (.ref v0), some (.ref v1), none, some (.int v3), none, none] [] μ rv μf :=
  xwh_ind (Rh := fun s : Int32 × xM => xRun (d + 5) 125 69 [some (.ref v0), some (.ref v1), none, some (.int s.1), none, none] [] s.2 rv μf) (Co := fW_fewestBesides_K rv μf) (fun s o hb hk => fW_fewestBesides_L69_ok hb hk) h hK
noncomputable def fW_fewestBesides_62  (v0 : Nat) (v1 : Nat) (v2 : Nat) (μ : xM) : Option (Int32 × xM) := (fW_spread v0 v2 μ).bind fun r6 => xwh (fun s : Int32 × xM => fW_fewestBesides_L69 v0 v1 s.1 s.2) (xc 0, r6)
theorem fW_fewestBesides_62_ok {d : Nat} {v0 : Nat} {v1 : Nat} {v2 : Nat} {μ : xM} {rv : Option Value} {μf : xM} {out : Int32 × xM} (h : fW_fewestBesides_62 v0 v1 v2 μ = some out) (hK : fW_fewestBesides_K rv μf out) : xRun (d + 5) 125 62 [some (.ref v0), some (.ref v1), some (.ref v2), none, none, none] [] μ rv μf := by
  unfold fW_fewestBesides_62 at h
  refine xr_go 2 (pc' := 64) (lo' := [some (.ref v0), some (.ref v1), some (.ref v2), none, none, none]) (st' := [.ref v2, .ref v0]) (μ' := μ) rfl ?_
  obtain ⟨r6, hr6, h⟩ := Option.bind_eq_some_iff.mp h
  refine xr_callV (j := 130) (d' := (d + 4)) (rv1 := none) (μ1 := r6) (rest := []) (As := [.ref v2]) rfl rfl rfl rfl (Nat.le_of_ble_eq_true rfl) (fW_spread_kd hr6) rfl (by exact (fW_spread_ok (d := d + (2)) hr6)) ?_
  refine xr_go 2 (pc' := 69) (lo' := [some (.ref v0), some (.ref v1), some (.ref v2), some (.int (xc 0)), none, none]) (st' := []) (μ' := r6) rfl ?_
  refine xr_forget (lo := [some (.ref v0), some (.ref v1), none, some (.int (xc 0)), none, none]) ⟨rfl, rfl, rfl, trivial⟩ ?_
  exact fW_fewestBesides_L69_lp h hK
noncomputable def fW_fewestBesides_L7  (v0 : Nat) (v1 : Nat) (v2 : Nat) (v3 : Int32) (μ : xM) : Option ((Int32 × xM) ⊕ (Int32 × xM)) := (ldF μ v1 3 3).bind fun x7 => if x7 ≤ v3 then ((fW_fewestBesides_62 v0 v1 v2 μ).map (fun o => .inr o)) else ((ldFR μ v0 8 1).bind fun x8 => (ldAR μ x8 v3).bind fun x9 => (fJA_fill x9 (Int64.ofNat 18446744073709551615) μ).bind fun r10 => (ldFR r10 v0 8 1).bind fun x11 => (ldAR r10 x11 v3).bind fun x12 => (ldFR r10 v1 3 9).bind fun x13 => (ldAR r10 x13 v3).bind fun x14 => (ldFR r10 v1 3 9).bind fun x15 => (ldAR r10 x15 v3).bind fun x16 => (ldF r10 v1 3 0).bind fun x17 => (fP_answerBy x16 x17 r10).bind fun r18 => (fW_keepAgreeing v0 x12 x14 r18 r10).bind fun r19 => some (.inl ((v3 + xc 1, r19))))
theorem fW_fewestBesides_L7_ok {d : Nat} {v0 : Nat} {v1 : Nat} {v2 : Nat} {v3 : Int32} {μ : xM} {rv : Option Value} {μf : xM} {out : (Int32 × xM) ⊕ (Int32 × xM)} (h : fW_fewestBesides_L7 v0 v1 v2 v3 μ = some out) (hK : fW_fewestBesides_K7 v0 v1 v2 d rv μf out) : xRun (d + 5) 125 7 [some (.ref v0), some (.ref v1), some (.ref v2), some (.int v3), none, none] [] μ rv μf := by
  unfold fW_fewestBesides_L7 at h
  refine xr_go 2 (pc' := 9) (lo' := [some (.ref v0), some (.ref v1), some (.ref v2), some (.int v3), none, none]) (st' := [.ref v1, .int v3]) (μ' := μ) rfl ?_
  obtain ⟨x7, hx7, h⟩ := Option.bind_eq_some_iff.mp h
  refine xr_opI (pc' := 12) (lo' := [some (.ref v0), some (.ref v1), some (.ref v2), some (.int v3), none, none]) (st' := [.int v3]) (o := ldF μ v1 3 3) rfl hx7 ?_
  refine xr_icmp (pct := 62) rfl rfl rfl (fun hc => ?_) (fun hc => ?_)
  · replace h := (if_pos (of_decide_eq_true hc)).symm.trans h
    refine xr_forget (lo := [some (.ref v0), some (.ref v1), some (.ref v2), none, none, none]) ⟨rfl, rfl, rfl, trivial⟩ ?_
    obtain ⟨o, h2, rfl⟩ := Option.map_eq_some_iff.mp h
    exact fW_fewestBesides_62_ok h2 hK
  · replace h := (if_neg (of_decide_eq_false hc)).symm.trans h
    refine xr_go 1 (pc' := 16) (lo' := [some (.ref v0), some (.ref v1), some (.ref v2), some (.int v3), none, none]) (st' := [.ref v0]) (μ' := μ) rfl ?_
    obtain ⟨x8, hx8, h⟩ := Option.bind_eq_some_iff.mp h
    refine xr_opA (pc' := 19) (lo' := [some (.ref v0), some (.ref v1), some (.ref v2), some (.int v3), none, none]) (st' := []) (o := ldFR μ v0 8 1) rfl hx8 ?_
    refine xr_go 1 (pc' := 20) (lo' := [some (.ref v0), some (.ref v1), some (.ref v2), some (.int v3), none, none]) (st' := [.int v3, .ref x8]) (μ' := μ) rfl ?_
    obtain ⟨x9, hx9, h⟩ := Option.bind_eq_some_iff.mp h
    refine xr_opA (pc' := 21) (lo' := [some (.ref v0), some (.ref v1), some (.ref v2), some (.int v3), none, none]) (st' := []) (o := ldAR μ x8 v3) rfl hx9 ?_
    refine xr_go 1 (pc' := 24) (lo' := [some (.ref v0), some (.ref v1), some (.ref v2), some (.int v3), none, none]) (st' := [.long (Int64.ofNat 18446744073709551615), .ref x9]) (μ' := μ) rfl ?_
    obtain ⟨r10, hr10, h⟩ := Option.bind_eq_some_iff.mp h
    refine xr_callS (j := 225) (d' := (d + 4)) (rv1 := none) (μ1 := r10) (rest := []) (As := [.ref x9, .long (Int64.ofNat 18446744073709551615)]) rfl rfl rfl rfl (Nat.le_of_ble_eq_true rfl) rfl (by exact (fJA_fill_ok (d := d + (4)) hr10)) ?_
    refine xr_go 2 (pc' := 29) (lo' := [some (.ref v0), some (.ref v1), some (.ref v2), some (.int v3), none, none]) (st' := [.ref v0, .ref v0]) (μ' := r10) rfl ?_
    obtain ⟨x11, hx11, h⟩ := Option.bind_eq_some_iff.mp h
    refine xr_opA (pc' := 32) (lo' := [some (.ref v0), some (.ref v1), some (.ref v2), some (.int v3), none, none]) (st' := [.ref v0]) (o := ldFR r10 v0 8 1) rfl hx11 ?_
    refine xr_go 1 (pc' := 33) (lo' := [some (.ref v0), some (.ref v1), some (.ref v2), some (.int v3), none, none]) (st' := [.int v3, .ref x11, .ref v0]) (μ' := r10) rfl ?_
    obtain ⟨x12, hx12, h⟩ := Option.bind_eq_some_iff.mp h
    refine xr_opA (pc' := 34) (lo' := [some (.ref v0), some (.ref v1), some (.ref v2), some (.int v3), none, none]) (st' := [.ref v0]) (o := ldAR r10 x11 v3) rfl hx12 ?_
    refine xr_go 1 (pc' := 35) (lo' := [some (.ref v0), some (.ref v1), some (.ref v2), some (.int v3), none, none]) (st' := [.ref v1, .ref x12, .ref v0]) (μ' := r10) rfl ?_
    obtain ⟨x13, hx13, h⟩ := Option.bind_eq_some_iff.mp h
    refine xr_opA (pc' := 38) (lo' := [some (.ref v0), some (.ref v1), some (.ref v2), some (.int v3), none, none]) (st' := [.ref x12, .ref v0]) (o := ldFR r10 v1 3 9) rfl hx13 ?_
    refine xr_go 1 (pc' := 39) (lo' := [some (.ref v0), some (.ref v1), some (.ref v2), some (.int v3), none, none]) (st' := [.int v3, .ref x13, .ref x12, .ref v0]) (μ' := r10) rfl ?_
    obtain ⟨x14, hx14, h⟩ := Option.bind_eq_some_iff.mp h
    refine xr_opA (pc' := 40) (lo' := [some (.ref v0), some (.ref v1), some (.ref v2), some (.int v3), none, none]) (st' := [.ref x12, .ref v0]) (o := ldAR r10 x13 v3) rfl hx14 ?_
    refine xr_go 1 (pc' := 41) (lo' := [some (.ref v0), some (.ref v1), some (.ref v2), some (.int v3), none, none]) (st' := [.ref v1, .ref x14, .ref x12, .ref v0]) (μ' := r10) rfl ?_
    obtain ⟨x15, hx15, h⟩ := Option.bind_eq_some_iff.mp h
    refine xr_opA (pc' := 44) (lo' := [some (.ref v0), some (.ref v1), some (.ref v2), some (.int v3), none, none]) (st' := [.ref x14, .ref x12, .ref v0]) (o := ldFR r10 v1 3 9) rfl hx15 ?_
    refine xr_go 1 (pc' := 45) (lo' := [some (.ref v0), some (.ref v1), some (.ref v2), some (.int v3), none, none]) (st' := [.int v3, .ref x15, .ref x14, .ref x12, .ref v0]) (μ' := r10) rfl ?_
    obtain ⟨x16, hx16, h⟩ := Option.bind_eq_some_iff.mp h
    refine xr_opA (pc' := 46) (lo' := [some (.ref v0), some (.ref v1), some (.ref v2), some (.int v3), none, none]) (st' := [.ref x14, .ref x12, .ref v0]) (o := ldAR r10 x15 v3) rfl hx16 ?_
    refine xr_go 1 (pc' := 47) (lo' := [some (.ref v0), some (.ref v1), some (.ref v2), some (.int v3), none, none]) (st' := [.ref v1, .ref x16, .ref x14, .ref x12, .ref v0]) (μ' := r10) rfl ?_
    obtain ⟨x17, hx17, h⟩ := Option.bind_eq_some_iff.mp h
    refine xr_opI (pc' := 50) (lo' := [some (.ref v0), some (.ref v1), some (.ref v2), some (.int v3), none, none]) (st' := [.ref x16, .ref x14, .ref x12, .ref v0]) (o := ldF r10 v1 3 0) rfl hx17 ?_
    obtain ⟨r18, hr18, h⟩ := Option.bind_eq_some_iff.mp h
    refine xr_callV (j := 85) (d' := (d + 4)) (rv1 := some (.int r18)) (μ1 := r10) (rest := [.ref x14, .ref x12, .ref v0]) (As := [.int x17]) rfl rfl rfl rfl (Nat.le_of_ble_eq_true rfl) (fP_answerBy_kd hr18) rfl (by exact (fP_answerBy_ok (d := d + (2)) hr18)) ?_
    obtain ⟨r19, hr19, h⟩ := Option.bind_eq_some_iff.mp h
    refine xr_callV (j := 129) (d' := (d + 4)) (rv1 := none) (μ1 := r19) (rest := []) (As := [.ref x12, .ref x14, .int r18]) rfl rfl rfl rfl (Nat.le_of_ble_eq_true rfl) (fW_keepAgreeing_kd hr19) rfl (by exact (fW_keepAgreeing_ok (d := d + (1)) hr19)) ?_
    refine xr_go 2 (pc' := 7) (lo' := [some (.ref v0), some (.ref v1), some (.ref v2), some (.int (v3 + xc 1)), none, none]) (st' := []) (μ' := r19) rfl ?_
    refine xr_forget (lo := [some (.ref v0), some (.ref v1), some (.ref v2), some (.int (v3 + xc 1)), none, none]) ⟨rfl, rfl, rfl, rfl, trivial⟩ ?_
    have ho := Option.some.inj h
    subst ho
    exact hK
theorem fW_fewestBesides_L7_lp {d : Nat} {v0 : Nat} {v1 : Nat} {v2 : Nat} {v3 : Int32} {μ : xM} {rv : Option Value} {μf : xM} {out : Int32 × xM} (h : xwh (fun s : Int32 × xM => fW_fewestBesides_L7 v0 v1 v2 s.1 s.2) (v3, μ) = some out) (hK : fW_fewestBesides_K rv μf out) : xRun (d + 5) 125 7 [some (.ref v0), some (.ref v1), some (.ref v2), some (.int v3), none, none] [] μ rv μf :=
  xwh_ind (Rh := fun s : Int32 × xM => xRun (d + 5) 125 7 [some (.ref v0), some (.ref v1), some (.ref v2), some (.int s.1), none, none] [] s.2 rv μf) (Co := fW_fewestBesides_K rv μf) (fun s o hb hk => fW_fewestBesides_L7_ok hb hk) h hK
noncomputable def fW_fewestBesides_0  (v0 : Nat) (v1 : Nat) (v2 : Nat) (μ : xM) : Option (Int32 × xM) := (fW_findOpen v0 v1 μ).bind fun r20 => xwh (fun s : Int32 × xM => fW_fewestBesides_L7 v0 v1 v2 s.1 s.2) (xc 0, r20)
theorem fW_fewestBesides_0_ok {d : Nat} {v0 : Nat} {v1 : Nat} {v2 : Nat} {μ : xM} {rv : Option Value} {μf : xM} {out : Int32 × xM} (h : fW_fewestBesides_0 v0 v1 v2 μ = some out) (hK : fW_fewestBesides_K rv μf out) : xRun (d + 5) 125 0 [some (.ref v0), some (.ref v1), some (.ref v2), none, none, none] [] μ rv μf := by
  unfold fW_fewestBesides_0 at h
  refine xr_go 2 (pc' := 2) (lo' := [some (.ref v0), some (.ref v1), some (.ref v2), none, none, none]) (st' := [.ref v1, .ref v0]) (μ' := μ) rfl ?_
  obtain ⟨r20, hr20, h⟩ := Option.bind_eq_some_iff.mp h
  refine xr_callV (j := 127) (d' := (d + 4)) (rv1 := none) (μ1 := r20) (rest := []) (As := [.ref v1]) rfl rfl rfl rfl (Nat.le_of_ble_eq_true rfl) (fW_findOpen_kd hr20) rfl (by exact (fW_findOpen_ok (d := d + (0)) hr20)) ?_
  refine xr_go 2 (pc' := 7) (lo' := [some (.ref v0), some (.ref v1), some (.ref v2), some (.int (xc 0)), none, none]) (st' := []) (μ' := r20) rfl ?_
  refine xr_forget (lo := [some (.ref v0), some (.ref v1), some (.ref v2), some (.int (xc 0)), none, none]) ⟨rfl, rfl, rfl, rfl, trivial⟩ ?_
  exact fW_fewestBesides_L7_lp h hK
noncomputable def fW_fewestBesides (a0 : Nat) (a1 : Nat) (a2 : Nat) (μ : xM) : Option (Int32 × xM) := xgd μ a0 8 (fW_fewestBesides_0 a0 a1 a2 μ)
theorem fW_fewestBesides_kd {a0 : Nat} {a1 : Nat} {a2 : Nat} {μ : xM} {o : Int32 × xM} (h : fW_fewestBesides a0 a1 a2 μ = some o) : (xK μ a0).1 = 10 + 8 := (xgd_some h).1
theorem fW_fewestBesides_ok {d : Nat} {a0 : Nat} {a1 : Nat} {a2 : Nat} {μ : xM} {o : Int32 × xM} (h : fW_fewestBesides a0 a1 a2 μ = some o) : xRun (d + 5) 125 0 [some (.ref a0), some (.ref a1), some (.ref a2), none, none, none] [] μ (some (.int o.1)) o.2 :=
  xr_forget (lo := [some (.ref a0), some (.ref a1), some (.ref a2), none, none, none]) (⟨rfl, rfl, rfl, trivial⟩) (fW_fewestBesides_0_ok (d := d) (xgd_some h).2 (show fW_fewestBesides_K _ _ o from ⟨rfl, rfl⟩))
-- KeptAnswers.besides(I)I 
def fX_besides_K (rv : Option Value) (μf : xM) : (Int32 × xM) → Prop := fun o => rv = some (.int o.1) ∧ μf = o.2
noncomputable def fX_besides_0  (v0 : Nat) (v1 : Int32) (μ : xM) : Option (Int32 × xM) := (fX_isAsk v0 v1 μ).bind fun r1 => if r1 = 0 then ((fX_refuse v0 (xc (-1)) μ).bind fun r2 => some ((r2.1, r2.2))) else ((ldFR μ v0 0 8).bind fun x3 => (ldFR μ v0 0 0).bind fun x4 => (ldFR μ v0 0 0).bind fun x5 => (ldFR μ x5 3 8).bind fun x6 => (ldAR μ x6 v1).bind fun x7 => (fW_fewestBesides x3 x4 x7 μ).bind fun r8 => some ((r8.1, r8.2)))
theorem fX_besides_0_ok {d : Nat} {v0 : Nat} {v1 : Int32} {μ : xM} {rv : Option Value} {μf : xM} {out : Int32 × xM} (h : fX_besides_0 v0 v1 μ = some out) (hK : fX_besides_K rv μf out) : xRun (d + 6) 24 0 [some (.ref v0), some (.int v1)] [] μ rv μf := by
  unfold fX_besides_0 at h
  refine xr_go 2 (pc' := 2) (lo' := [some (.ref v0), some (.int v1)]) (st' := [.int v1, .ref v0]) (μ' := μ) rfl ?_
  obtain ⟨r1, hr1, h⟩ := Option.bind_eq_some_iff.mp h
  refine xr_callV (j := 39) (d' := (d + 5)) (rv1 := some (.int r1)) (μ1 := μ) (rest := []) (As := [.int v1]) rfl rfl rfl rfl (Nat.le_of_ble_eq_true rfl) (fX_isAsk_kd hr1) rfl (by exact (fX_isAsk_ok (d := d + (5)) hr1)) ?_
  refine xr_ifc (pct := 31) rfl rfl rfl (fun hc => ?_) (fun hc => ?_)
  · replace h := (if_pos (of_decide_eq_true hc)).symm.trans h
    refine xr_go 2 (pc' := 33) (lo' := [some (.ref v0), some (.int v1)]) (st' := [.int (xc (-1)), .ref v0]) (μ' := μ) rfl ?_
    obtain ⟨r2, hr2, h⟩ := Option.bind_eq_some_iff.mp h
    refine xr_callV (j := 37) (d' := (d + 5)) (rv1 := some (.int r2.1)) (μ1 := r2.2) (rest := []) (As := [.int (xc (-1))]) rfl rfl rfl rfl (Nat.le_of_ble_eq_true rfl) (fX_refuse_kd hr2) rfl (by exact (fX_refuse_ok (d := d + (5)) hr2)) ?_
    have ho := Option.some.inj h
    subst ho
    obtain ⟨rfl, rfl⟩ := hK
    exact xr_ret (rv := some (.int r2.1)) rfl rfl (Or.inl rfl)
  · replace h := (if_neg (of_decide_eq_false hc)).symm.trans h
    refine xr_go 1 (pc' := 9) (lo' := [some (.ref v0), some (.int v1)]) (st' := [.ref v0]) (μ' := μ) rfl ?_
    obtain ⟨x3, hx3, h⟩ := Option.bind_eq_some_iff.mp h
    refine xr_opA (pc' := 12) (lo' := [some (.ref v0), some (.int v1)]) (st' := []) (o := ldFR μ v0 0 8) rfl hx3 ?_
    refine xr_go 1 (pc' := 13) (lo' := [some (.ref v0), some (.int v1)]) (st' := [.ref v0, .ref x3]) (μ' := μ) rfl ?_
    obtain ⟨x4, hx4, h⟩ := Option.bind_eq_some_iff.mp h
    refine xr_opA (pc' := 16) (lo' := [some (.ref v0), some (.int v1)]) (st' := [.ref x3]) (o := ldFR μ v0 0 0) rfl hx4 ?_
    refine xr_go 1 (pc' := 17) (lo' := [some (.ref v0), some (.int v1)]) (st' := [.ref v0, .ref x4, .ref x3]) (μ' := μ) rfl ?_
    obtain ⟨x5, hx5, h⟩ := Option.bind_eq_some_iff.mp h
    refine xr_opA (pc' := 20) (lo' := [some (.ref v0), some (.int v1)]) (st' := [.ref x4, .ref x3]) (o := ldFR μ v0 0 0) rfl hx5 ?_
    obtain ⟨x6, hx6, h⟩ := Option.bind_eq_some_iff.mp h
    refine xr_opA (pc' := 23) (lo' := [some (.ref v0), some (.int v1)]) (st' := [.ref x4, .ref x3]) (o := ldFR μ x5 3 8) rfl hx6 ?_
    refine xr_go 1 (pc' := 24) (lo' := [some (.ref v0), some (.int v1)]) (st' := [.int v1, .ref x6, .ref x4, .ref x3]) (μ' := μ) rfl ?_
    obtain ⟨x7, hx7, h⟩ := Option.bind_eq_some_iff.mp h
    refine xr_opA (pc' := 25) (lo' := [some (.ref v0), some (.int v1)]) (st' := [.ref x4, .ref x3]) (o := ldAR μ x6 v1) rfl hx7 ?_
    obtain ⟨r8, hr8, h⟩ := Option.bind_eq_some_iff.mp h
    refine xr_callV (j := 125) (d' := (d + 5)) (rv1 := some (.int r8.1)) (μ1 := r8.2) (rest := []) (As := [.ref x4, .ref x7]) rfl rfl rfl rfl (Nat.le_of_ble_eq_true rfl) (fW_fewestBesides_kd hr8) rfl (by exact (fW_fewestBesides_ok (d := d + (0)) hr8)) ?_
    refine xr_go 1 (pc' := 36) (lo' := [some (.ref v0), some (.int v1)]) (st' := [.int r8.1]) (μ' := r8.2) rfl ?_
    have ho := Option.some.inj h
    subst ho
    obtain ⟨rfl, rfl⟩ := hK
    exact xr_ret (rv := some (.int r8.1)) rfl rfl (Or.inl rfl)
noncomputable def fX_besides (a0 : Nat) (a1 : Int32) (μ : xM) : Option (Int32 × xM) := xgd μ a0 0 (fX_besides_0 a0 a1 μ)
theorem fX_besides_kd {a0 : Nat} {a1 : Int32} {μ : xM} {o : Int32 × xM} (h : fX_besides a0 a1 μ = some o) : (xK μ a0).1 = 10 + 0 := (xgd_some h).1
theorem fX_besides_ok {d : Nat} {a0 : Nat} {a1 : Int32} {μ : xM} {o : Int32 × xM} (h : fX_besides a0 a1 μ = some o) : xRun (d + 6) 24 0 [some (.ref a0), some (.int a1)] [] μ (some (.int o.1)) o.2 :=
  xr_forget (lo := [some (.ref a0), some (.int a1)]) (⟨rfl, rfl, trivial⟩) (fX_besides_0_ok (d := d) (xgd_some h).2 (show fX_besides_K _ _ o from ⟨rfl, rfl⟩))
-- KeptAnswersModel.isSettled(I)Z 
def fM_isSettled_K (μ : xM) (rv : Option Value) (μf : xM) : (Int32) → Prop := fun o => rv = some (.int o) ∧ μf = μ
def fM_isSettled_K4 (v0 : Nat) (v1 : Int32) (μ : xM) (d : Nat) (rv : Option Value) (μf : xM) : ((Int32 × Int32) ⊕ (Int32)) → Prop := Sum.elim (fun s : Int32 × Int32 => xRun (d + 0) 202 4 [some (.ref v0), some (.int v1), some (.int s.1), some (.int s.2), none, none] [] μ rv μf) (fM_isSettled_K μ rv μf)
def fM_isSettled_K22 (v0 : Nat) (v1 : Int32) (v2 : Int32) (v3 : Int32) (μ : xM) (d : Nat) (rv : Option Value) (μf : xM) : ((Int32 × Int32) ⊕ ((Int32 × Int32) ⊕ (Int32))) → Prop := Sum.elim (fun s : Int32 × Int32 => xRun (d + 0) 202 22 [some (.ref v0), some (.int v1), some (.int v2), some (.int v3), some (.int s.1), some (.int s.2)] [] μ rv μf) (fM_isSettled_K4 v0 v1 μ d rv μf)
noncomputable def fM_isSettled_108  (v2 : Int32) (μ : xM) : Option (Int32) := if v2 < 0 then (some (xc 0)) else (some (xc 1))
theorem fM_isSettled_108_ok {d : Nat} {v2 : Int32} {μ : xM} {rv : Option Value} {μf : xM} {out : Int32} (h : fM_isSettled_108 v2 μ = some out) (hK : fM_isSettled_K μ rv μf out) : xRun (d + 0) 202 108 [none, none, some (.int v2), none, none, none] [] μ rv μf := by
  unfold fM_isSettled_108 at h
  refine xr_go 1 (pc' := 109) (lo' := [none, none, some (.int v2), none, none, none]) (st' := [.int v2]) (μ' := μ) rfl ?_
  refine xr_ifc (pct := 116) rfl rfl rfl (fun hc => ?_) (fun hc => ?_)
  · replace h := (if_pos (of_decide_eq_true hc)).symm.trans h
    refine xr_go 1 (pc' := 117) (lo' := [none, none, some (.int v2), none, none, none]) (st' := [.int (xc 0)]) (μ' := μ) rfl ?_
    have ho := Option.some.inj h
    subst ho
    obtain ⟨rfl, rfl⟩ := hK
    exact xr_ret (rv := some (.int (xc 0))) rfl rfl (Or.inr ⟨rfl, Or.inl rfl⟩)
  · replace h := (if_neg (of_decide_eq_false hc)).symm.trans h
    refine xr_go 2 (pc' := 117) (lo' := [none, none, some (.int v2), none, none, none]) (st' := [.int (xc 1)]) (μ' := μ) rfl ?_
    have ho := Option.some.inj h
    subst ho
    obtain ⟨rfl, rfl⟩ := hK
    exact xr_ret (rv := some (.int (xc 1))) rfl rfl (Or.inr ⟨rfl, Or.inr rfl⟩)
noncomputable def fM_isSettled_102  (v0 : Nat) (v1 : Int32) (v2 : Int32) (v3 : Int32) (μ : xM) : Option ((Int32 × Int32) ⊕ (Int32)) := some (.inl ((v2, v3 + xc 1)))
theorem fM_isSettled_102_ok {d : Nat} {v0 : Nat} {v1 : Int32} {v2 : Int32} {v3 : Int32} {μ : xM} {rv : Option Value} {μf : xM} {out : (Int32 × Int32) ⊕ (Int32)} (h : fM_isSettled_102 v0 v1 v2 v3 μ = some out) (hK : fM_isSettled_K4 v0 v1 μ d rv μf out) : xRun (d + 0) 202 102 [some (.ref v0), some (.int v1), some (.int v2), some (.int v3), none, none] [] μ rv μf := by
  unfold fM_isSettled_102 at h
  refine xr_go 2 (pc' := 4) (lo' := [some (.ref v0), some (.int v1), some (.int v2), some (.int (v3 + xc 1)), none, none]) (st' := []) (μ' := μ) rfl ?_
  refine xr_forget (lo := [some (.ref v0), some (.int v1), some (.int v2), some (.int (v3 + xc 1)), none, none]) ⟨rfl, rfl, rfl, rfl, trivial⟩ ?_
  have ho := Option.some.inj h
  subst ho
  exact hK
noncomputable def fM_isSettled_95  (v0 : Nat) (v1 : Int32) (v3 : Int32) (μ : xM) : Option ((Int32 × Int32) ⊕ (Int32)) := (ldFR μ v0 9 58).bind fun x1 => (ldA μ x1 v3).bind fun x2 => fM_isSettled_102 v0 v1 x2 v3 μ
theorem fM_isSettled_95_ok {d : Nat} {v0 : Nat} {v1 : Int32} {v3 : Int32} {μ : xM} {rv : Option Value} {μf : xM} {out : (Int32 × Int32) ⊕ (Int32)} (h : fM_isSettled_95 v0 v1 v3 μ = some out) (hK : fM_isSettled_K4 v0 v1 μ d rv μf out) : xRun (d + 0) 202 95 [some (.ref v0), some (.int v1), none, some (.int v3), none, none] [] μ rv μf := by
  unfold fM_isSettled_95 at h
  refine xr_go 1 (pc' := 96) (lo' := [some (.ref v0), some (.int v1), none, some (.int v3), none, none]) (st' := [.ref v0]) (μ' := μ) rfl ?_
  obtain ⟨x1, hx1, h⟩ := Option.bind_eq_some_iff.mp h
  refine xr_opA (pc' := 99) (lo' := [some (.ref v0), some (.int v1), none, some (.int v3), none, none]) (st' := []) (o := ldFR μ v0 9 58) rfl hx1 ?_
  refine xr_go 1 (pc' := 100) (lo' := [some (.ref v0), some (.int v1), none, some (.int v3), none, none]) (st' := [.int v3, .ref x1]) (μ' := μ) rfl ?_
  obtain ⟨x2, hx2, h⟩ := Option.bind_eq_some_iff.mp h
  refine xr_opI (pc' := 101) (lo' := [some (.ref v0), some (.int v1), none, some (.int v3), none, none]) (st' := []) (o := ldA μ x1 v3) rfl hx2 ?_
  refine xr_go 1 (pc' := 102) (lo' := [some (.ref v0), some (.int v1), some (.int x2), some (.int v3), none, none]) (st' := []) (μ' := μ) rfl ?_
  refine xr_forget (lo := [some (.ref v0), some (.int v1), some (.int x2), some (.int v3), none, none]) ⟨rfl, rfl, rfl, rfl, trivial⟩ ?_
  exact fM_isSettled_102_ok h hK
noncomputable def fM_isSettled_93  (μ : xM) : Option (Int32) := some (xc 0)
theorem fM_isSettled_93_ok {d : Nat} {μ : xM} {rv : Option Value} {μf : xM} {out : Int32} (h : fM_isSettled_93 μ = some out) (hK : fM_isSettled_K μ rv μf out) : xRun (d + 0) 202 93 [none, none, none, none, none, none] [] μ rv μf := by
  unfold fM_isSettled_93 at h
  refine xr_go 1 (pc' := 94) (lo' := [none, none, none, none, none, none]) (st' := [.int (xc 0)]) (μ' := μ) rfl ?_
  have ho := Option.some.inj h
  subst ho
  obtain ⟨rfl, rfl⟩ := hK
  exact xr_ret (rv := some (.int (xc 0))) rfl rfl (Or.inr ⟨rfl, Or.inl rfl⟩)
noncomputable def fM_isSettled_74  (v0 : Nat) (v1 : Int32) (v2 : Int32) (v3 : Int32) (v4 : Int32) (μ : xM) : Option ((Int32 × Int32) ⊕ (Int32)) := if v4 = 0 then (fM_isSettled_102 v0 v1 v2 v3 μ) else (if v2 < 0 then (fM_isSettled_95 v0 v1 v3 μ) else ((ldFR μ v0 9 58).bind fun x3 => (ldA μ x3 v3).bind fun x4 => if x4 = v2 then (fM_isSettled_95 v0 v1 v3 μ) else ((fM_isSettled_93 μ).map (fun o => .inr o))))
theorem fM_isSettled_74_ok {d : Nat} {v0 : Nat} {v1 : Int32} {v2 : Int32} {v3 : Int32} {v4 : Int32} {μ : xM} {rv : Option Value} {μf : xM} {out : (Int32 × Int32) ⊕ (Int32)} (h : fM_isSettled_74 v0 v1 v2 v3 v4 μ = some out) (hK : fM_isSettled_K4 v0 v1 μ d rv μf out) : xRun (d + 0) 202 74 [some (.ref v0), some (.int v1), some (.int v2), some (.int v3), some (.int v4), none] [] μ rv μf := by
  unfold fM_isSettled_74 at h
  refine xr_go 1 (pc' := 76) (lo' := [some (.ref v0), some (.int v1), some (.int v2), some (.int v3), some (.int v4), none]) (st' := [.int v4]) (μ' := μ) rfl ?_
  refine xr_ifc (pct := 102) rfl rfl rfl (fun hc => ?_) (fun hc => ?_)
  · replace h := (if_pos (of_decide_eq_true hc)).symm.trans h
    refine xr_forget (lo := [some (.ref v0), some (.int v1), some (.int v2), some (.int v3), none, none]) ⟨rfl, rfl, rfl, rfl, trivial⟩ ?_
    exact fM_isSettled_102_ok h hK
  · replace h := (if_neg (of_decide_eq_false hc)).symm.trans h
    refine xr_go 1 (pc' := 80) (lo' := [some (.ref v0), some (.int v1), some (.int v2), some (.int v3), some (.int v4), none]) (st' := [.int v2]) (μ' := μ) rfl ?_
    refine xr_ifc (pct := 95) rfl rfl rfl (fun hc => ?_) (fun hc => ?_)
    · replace h := (if_pos (of_decide_eq_true hc)).symm.trans h
      refine xr_forget (lo := [some (.ref v0), some (.int v1), none, some (.int v3), none, none]) ⟨rfl, rfl, rfl, trivial⟩ ?_
      exact fM_isSettled_95_ok h hK
    · replace h := (if_neg (of_decide_eq_false hc)).symm.trans h
      refine xr_go 1 (pc' := 84) (lo' := [some (.ref v0), some (.int v1), some (.int v2), some (.int v3), some (.int v4), none]) (st' := [.ref v0]) (μ' := μ) rfl ?_
      obtain ⟨x3, hx3, h⟩ := Option.bind_eq_some_iff.mp h
      refine xr_opA (pc' := 87) (lo' := [some (.ref v0), some (.int v1), some (.int v2), some (.int v3), some (.int v4), none]) (st' := []) (o := ldFR μ v0 9 58) rfl hx3 ?_
      refine xr_go 1 (pc' := 88) (lo' := [some (.ref v0), some (.int v1), some (.int v2), some (.int v3), some (.int v4), none]) (st' := [.int v3, .ref x3]) (μ' := μ) rfl ?_
      obtain ⟨x4, hx4, h⟩ := Option.bind_eq_some_iff.mp h
      refine xr_opI (pc' := 89) (lo' := [some (.ref v0), some (.int v1), some (.int v2), some (.int v3), some (.int v4), none]) (st' := []) (o := ldA μ x3 v3) rfl hx4 ?_
      refine xr_go 1 (pc' := 90) (lo' := [some (.ref v0), some (.int v1), some (.int v2), some (.int v3), some (.int v4), none]) (st' := [.int v2, .int x4]) (μ' := μ) rfl ?_
      refine xr_icmp (pct := 95) rfl rfl rfl (fun hc => ?_) (fun hc => ?_)
      · replace h := (if_pos (of_decide_eq_true hc)).symm.trans h
        refine xr_forget (lo := [some (.ref v0), some (.int v1), none, some (.int v3), none, none]) ⟨rfl, rfl, rfl, trivial⟩ ?_
        exact fM_isSettled_95_ok h hK
      · replace h := (if_neg (of_decide_eq_false hc)).symm.trans h
        refine xr_forget (lo := [none, none, none, none, none, none]) trivial ?_
        obtain ⟨o, h2, rfl⟩ := Option.map_eq_some_iff.mp h
        exact fM_isSettled_93_ok h2 hK
noncomputable def fM_isSettled_66  (v0 : Nat) (v1 : Int32) (v2 : Int32) (v3 : Int32) (v5 : Int32) (s0 : Int32) (μ : xM) : Option ((Int32 × Int32) ⊕ ((Int32 × Int32) ⊕ (Int32))) := some (.inl ((s0, v5 + xc 1)))
theorem fM_isSettled_66_ok {d : Nat} {v0 : Nat} {v1 : Int32} {v2 : Int32} {v3 : Int32} {v5 : Int32} {s0 : Int32} {μ : xM} {rv : Option Value} {μf : xM} {out : (Int32 × Int32) ⊕ ((Int32 × Int32) ⊕ (Int32))} (h : fM_isSettled_66 v0 v1 v2 v3 v5 s0 μ = some out) (hK : fM_isSettled_K22 v0 v1 v2 v3 μ d rv μf out) : xRun (d + 0) 202 66 [some (.ref v0), some (.int v1), some (.int v2), some (.int v3), none, some (.int v5)] [.int s0] μ rv μf := by
  unfold fM_isSettled_66 at h
  refine xr_go 3 (pc' := 22) (lo' := [some (.ref v0), some (.int v1), some (.int v2), some (.int v3), some (.int s0), some (.int (v5 + xc 1))]) (st' := []) (μ' := μ) rfl ?_
  refine xr_forget (lo := [some (.ref v0), some (.int v1), some (.int v2), some (.int v3), some (.int s0), some (.int (v5 + xc 1))]) ⟨rfl, rfl, rfl, rfl, rfl, rfl, trivial⟩ ?_
  have ho := Option.some.inj h
  subst ho
  exact hK
noncomputable def fM_isSettled_61  (v0 : Nat) (v1 : Int32) (v2 : Int32) (v3 : Int32) (v5 : Int32) (μ : xM) : Option ((Int32 × Int32) ⊕ ((Int32 × Int32) ⊕ (Int32))) := fM_isSettled_66 v0 v1 v2 v3 v5 (xc 1) μ
theorem fM_isSettled_61_ok {d : Nat} {v0 : Nat} {v1 : Int32} {v2 : Int32} {v3 : Int32} {v5 : Int32} {μ : xM} {rv : Option Value} {μf : xM} {out : (Int32 × Int32) ⊕ ((Int32 × Int32) ⊕ (Int32))} (h : fM_isSettled_61 v0 v1 v2 v3 v5 μ = some out) (hK : fM_isSettled_K22 v0 v1 v2 v3 μ d rv μf out) : xRun (d + 0) 202 61 [some (.ref v0), some (.int v1), some (.int v2), some (.int v3), none, some (.int v5)] [] μ rv μf := by
  unfold fM_isSettled_61 at h
  refine xr_go 2 (pc' := 66) (lo' := [some (.ref v0), some (.int v1), some (.int v2), some (.int v3), none, some (.int v5)]) (st' := [.int (xc 1)]) (μ' := μ) rfl ?_
  refine xr_forget (lo := [some (.ref v0), some (.int v1), some (.int v2), some (.int v3), none, some (.int v5)]) ⟨rfl, rfl, rfl, rfl, rfl, trivial⟩ ?_
  exact fM_isSettled_66_ok h hK
noncomputable def fM_isSettled_L22  (v0 : Nat) (v1 : Int32) (v2 : Int32) (v3 : Int32) (v4 : Int32) (v5 : Int32) (μ : xM) : Option ((Int32 × Int32) ⊕ ((Int32 × Int32) ⊕ (Int32))) := (ldF μ v0 9 9).bind fun x5 => if x5 ≤ v5 then ((fM_isSettled_74 v0 v1 v2 v3 v4 μ).map (fun o => .inr o)) else (if v4 = 0 then ((fM_isSettled_74 v0 v1 v2 v3 v4 μ).map (fun o => .inr o)) else (if ((v1 >>> (v5 &&& 31)) &&& (xc 1)) = 0 then (fM_isSettled_61 v0 v1 v2 v3 v5 μ) else ((ldFR μ v0 9 59).bind fun x6 => (ldAZ μ x6 (((xc 4096) * v5) + v3)).bind fun x7 => if x7 = 0 then (fM_isSettled_61 v0 v1 v2 v3 v5 μ) else (fM_isSettled_66 v0 v1 v2 v3 v5 (xc 0) μ))))
theorem fM_isSettled_L22_ok {d : Nat} {v0 : Nat} {v1 : Int32} {v2 : Int32} {v3 : Int32} {v4 : Int32} {v5 : Int32} {μ : xM} {rv : Option Value} {μf : xM} {out : (Int32 × Int32) ⊕ ((Int32 × Int32) ⊕ (Int32))} (h : fM_isSettled_L22 v0 v1 v2 v3 v4 v5 μ = some out) (hK : fM_isSettled_K22 v0 v1 v2 v3 μ d rv μf out) : xRun (d + 0) 202 22 [some (.ref v0), some (.int v1), some (.int v2), some (.int v3), some (.int v4), some (.int v5)] [] μ rv μf := by
  unfold fM_isSettled_L22 at h
  refine xr_go 2 (pc' := 25) (lo' := [some (.ref v0), some (.int v1), some (.int v2), some (.int v3), some (.int v4), some (.int v5)]) (st' := [.ref v0, .int v5]) (μ' := μ) rfl ?_
  obtain ⟨x5, hx5, h⟩ := Option.bind_eq_some_iff.mp h
  refine xr_opI (pc' := 28) (lo' := [some (.ref v0), some (.int v1), some (.int v2), some (.int v3), some (.int v4), some (.int v5)]) (st' := [.int v5]) (o := ldF μ v0 9 9) rfl hx5 ?_
  refine xr_icmp (pct := 74) rfl rfl rfl (fun hc => ?_) (fun hc => ?_)
  · replace h := (if_pos (of_decide_eq_true hc)).symm.trans h
    refine xr_forget (lo := [some (.ref v0), some (.int v1), some (.int v2), some (.int v3), some (.int v4), none]) ⟨rfl, rfl, rfl, rfl, rfl, trivial⟩ ?_
    obtain ⟨o, h2, rfl⟩ := Option.map_eq_some_iff.mp h
    exact fM_isSettled_74_ok h2 hK
  · replace h := (if_neg (of_decide_eq_false hc)).symm.trans h
    refine xr_go 1 (pc' := 33) (lo' := [some (.ref v0), some (.int v1), some (.int v2), some (.int v3), some (.int v4), some (.int v5)]) (st' := [.int v4]) (μ' := μ) rfl ?_
    refine xr_ifc (pct := 74) rfl rfl rfl (fun hc => ?_) (fun hc => ?_)
    · replace h := (if_pos (of_decide_eq_true hc)).symm.trans h
      refine xr_forget (lo := [some (.ref v0), some (.int v1), some (.int v2), some (.int v3), some (.int v4), none]) ⟨rfl, rfl, rfl, rfl, rfl, trivial⟩ ?_
      obtain ⟨o, h2, rfl⟩ := Option.map_eq_some_iff.mp h
      exact fM_isSettled_74_ok h2 hK
    · replace h := (if_neg (of_decide_eq_false hc)).symm.trans h
      refine xr_go 5 (pc' := 42) (lo' := [some (.ref v0), some (.int v1), some (.int v2), some (.int v3), some (.int v4), some (.int v5)]) (st' := [.int ((v1 >>> (v5 &&& 31)) &&& (xc 1))]) (μ' := μ) rfl ?_
      refine xr_ifc (pct := 61) rfl rfl rfl (fun hc => ?_) (fun hc => ?_)
      · replace h := (if_pos (of_decide_eq_true hc)).symm.trans h
        refine xr_forget (lo := [some (.ref v0), some (.int v1), some (.int v2), some (.int v3), none, some (.int v5)]) ⟨rfl, rfl, rfl, rfl, rfl, trivial⟩ ?_
        exact fM_isSettled_61_ok h hK
      · replace h := (if_neg (of_decide_eq_false hc)).symm.trans h
        refine xr_go 1 (pc' := 46) (lo' := [some (.ref v0), some (.int v1), some (.int v2), some (.int v3), some (.int v4), some (.int v5)]) (st' := [.ref v0]) (μ' := μ) rfl ?_
        obtain ⟨x6, hx6, h⟩ := Option.bind_eq_some_iff.mp h
        refine xr_opA (pc' := 49) (lo' := [some (.ref v0), some (.int v1), some (.int v2), some (.int v3), some (.int v4), some (.int v5)]) (st' := []) (o := ldFR μ v0 9 59) rfl hx6 ?_
        refine xr_go 5 (pc' := 57) (lo' := [some (.ref v0), some (.int v1), some (.int v2), some (.int v3), some (.int v4), some (.int v5)]) (st' := [.int (((xc 4096) * v5) + v3), .ref x6]) (μ' := μ) rfl ?_
        obtain ⟨x7, hx7, h⟩ := Option.bind_eq_some_iff.mp h
        refine xr_opI (pc' := 58) (lo' := [some (.ref v0), some (.int v1), some (.int v2), some (.int v3), some (.int v4), some (.int v5)]) (st' := []) (o := ldAZ μ x6 (((xc 4096) * v5) + v3)) rfl hx7 ?_
        refine xr_ifc (pct := 65) rfl rfl rfl (fun hc => ?_) (fun hc => ?_)
        · replace h := (if_neg (of_decide_eq_true hc)).symm.trans h
          refine xr_go 1 (pc' := 66) (lo' := [some (.ref v0), some (.int v1), some (.int v2), some (.int v3), some (.int v4), some (.int v5)]) (st' := [.int (xc 0)]) (μ' := μ) rfl ?_
          refine xr_forget (lo := [some (.ref v0), some (.int v1), some (.int v2), some (.int v3), none, some (.int v5)]) ⟨rfl, rfl, rfl, rfl, rfl, trivial⟩ ?_
          exact fM_isSettled_66_ok h hK
        · replace h := (if_pos (Decidable.of_not_not (of_decide_eq_false hc))).symm.trans h
          refine xr_forget (lo := [some (.ref v0), some (.int v1), some (.int v2), some (.int v3), none, some (.int v5)]) ⟨rfl, rfl, rfl, rfl, rfl, trivial⟩ ?_
          exact fM_isSettled_61_ok h hK
theorem fM_isSettled_L22_lp {d : Nat} {v0 : Nat} {v1 : Int32} {v2 : Int32} {v3 : Int32} {v4 : Int32} {v5 : Int32} {μ : xM} {rv : Option Value} {μf : xM} {out : (Int32 × Int32) ⊕ (Int32)} (h : xwh (fun s : Int32 × Int32 => fM_isSettled_L22 v0 v1 v2 v3 s.1 s.2 μ) (v4, v5) = some out) (hK : fM_isSettled_K4 v0 v1 μ d rv μf out) : xRun (d + 0) 202 22 [some (.ref v0), some (.int v1), some (.int v2), some (.int v3), some (.int v4), some (.int v5)] [] μ rv μf :=
  xwh_ind (Rh := fun s : Int32 × Int32 => xRun (d + 0) 202 22 [some (.ref v0), some (.int v1), some (.int v2), some (.int v3), some (.int s.1), some (.int s.2)] [] μ rv μf) (Co := fM_isSettled_K4 v0 v1 μ d rv μf) (fun s o hb hk => fM_isSettled_L22_ok hb hk) h hK
noncomputable def fM_isSettled_L4  (v0 : Nat) (v1 : Int32) (v2 : Int32) (v3 : Int32) (μ : xM) : Option ((Int32 × Int32) ⊕ (Int32)) := if (xc 4096) ≤ v3 then ((fM_isSettled_108 v2 μ).map (fun o => .inr o)) else ((ldFR μ v0 9 57).bind fun x8 => (ldAZ μ x8 v3).bind fun x9 => xwh (fun s : Int32 × Int32 => fM_isSettled_L22 v0 v1 v2 v3 s.1 s.2 μ) (x9, xc 0))
theorem fM_isSettled_L4_ok {d : Nat} {v0 : Nat} {v1 : Int32} {v2 : Int32} {v3 : Int32} {μ : xM} {rv : Option Value} {μf : xM} {out : (Int32 × Int32) ⊕ (Int32)} (h : fM_isSettled_L4 v0 v1 v2 v3 μ = some out) (hK : fM_isSettled_K4 v0 v1 μ d rv μf out) : xRun (d + 0) 202 4 [some (.ref v0), some (.int v1), some (.int v2), some (.int v3), none, none] [] μ rv μf := by
  unfold fM_isSettled_L4 at h
  refine xr_go 2 (pc' := 8) (lo' := [some (.ref v0), some (.int v1), some (.int v2), some (.int v3), none, none]) (st' := [.int (xc 4096), .int v3]) (μ' := μ) rfl ?_
  refine xr_icmp (pct := 108) rfl rfl rfl (fun hc => ?_) (fun hc => ?_)
  · replace h := (if_pos (of_decide_eq_true hc)).symm.trans h
    refine xr_forget (lo := [none, none, some (.int v2), none, none, none]) ⟨rfl, trivial⟩ ?_
    obtain ⟨o, h2, rfl⟩ := Option.map_eq_some_iff.mp h
    exact fM_isSettled_108_ok h2 hK
  · replace h := (if_neg (of_decide_eq_false hc)).symm.trans h
    refine xr_go 1 (pc' := 12) (lo' := [some (.ref v0), some (.int v1), some (.int v2), some (.int v3), none, none]) (st' := [.ref v0]) (μ' := μ) rfl ?_
    obtain ⟨x8, hx8, h⟩ := Option.bind_eq_some_iff.mp h
    refine xr_opA (pc' := 15) (lo' := [some (.ref v0), some (.int v1), some (.int v2), some (.int v3), none, none]) (st' := []) (o := ldFR μ v0 9 57) rfl hx8 ?_
    refine xr_go 1 (pc' := 16) (lo' := [some (.ref v0), some (.int v1), some (.int v2), some (.int v3), none, none]) (st' := [.int v3, .ref x8]) (μ' := μ) rfl ?_
    obtain ⟨x9, hx9, h⟩ := Option.bind_eq_some_iff.mp h
    refine xr_opI (pc' := 17) (lo' := [some (.ref v0), some (.int v1), some (.int v2), some (.int v3), none, none]) (st' := []) (o := ldAZ μ x8 v3) rfl hx9 ?_
    refine xr_go 3 (pc' := 22) (lo' := [some (.ref v0), some (.int v1), some (.int v2), some (.int v3), some (.int x9), some (.int (xc 0))]) (st' := []) (μ' := μ) rfl ?_
    refine xr_forget (lo := [some (.ref v0), some (.int v1), some (.int v2), some (.int v3), some (.int x9), some (.int (xc 0))]) ⟨rfl, rfl, rfl, rfl, rfl, rfl, trivial⟩ ?_
    exact fM_isSettled_L22_lp h hK
theorem fM_isSettled_L4_lp {d : Nat} {v0 : Nat} {v1 : Int32} {v2 : Int32} {v3 : Int32} {μ : xM} {rv : Option Value} {μf : xM} {out : Int32} (h : xwh (fun s : Int32 × Int32 => fM_isSettled_L4 v0 v1 s.1 s.2 μ) (v2, v3) = some out) (hK : fM_isSettled_K μ rv μf out) : xRun (d + 0) 202 4 [some (.ref v0), some (.int v1), some (.int v2), some (.int v3), none, none] [] μ rv μf :=
  xwh_ind (Rh := fun s : Int32 × Int32 => xRun (d + 0) 202 4 [some (.ref v0), some (.int v1), some (.int s.1), some (.int s.2), none, none] [] μ rv μf) (Co := fM_isSettled_K μ rv μf) (fun s o hb hk => fM_isSettled_L4_ok hb hk) h hK
noncomputable def fM_isSettled_0  (v0 : Nat) (v1 : Int32) (μ : xM) : Option (Int32) := xwh (fun s : Int32 × Int32 => fM_isSettled_L4 v0 v1 s.1 s.2 μ) (xc (-1), xc 0)
theorem fM_isSettled_0_ok {d : Nat} {v0 : Nat} {v1 : Int32} {μ : xM} {rv : Option Value} {μf : xM} {out : Int32} (h : fM_isSettled_0 v0 v1 μ = some out) (hK : fM_isSettled_K μ rv μf out) : xRun (d + 0) 202 0 [some (.ref v0), some (.int v1), none, none, none, none] [] μ rv μf := by
  unfold fM_isSettled_0 at h
  refine xr_go 4 (pc' := 4) (lo' := [some (.ref v0), some (.int v1), some (.int (xc (-1))), some (.int (xc 0)), none, none]) (st' := []) (μ' := μ) rfl ?_
  refine xr_forget (lo := [some (.ref v0), some (.int v1), some (.int (xc (-1))), some (.int (xc 0)), none, none]) ⟨rfl, rfl, rfl, rfl, trivial⟩ ?_
  exact fM_isSettled_L4_lp h hK
noncomputable def fM_isSettled (a0 : Nat) (a1 : Int32) (μ : xM) : Option (Int32) := xgd μ a0 9 (fM_isSettled_0 a0 a1 μ)
theorem fM_isSettled_kd {a0 : Nat} {a1 : Int32} {μ : xM} {o : Int32} (h : fM_isSettled a0 a1 μ = some o) : (xK μ a0).1 = 10 + 9 := (xgd_some h).1
theorem fM_isSettled_ok {d : Nat} {a0 : Nat} {a1 : Int32} {μ : xM} {o : Int32} (h : fM_isSettled a0 a1 μ = some o) : xRun (d + 0) 202 0 [some (.ref a0), some (.int a1), none, none, none, none] [] μ (some (.int o)) μ :=
  xr_forget (lo := [some (.ref a0), some (.int a1), none, none, none, none]) (⟨rfl, rfl, trivial⟩) (fM_isSettled_0_ok (d := d) (xgd_some h).2 (show fM_isSettled_K μ _ _ o from ⟨rfl, rfl⟩))
-- KeptAnswersModel.besides(I)I 
def fM_besides_K (rv : Option Value) (μf : xM) : (Int32 × xM) → Prop := fun o => rv = some (.int o.1) ∧ μf = o.2
def fM_besides_K104 (v0 : Nat) (v2 : Int32) (d : Nat) (rv : Option Value) (μf : xM) : ((Int32 × xM) ⊕ (Int32 × xM)) → Prop := Sum.elim (fun s : Int32 × xM => xRun (d + 3) 201 104 [some (.ref v0), none, some (.int v2), some (.int s.1), none, none] [] s.2 rv μf) (fM_besides_K rv μf)
def fM_besides_K129 (v0 : Nat) (v2 : Int32) (v3 : Int32) (v4 : Int32) (d : Nat) (rv : Option Value) (μf : xM) : ((Int32 × xM) ⊕ ((Int32 × xM) ⊕ (Int32 × xM))) → Prop := Sum.elim (fun s : Int32 × xM => xRun (d + 3) 201 129 [some (.ref v0), none, some (.int v2), some (.int v3), some (.int v4), some (.int s.1)] [] s.2 rv μf) (fM_besides_K104 v0 v2 d rv μf)
def fM_besides_K198 (v0 : Nat) (v2 : Int32) (μ : xM) (d : Nat) (rv : Option Value) (μf : xM) : ((Int32 × Int32) ⊕ (Int32 × xM)) → Prop := Sum.elim (fun s : Int32 × Int32 => xRun (d + 3) 201 198 [some (.ref v0), none, some (.int v2), some (.int s.1), some (.int s.2), none] [] μ rv μf) (fM_besides_K rv μf)
def fM_besides_K53 (v0 : Nat) (v1 : Int32) (v2 : Int32) (d : Nat) (rv : Option Value) (μf : xM) : ((Int32 × xM) ⊕ (Int32 × xM)) → Prop := Sum.elim (fun s : Int32 × xM => xRun (d + 3) 201 53 [some (.ref v0), some (.int v1), some (.int v2), some (.int s.1), none, none] [] s.2 rv μf) (fM_besides_K rv μf)
def fM_besides_K18 (v0 : Nat) (v1 : Int32) (μ : xM) (d : Nat) (rv : Option Value) (μf : xM) : ((Int32 × Int32) ⊕ (Int32 × xM)) → Prop := Sum.elim (fun s : Int32 × Int32 => xRun (d + 3) 201 18 [some (.ref v0), some (.int v1), some (.int s.1), some (.int s.2), none, none] [] μ rv μf) (fM_besides_K rv μf)
noncomputable def fM_besides_256  (v3 : Int32) (μ : xM) : Option (Int32 × xM) := some ((v3, μ))
theorem fM_besides_256_ok {d : Nat} {v3 : Int32} {μ : xM} {rv : Option Value} {μf : xM} {out : Int32 × xM} (h : fM_besides_256 v3 μ = some out) (hK : fM_besides_K rv μf out) : xRun (d + 3) 201 256 [none, none, none, some (.int v3), none, none] [] μ rv μf := by
  unfold fM_besides_256 at h
  refine xr_go 1 (pc' := 257) (lo' := [none, none, none, some (.int v3), none, none]) (st' := [.int v3]) (μ' := μ) rfl ?_
  have ho := Option.some.inj h
  subst ho
  obtain ⟨rfl, rfl⟩ := hK
  exact xr_ret (rv := some (.int v3)) rfl rfl (Or.inl rfl)
noncomputable def fM_besides_250  (v0 : Nat) (v2 : Int32) (v3 : Int32) (v4 : Int32) (μ : xM) : Option ((Int32 × Int32) ⊕ (Int32 × xM)) := some (.inl ((v3, v4 + xc 1)))
theorem fM_besides_250_ok {d : Nat} {v0 : Nat} {v2 : Int32} {v3 : Int32} {v4 : Int32} {μ : xM} {rv : Option Value} {μf : xM} {out : (Int32 × Int32) ⊕ (Int32 × xM)} (h : fM_besides_250 v0 v2 v3 v4 μ = some out) (hK : fM_besides_K198 v0 v2 μ d rv μf out) : xRun (d + 3) 201 250 [some (.ref v0), none, some (.int v2), some (.int v3), some (.int v4), none] [] μ rv μf := by
  unfold fM_besides_250 at h
  refine xr_go 2 (pc' := 198) (lo' := [some (.ref v0), none, some (.int v2), some (.int v3), some (.int (v4 + xc 1)), none]) (st' := []) (μ' := μ) rfl ?_
  refine xr_forget (lo := [some (.ref v0), none, some (.int v2), some (.int v3), some (.int (v4 + xc 1)), none]) ⟨rfl, rfl, rfl, rfl, trivial⟩ ?_
  have ho := Option.some.inj h
  subst ho
  exact hK
noncomputable def fM_besides_249  (v0 : Nat) (v2 : Int32) (v4 : Int32) (s0 : Int32) (μ : xM) : Option ((Int32 × Int32) ⊕ (Int32 × xM)) := fM_besides_250 v0 v2 s0 v4 μ
theorem fM_besides_249_ok {d : Nat} {v0 : Nat} {v2 : Int32} {v4 : Int32} {s0 : Int32} {μ : xM} {rv : Option Value} {μf : xM} {out : (Int32 × Int32) ⊕ (Int32 × xM)} (h : fM_besides_249 v0 v2 v4 s0 μ = some out) (hK : fM_besides_K198 v0 v2 μ d rv μf out) : xRun (d + 3) 201 249 [some (.ref v0), none, some (.int v2), none, some (.int v4), none] [.int s0] μ rv μf := by
  unfold fM_besides_249 at h
  refine xr_go 1 (pc' := 250) (lo' := [some (.ref v0), none, some (.int v2), some (.int s0), some (.int v4), none]) (st' := []) (μ' := μ) rfl ?_
  refine xr_forget (lo := [some (.ref v0), none, some (.int v2), some (.int s0), some (.int v4), none]) ⟨rfl, rfl, rfl, rfl, trivial⟩ ?_
  exact fM_besides_250_ok h hK
noncomputable def fM_besides_234  (v0 : Nat) (v2 : Int32) (v3 : Int32) (v4 : Int32) (μ : xM) : Option ((Int32 × Int32) ⊕ (Int32 × xM)) := (fM_isSettled v0 v4 μ).bind fun r1 => if r1 = 0 then (fM_besides_249 v0 v2 v4 v3 μ) else (fM_besides_249 v0 v2 v4 v4 μ)
theorem fM_besides_234_ok {d : Nat} {v0 : Nat} {v2 : Int32} {v3 : Int32} {v4 : Int32} {μ : xM} {rv : Option Value} {μf : xM} {out : (Int32 × Int32) ⊕ (Int32 × xM)} (h : fM_besides_234 v0 v2 v3 v4 μ = some out) (hK : fM_besides_K198 v0 v2 μ d rv μf out) : xRun (d + 3) 201 234 [some (.ref v0), none, some (.int v2), some (.int v3), some (.int v4), none] [] μ rv μf := by
  unfold fM_besides_234 at h
  refine xr_go 2 (pc' := 237) (lo' := [some (.ref v0), none, some (.int v2), some (.int v3), some (.int v4), none]) (st' := [.int v4, .ref v0]) (μ' := μ) rfl ?_
  obtain ⟨r1, hr1, h⟩ := Option.bind_eq_some_iff.mp h
  refine xr_callV (j := 202) (d' := (d + 2)) (rv1 := some (.int r1)) (μ1 := μ) (rest := []) (As := [.int v4]) rfl rfl rfl rfl (Nat.le_of_ble_eq_true rfl) (fM_isSettled_kd hr1) rfl (by exact (fM_isSettled_ok (d := d + (2)) hr1)) ?_
  refine xr_ifc (pct := 248) rfl rfl rfl (fun hc => ?_) (fun hc => ?_)
  · replace h := (if_pos (of_decide_eq_true hc)).symm.trans h
    refine xr_go 1 (pc' := 249) (lo' := [some (.ref v0), none, some (.int v2), some (.int v3), some (.int v4), none]) (st' := [.int v3]) (μ' := μ) rfl ?_
    refine xr_forget (lo := [some (.ref v0), none, some (.int v2), none, some (.int v4), none]) ⟨rfl, rfl, rfl, trivial⟩ ?_
    exact fM_besides_249_ok h hK
  · replace h := (if_neg (of_decide_eq_false hc)).symm.trans h
    refine xr_go 2 (pc' := 249) (lo' := [some (.ref v0), none, some (.int v2), some (.int v3), some (.int v4), none]) (st' := [.int v4]) (μ' := μ) rfl ?_
    refine xr_forget (lo := [some (.ref v0), none, some (.int v2), none, some (.int v4), none]) ⟨rfl, rfl, rfl, trivial⟩ ?_
    exact fM_besides_249_ok h hK
noncomputable def fM_besides_L198  (v0 : Nat) (v2 : Int32) (v3 : Int32) (v4 : Int32) (μ : xM) : Option ((Int32 × Int32) ⊕ (Int32 × xM)) := (ldF μ v0 9 9).bind fun x2 => if ((xc 1) <<< (x2 &&& 31)) ≤ v4 then ((fM_besides_256 v3 μ).map (fun o => .inr o)) else (if (v4 &&& (v2 ^^^ (xc (-1)))) = 0 then (if v3 < 0 then (fM_besides_234 v0 v2 v3 v4 μ) else ((fM_ones v4 μ).bind fun r3 => (fM_ones v3 μ).bind fun r4 => if r4 ≤ r3 then (fM_besides_250 v0 v2 v3 v4 μ) else (fM_besides_234 v0 v2 v3 v4 μ))) else (fM_besides_250 v0 v2 v3 v4 μ))
theorem fM_besides_L198_ok {d : Nat} {v0 : Nat} {v2 : Int32} {v3 : Int32} {v4 : Int32} {μ : xM} {rv : Option Value} {μf : xM} {out : (Int32 × Int32) ⊕ (Int32 × xM)} (h : fM_besides_L198 v0 v2 v3 v4 μ = some out) (hK : fM_besides_K198 v0 v2 μ d rv μf out) : xRun (d + 3) 201 198 [some (.ref v0), none, some (.int v2), some (.int v3), some (.int v4), none] [] μ rv μf := by
  unfold fM_besides_L198 at h
  refine xr_go 3 (pc' := 202) (lo' := [some (.ref v0), none, some (.int v2), some (.int v3), some (.int v4), none]) (st' := [.ref v0, .int (xc 1), .int v4]) (μ' := μ) rfl ?_
  obtain ⟨x2, hx2, h⟩ := Option.bind_eq_some_iff.mp h
  refine xr_opI (pc' := 205) (lo' := [some (.ref v0), none, some (.int v2), some (.int v3), some (.int v4), none]) (st' := [.int (xc 1), .int v4]) (o := ldF μ v0 9 9) rfl hx2 ?_
  refine xr_go 1 (pc' := 206) (lo' := [some (.ref v0), none, some (.int v2), some (.int v3), some (.int v4), none]) (st' := [.int ((xc 1) <<< (x2 &&& 31)), .int v4]) (μ' := μ) rfl ?_
  refine xr_icmp (pct := 256) rfl rfl rfl (fun hc => ?_) (fun hc => ?_)
  · replace h := (if_pos (of_decide_eq_true hc)).symm.trans h
    refine xr_forget (lo := [none, none, none, some (.int v3), none, none]) ⟨rfl, trivial⟩ ?_
    obtain ⟨o, h2, rfl⟩ := Option.map_eq_some_iff.mp h
    exact fM_besides_256_ok h2 hK
  · replace h := (if_neg (of_decide_eq_false hc)).symm.trans h
    refine xr_go 5 (pc' := 215) (lo' := [some (.ref v0), none, some (.int v2), some (.int v3), some (.int v4), none]) (st' := [.int (v4 &&& (v2 ^^^ (xc (-1))))]) (μ' := μ) rfl ?_
    refine xr_ifc (pct := 250) rfl rfl rfl (fun hc => ?_) (fun hc => ?_)
    · replace h := (if_neg (of_decide_eq_true hc)).symm.trans h
      refine xr_forget (lo := [some (.ref v0), none, some (.int v2), some (.int v3), some (.int v4), none]) ⟨rfl, rfl, rfl, rfl, trivial⟩ ?_
      exact fM_besides_250_ok h hK
    · replace h := (if_pos (Decidable.of_not_not (of_decide_eq_false hc))).symm.trans h
      refine xr_go 1 (pc' := 219) (lo' := [some (.ref v0), none, some (.int v2), some (.int v3), some (.int v4), none]) (st' := [.int v3]) (μ' := μ) rfl ?_
      refine xr_ifc (pct := 234) rfl rfl rfl (fun hc => ?_) (fun hc => ?_)
      · replace h := (if_pos (of_decide_eq_true hc)).symm.trans h
        refine xr_forget (lo := [some (.ref v0), none, some (.int v2), some (.int v3), some (.int v4), none]) ⟨rfl, rfl, rfl, rfl, trivial⟩ ?_
        exact fM_besides_234_ok h hK
      · replace h := (if_neg (of_decide_eq_false hc)).symm.trans h
        refine xr_go 1 (pc' := 224) (lo' := [some (.ref v0), none, some (.int v2), some (.int v3), some (.int v4), none]) (st' := [.int v4]) (μ' := μ) rfl ?_
        obtain ⟨r3, hr3, h⟩ := Option.bind_eq_some_iff.mp h
        refine xr_callS (j := 141) (d' := (d + 2)) (rv1 := some (.int r3)) (μ1 := μ) (rest := []) (As := [.int v4]) rfl rfl rfl rfl (Nat.le_of_ble_eq_true rfl) rfl (by exact (fM_ones_ok (d := d + (2)) hr3)) ?_
        refine xr_go 1 (pc' := 228) (lo' := [some (.ref v0), none, some (.int v2), some (.int v3), some (.int v4), none]) (st' := [.int v3, .int r3]) (μ' := μ) rfl ?_
        obtain ⟨r4, hr4, h⟩ := Option.bind_eq_some_iff.mp h
        refine xr_callS (j := 141) (d' := (d + 2)) (rv1 := some (.int r4)) (μ1 := μ) (rest := [.int r3]) (As := [.int v3]) rfl rfl rfl rfl (Nat.le_of_ble_eq_true rfl) rfl (by exact (fM_ones_ok (d := d + (2)) hr4)) ?_
        refine xr_icmp (pct := 250) rfl rfl rfl (fun hc => ?_) (fun hc => ?_)
        · replace h := (if_pos (of_decide_eq_true hc)).symm.trans h
          refine xr_forget (lo := [some (.ref v0), none, some (.int v2), some (.int v3), some (.int v4), none]) ⟨rfl, rfl, rfl, rfl, trivial⟩ ?_
          exact fM_besides_250_ok h hK
        · replace h := (if_neg (of_decide_eq_false hc)).symm.trans h
          refine xr_forget (lo := [some (.ref v0), none, some (.int v2), some (.int v3), some (.int v4), none]) ⟨rfl, rfl, rfl, rfl, trivial⟩ ?_
          exact fM_besides_234_ok h hK
theorem fM_besides_L198_lp {d : Nat} {v0 : Nat} {v2 : Int32} {v3 : Int32} {v4 : Int32} {μ : xM} {rv : Option Value} {μf : xM} {out : Int32 × xM} (h : xwh (fun s : Int32 × Int32 => fM_besides_L198 v0 v2 s.1 s.2 μ) (v3, v4) = some out) (hK : fM_besides_K rv μf out) : xRun (d + 3) 201 198 [some (.ref v0), none, some (.int v2), some (.int v3), some (.int v4), none] [] μ rv μf :=
  xwh_ind (Rh := fun s : Int32 × Int32 => xRun (d + 3) 201 198 [some (.ref v0), none, some (.int v2), some (.int s.1), some (.int s.2), none] [] μ rv μf) (Co := fM_besides_K rv μf) (fun s o hb hk => fM_besides_L198_ok hb hk) h hK
noncomputable def fM_besides_192  (v0 : Nat) (v2 : Int32) (μ : xM) : Option (Int32 × xM) := xwh (fun s : Int32 × Int32 => fM_besides_L198 v0 v2 s.1 s.2 μ) (xc (-9), xc 0)
theorem fM_besides_192_ok {d : Nat} {v0 : Nat} {v2 : Int32} {μ : xM} {rv : Option Value} {μf : xM} {out : Int32 × xM} (h : fM_besides_192 v0 v2 μ = some out) (hK : fM_besides_K rv μf out) : xRun (d + 3) 201 192 [some (.ref v0), none, some (.int v2), none, none, none] [] μ rv μf := by
  unfold fM_besides_192 at h
  refine xr_go 4 (pc' := 198) (lo' := [some (.ref v0), none, some (.int v2), some (.int (xc (-9))), some (.int (xc 0)), none]) (st' := []) (μ' := μ) rfl ?_
  refine xr_forget (lo := [some (.ref v0), none, some (.int v2), some (.int (xc (-9))), some (.int (xc 0)), none]) ⟨rfl, rfl, rfl, rfl, trivial⟩ ?_
  exact fM_besides_L198_lp h hK
noncomputable def fM_besides_186  (v0 : Nat) (v2 : Int32) (v3 : Int32) (μ : xM) : Option ((Int32 × xM) ⊕ (Int32 × xM)) := some (.inl ((v3 + xc 1, μ)))
theorem fM_besides_186_ok {d : Nat} {v0 : Nat} {v2 : Int32} {v3 : Int32} {μ : xM} {rv : Option Value} {μf : xM} {out : (Int32 × xM) ⊕ (Int32 × xM)} (h : fM_besides_186 v0 v2 v3 μ = some out) (hK : fM_besides_K104 v0 v2 d rv μf out) : xRun (d + 3) 201 186 [some (.ref v0), none, some (.int v2), some (.int v3), none, none] [] μ rv μf := by
  unfold fM_besides_186 at h
  refine xr_go 2 (pc' := 104) (lo' := [some (.ref v0), none, some (.int v2), some (.int (v3 + xc 1)), none, none]) (st' := []) (μ' := μ) rfl ?_
  refine xr_forget (lo := [some (.ref v0), none, some (.int v2), some (.int (v3 + xc 1)), none, none]) ⟨rfl, rfl, rfl, trivial⟩ ?_
  have ho := Option.some.inj h
  subst ho
  exact hK
noncomputable def fM_besides_179  (v0 : Nat) (v2 : Int32) (v3 : Int32) (v4 : Int32) (v5 : Int32) (s0 : Int32) (s1 : Int32) (s2 : Nat) (μ : xM) : Option ((Int32 × xM) ⊕ ((Int32 × xM) ⊕ (Int32 × xM))) := (stAZ μ s2 s1 s0).bind fun μ5 => some (.inl ((v5 + xc 1, μ5)))
theorem fM_besides_179_ok {d : Nat} {v0 : Nat} {v2 : Int32} {v3 : Int32} {v4 : Int32} {v5 : Int32} {s0 : Int32} {s1 : Int32} {s2 : Nat} {μ : xM} {rv : Option Value} {μf : xM} {out : (Int32 × xM) ⊕ ((Int32 × xM) ⊕ (Int32 × xM))} (h : fM_besides_179 v0 v2 v3 v4 v5 s0 s1 s2 μ = some out) (hK : fM_besides_K129 v0 v2 v3 v4 d rv μf out) : xRun (d + 3) 201 179 [some (.ref v0), none, some (.int v2), some (.int v3), some (.int v4), some (.int v5)] [.int s0, .int s1, .ref s2] μ rv μf := by
  unfold fM_besides_179 at h
  obtain ⟨μ5, hμ5, h⟩ := Option.bind_eq_some_iff.mp h
  refine xr_opM (pc' := 180) (lo' := [some (.ref v0), none, some (.int v2), some (.int v3), some (.int v4), some (.int v5)]) (st' := []) (o := stAZ μ s2 s1 s0) rfl hμ5 ?_
  refine xr_go 2 (pc' := 129) (lo' := [some (.ref v0), none, some (.int v2), some (.int v3), some (.int v4), some (.int (v5 + xc 1))]) (st' := []) (μ' := μ5) rfl ?_
  refine xr_forget (lo := [some (.ref v0), none, some (.int v2), some (.int v3), some (.int v4), some (.int (v5 + xc 1))]) ⟨rfl, rfl, rfl, rfl, rfl, trivial⟩ ?_
  have ho := Option.some.inj h
  subst ho
  exact hK
noncomputable def fM_besides_178  (v0 : Nat) (v2 : Int32) (v3 : Int32) (v4 : Int32) (v5 : Int32) (s0 : Int32) (s1 : Nat) (μ : xM) : Option ((Int32 × xM) ⊕ ((Int32 × xM) ⊕ (Int32 × xM))) := fM_besides_179 v0 v2 v3 v4 v5 (xc 0) s0 s1 μ
theorem fM_besides_178_ok {d : Nat} {v0 : Nat} {v2 : Int32} {v3 : Int32} {v4 : Int32} {v5 : Int32} {s0 : Int32} {s1 : Nat} {μ : xM} {rv : Option Value} {μf : xM} {out : (Int32 × xM) ⊕ ((Int32 × xM) ⊕ (Int32 × xM))} (h : fM_besides_178 v0 v2 v3 v4 v5 s0 s1 μ = some out) (hK : fM_besides_K129 v0 v2 v3 v4 d rv μf out) : xRun (d + 3) 201 178 [some (.ref v0), none, some (.int v2), some (.int v3), some (.int v4), some (.int v5)] [.int s0, .ref s1] μ rv μf := by
  unfold fM_besides_178 at h
  refine xr_go 1 (pc' := 179) (lo' := [some (.ref v0), none, some (.int v2), some (.int v3), some (.int v4), some (.int v5)]) (st' := [.int (xc 0), .int s0, .ref s1]) (μ' := μ) rfl ?_
  refine xr_forget (lo := [some (.ref v0), none, some (.int v2), some (.int v3), some (.int v4), some (.int v5)]) ⟨rfl, rfl, rfl, rfl, rfl, trivial⟩ ?_
  exact fM_besides_179_ok h hK
noncomputable def fM_besides_L129  (v0 : Nat) (v2 : Int32) (v3 : Int32) (v4 : Int32) (v5 : Int32) (μ : xM) : Option ((Int32 × xM) ⊕ ((Int32 × xM) ⊕ (Int32 × xM))) := if (xc 4096) ≤ v5 then ((fM_besides_186 v0 v2 v3 μ).map (fun o => .inr o)) else ((ldFR μ v0 9 59).bind fun x6 => (ldFR μ v0 9 57).bind fun x7 => (ldAZ μ x7 v5).bind fun x8 => if x8 = 0 then (fM_besides_178 v0 v2 v3 v4 v5 (((xc 4096) * v3) + v5) x6 μ) else ((fM_answerBy v0 ((xc 10) + v3) v5 μ).bind fun r9 => if r9 = v4 then (fM_besides_178 v0 v2 v3 v4 v5 (((xc 4096) * v3) + v5) x6 μ) else (fM_besides_179 v0 v2 v3 v4 v5 (xc 1) (((xc 4096) * v3) + v5) x6 μ)))
theorem fM_besides_L129_ok {d : Nat} {v0 : Nat} {v2 : Int32} {v3 : Int32} {v4 : Int32} {v5 : Int32} {μ : xM} {rv : Option Value} {μf : xM} {out : (Int32 × xM) ⊕ ((Int32 × xM) ⊕ (Int32 × xM))} (h : fM_besides_L129 v0 v2 v3 v4 v5 μ = some out) (hK : fM_besides_K129 v0 v2 v3 v4 d rv μf out) : xRun (d + 3) 201 129 [some (.ref v0), none, some (.int v2), some (.int v3), some (.int v4), some (.int v5)] [] μ rv μf := by
  unfold fM_besides_L129 at h
  refine xr_go 2 (pc' := 134) (lo' := [some (.ref v0), none, some (.int v2), some (.int v3), some (.int v4), some (.int v5)]) (st' := [.int (xc 4096), .int v5]) (μ' := μ) rfl ?_
  refine xr_icmp (pct := 186) rfl rfl rfl (fun hc => ?_) (fun hc => ?_)
  · replace h := (if_pos (of_decide_eq_true hc)).symm.trans h
    refine xr_forget (lo := [some (.ref v0), none, some (.int v2), some (.int v3), none, none]) ⟨rfl, rfl, rfl, trivial⟩ ?_
    obtain ⟨o, h2, rfl⟩ := Option.map_eq_some_iff.mp h
    exact fM_besides_186_ok h2 hK
  · replace h := (if_neg (of_decide_eq_false hc)).symm.trans h
    refine xr_go 1 (pc' := 138) (lo' := [some (.ref v0), none, some (.int v2), some (.int v3), some (.int v4), some (.int v5)]) (st' := [.ref v0]) (μ' := μ) rfl ?_
    obtain ⟨x6, hx6, h⟩ := Option.bind_eq_some_iff.mp h
    refine xr_opA (pc' := 141) (lo' := [some (.ref v0), none, some (.int v2), some (.int v3), some (.int v4), some (.int v5)]) (st' := []) (o := ldFR μ v0 9 59) rfl hx6 ?_
    refine xr_go 6 (pc' := 150) (lo' := [some (.ref v0), none, some (.int v2), some (.int v3), some (.int v4), some (.int v5)]) (st' := [.ref v0, .int (((xc 4096) * v3) + v5), .ref x6]) (μ' := μ) rfl ?_
    obtain ⟨x7, hx7, h⟩ := Option.bind_eq_some_iff.mp h
    refine xr_opA (pc' := 153) (lo' := [some (.ref v0), none, some (.int v2), some (.int v3), some (.int v4), some (.int v5)]) (st' := [.int (((xc 4096) * v3) + v5), .ref x6]) (o := ldFR μ v0 9 57) rfl hx7 ?_
    refine xr_go 1 (pc' := 155) (lo' := [some (.ref v0), none, some (.int v2), some (.int v3), some (.int v4), some (.int v5)]) (st' := [.int v5, .ref x7, .int (((xc 4096) * v3) + v5), .ref x6]) (μ' := μ) rfl ?_
    obtain ⟨x8, hx8, h⟩ := Option.bind_eq_some_iff.mp h
    refine xr_opI (pc' := 156) (lo' := [some (.ref v0), none, some (.int v2), some (.int v3), some (.int v4), some (.int v5)]) (st' := [.int (((xc 4096) * v3) + v5), .ref x6]) (o := ldAZ μ x7 v5) rfl hx8 ?_
    refine xr_ifc (pct := 178) rfl rfl rfl (fun hc => ?_) (fun hc => ?_)
    · replace h := (if_pos (of_decide_eq_true hc)).symm.trans h
      refine xr_forget (lo := [some (.ref v0), none, some (.int v2), some (.int v3), some (.int v4), some (.int v5)]) ⟨rfl, rfl, rfl, rfl, rfl, trivial⟩ ?_
      exact fM_besides_178_ok h hK
    · replace h := (if_neg (of_decide_eq_false hc)).symm.trans h
      refine xr_go 5 (pc' := 166) (lo' := [some (.ref v0), none, some (.int v2), some (.int v3), some (.int v4), some (.int v5)]) (st' := [.int v5, .int ((xc 10) + v3), .ref v0, .int (((xc 4096) * v3) + v5), .ref x6]) (μ' := μ) rfl ?_
      obtain ⟨r9, hr9, h⟩ := Option.bind_eq_some_iff.mp h
      refine xr_callV (j := 163) (d' := (d + 2)) (rv1 := some (.int r9)) (μ1 := μ) (rest := [.int (((xc 4096) * v3) + v5), .ref x6]) (As := [.int ((xc 10) + v3), .int v5]) rfl rfl rfl rfl (Nat.le_of_ble_eq_true rfl) (fM_answerBy_kd hr9) rfl (by exact (fM_answerBy_ok (d := d + (1)) hr9)) ?_
      refine xr_go 1 (pc' := 171) (lo' := [some (.ref v0), none, some (.int v2), some (.int v3), some (.int v4), some (.int v5)]) (st' := [.int v4, .int r9, .int (((xc 4096) * v3) + v5), .ref x6]) (μ' := μ) rfl ?_
      refine xr_icmp (pct := 178) rfl rfl rfl (fun hc => ?_) (fun hc => ?_)
      · replace h := (if_pos (of_decide_eq_true hc)).symm.trans h
        refine xr_forget (lo := [some (.ref v0), none, some (.int v2), some (.int v3), some (.int v4), some (.int v5)]) ⟨rfl, rfl, rfl, rfl, rfl, trivial⟩ ?_
        exact fM_besides_178_ok h hK
      · replace h := (if_neg (of_decide_eq_false hc)).symm.trans h
        refine xr_go 2 (pc' := 179) (lo' := [some (.ref v0), none, some (.int v2), some (.int v3), some (.int v4), some (.int v5)]) (st' := [.int (xc 1), .int (((xc 4096) * v3) + v5), .ref x6]) (μ' := μ) rfl ?_
        refine xr_forget (lo := [some (.ref v0), none, some (.int v2), some (.int v3), some (.int v4), some (.int v5)]) ⟨rfl, rfl, rfl, rfl, rfl, trivial⟩ ?_
        exact fM_besides_179_ok h hK
theorem fM_besides_L129_lp {d : Nat} {v0 : Nat} {v2 : Int32} {v3 : Int32} {v4 : Int32} {v5 : Int32} {μ : xM} {rv : Option Value} {μf : xM} {out : (Int32 × xM) ⊕ (Int32 × xM)} (h : xwh (fun s : Int32 × xM => fM_besides_L129 v0 v2 v3 v4 s.1 s.2) (v5, μ) = some out) (hK : fM_besides_K104 v0 v2 d rv μf out) : xRun (d + 3) 201 129 [some (.ref v0), none, some (.int v2), some (.int v3), some (.int v4), some (.int v5)] [] μ rv μf :=
  xwh_ind (Rh := fun s : Int32 × xM => xRun (d + 3) 201 129 [some (.ref v0), none, some (.int v2), some (.int v3), some (.int v4), some (.int s.1)] [] s.2 rv μf) (Co := fM_besides_K104 v0 v2 d rv μf) (fun s o hb hk => fM_besides_L129_ok hb hk) h hK
noncomputable def fM_besides_L104  (v0 : Nat) (v2 : Int32) (v3 : Int32) (μ : xM) : Option ((Int32 × xM) ⊕ (Int32 × xM)) := (ldF μ v0 9 9).bind fun x10 => if x10 ≤ v3 then ((fM_besides_192 v0 v2 μ).map (fun o => .inr o)) else ((fM_worldNow v0 μ).bind fun r11 => (fM_answerBy v0 ((xc 10) + v3) r11 μ).bind fun r12 => xwh (fun s : Int32 × xM => fM_besides_L129 v0 v2 v3 r12 s.1 s.2) (xc 0, μ))
theorem fM_besides_L104_ok {d : Nat} {v0 : Nat} {v2 : Int32} {v3 : Int32} {μ : xM} {rv : Option Value} {μf : xM} {out : (Int32 × xM) ⊕ (Int32 × xM)} (h : fM_besides_L104 v0 v2 v3 μ = some out) (hK : fM_besides_K104 v0 v2 d rv μf out) : xRun (d + 3) 201 104 [some (.ref v0), none, some (.int v2), some (.int v3), none, none] [] μ rv μf := by
  unfold fM_besides_L104 at h
  refine xr_go 2 (pc' := 106) (lo' := [some (.ref v0), none, some (.int v2), some (.int v3), none, none]) (st' := [.ref v0, .int v3]) (μ' := μ) rfl ?_
  obtain ⟨x10, hx10, h⟩ := Option.bind_eq_some_iff.mp h
  refine xr_opI (pc' := 109) (lo' := [some (.ref v0), none, some (.int v2), some (.int v3), none, none]) (st' := [.int v3]) (o := ldF μ v0 9 9) rfl hx10 ?_
  refine xr_icmp (pct := 192) rfl rfl rfl (fun hc => ?_) (fun hc => ?_)
  · replace h := (if_pos (of_decide_eq_true hc)).symm.trans h
    refine xr_forget (lo := [some (.ref v0), none, some (.int v2), none, none, none]) ⟨rfl, rfl, trivial⟩ ?_
    obtain ⟨o, h2, rfl⟩ := Option.map_eq_some_iff.mp h
    exact fM_besides_192_ok h2 hK
  · replace h := (if_neg (of_decide_eq_false hc)).symm.trans h
    refine xr_go 5 (pc' := 118) (lo' := [some (.ref v0), none, some (.int v2), some (.int v3), none, none]) (st' := [.ref v0, .int ((xc 10) + v3), .ref v0]) (μ' := μ) rfl ?_
    obtain ⟨r11, hr11, h⟩ := Option.bind_eq_some_iff.mp h
    refine xr_callV (j := 164) (d' := (d + 2)) (rv1 := some (.int r11)) (μ1 := μ) (rest := [.int ((xc 10) + v3), .ref v0]) (As := []) rfl rfl rfl rfl (Nat.le_of_ble_eq_true rfl) (fM_worldNow_kd hr11) rfl (by exact (fM_worldNow_ok (d := d + (2)) hr11)) ?_
    obtain ⟨r12, hr12, h⟩ := Option.bind_eq_some_iff.mp h
    refine xr_callV (j := 163) (d' := (d + 2)) (rv1 := some (.int r12)) (μ1 := μ) (rest := []) (As := [.int ((xc 10) + v3), .int r11]) rfl rfl rfl rfl (Nat.le_of_ble_eq_true rfl) (fM_answerBy_kd hr12) rfl (by exact (fM_answerBy_ok (d := d + (1)) hr12)) ?_
    refine xr_go 3 (pc' := 129) (lo' := [some (.ref v0), none, some (.int v2), some (.int v3), some (.int r12), some (.int (xc 0))]) (st' := []) (μ' := μ) rfl ?_
    refine xr_forget (lo := [some (.ref v0), none, some (.int v2), some (.int v3), some (.int r12), some (.int (xc 0))]) ⟨rfl, rfl, rfl, rfl, rfl, trivial⟩ ?_
    exact fM_besides_L129_lp h hK
theorem fM_besides_L104_lp {d : Nat} {v0 : Nat} {v2 : Int32} {v3 : Int32} {μ : xM} {rv : Option Value} {μf : xM} {out : Int32 × xM} (h : xwh (fun s : Int32 × xM => fM_besides_L104 v0 v2 s.1 s.2) (v3, μ) = some out) (hK : fM_besides_K rv μf out) : xRun (d + 3) 201 104 [some (.ref v0), none, some (.int v2), some (.int v3), none, none] [] μ rv μf :=
  xwh_ind (Rh := fun s : Int32 × xM => xRun (d + 3) 201 104 [some (.ref v0), none, some (.int v2), some (.int s.1), none, none] [] s.2 rv μf) (Co := fM_besides_K rv μf) (fun s o hb hk => fM_besides_L104_ok hb hk) h hK
noncomputable def fM_besides_102  (v0 : Nat) (v2 : Int32) (μ : xM) : Option (Int32 × xM) := xwh (fun s : Int32 × xM => fM_besides_L104 v0 v2 s.1 s.2) (xc 0, μ)
theorem fM_besides_102_ok {d : Nat} {v0 : Nat} {v2 : Int32} {μ : xM} {rv : Option Value} {μf : xM} {out : Int32 × xM} (h : fM_besides_102 v0 v2 μ = some out) (hK : fM_besides_K rv μf out) : xRun (d + 3) 201 102 [some (.ref v0), none, some (.int v2), none, none, none] [] μ rv μf := by
  unfold fM_besides_102 at h
  refine xr_go 2 (pc' := 104) (lo' := [some (.ref v0), none, some (.int v2), some (.int (xc 0)), none, none]) (st' := []) (μ' := μ) rfl ?_
  refine xr_forget (lo := [some (.ref v0), none, some (.int v2), some (.int (xc 0)), none, none]) ⟨rfl, rfl, rfl, trivial⟩ ?_
  exact fM_besides_L104_lp h hK
noncomputable def fM_besides_95  (v0 : Nat) (v1 : Int32) (v2 : Int32) (v3 : Int32) (s0 : Int32) (s1 : Int32) (s2 : Nat) (μ : xM) : Option ((Int32 × xM) ⊕ (Int32 × xM)) := (stA μ s2 s1 s0).bind fun μ13 => some (.inl ((v3 + xc 1, μ13)))
theorem fM_besides_95_ok {d : Nat} {v0 : Nat} {v1 : Int32} {v2 : Int32} {v3 : Int32} {s0 : Int32} {s1 : Int32} {s2 : Nat} {μ : xM} {rv : Option Value} {μf : xM} {out : (Int32 × xM) ⊕ (Int32 × xM)} (h : fM_besides_95 v0 v1 v2 v3 s0 s1 s2 μ = some out) (hK : fM_besides_K53 v0 v1 v2 d rv μf out) : xRun (d + 3) 201 95 [some (.ref v0), some (.int v1), some (.int v2), some (.int v3), none, none] [.int s0, .int s1, .ref s2] μ rv μf := by
  unfold fM_besides_95 at h
  obtain ⟨μ13, hμ13, h⟩ := Option.bind_eq_some_iff.mp h
  refine xr_opM (pc' := 96) (lo' := [some (.ref v0), some (.int v1), some (.int v2), some (.int v3), none, none]) (st' := []) (o := stA μ s2 s1 s0) rfl hμ13 ?_
  refine xr_go 2 (pc' := 53) (lo' := [some (.ref v0), some (.int v1), some (.int v2), some (.int (v3 + xc 1)), none, none]) (st' := []) (μ' := μ13) rfl ?_
  refine xr_forget (lo := [some (.ref v0), some (.int v1), some (.int v2), some (.int (v3 + xc 1)), none, none]) ⟨rfl, rfl, rfl, rfl, trivial⟩ ?_
  have ho := Option.some.inj h
  subst ho
  exact hK
noncomputable def fM_besides_L53  (v0 : Nat) (v1 : Int32) (v2 : Int32) (v3 : Int32) (μ : xM) : Option ((Int32 × xM) ⊕ (Int32 × xM)) := if (xc 4096) ≤ v3 then ((fM_besides_102 v0 v2 μ).map (fun o => .inr o)) else ((ldFR μ v0 9 57).bind fun x14 => (fM_isWorld v0 v3 μ).bind fun r15 => (stAZ μ x14 v3 r15).bind fun μ16 => (ldFR μ16 v0 9 58).bind fun x17 => (ldFR μ16 v0 9 57).bind fun x18 => (ldAZ μ16 x18 v3).bind fun x19 => if x19 = 0 then (fM_besides_95 v0 v1 v2 v3 (xc 0) v3 x17 μ16) else ((fM_answerBy v0 v1 v3 μ16).bind fun r20 => fM_besides_95 v0 v1 v2 v3 r20 v3 x17 μ16))
theorem fM_besides_L53_ok {d : Nat} {v0 : Nat} {v1 : Int32} {v2 : Int32} {v3 : Int32} {μ : xM} {rv : Option Value} {μf : xM} {out : (Int32 × xM) ⊕ (Int32 × xM)} (h : fM_besides_L53 v0 v1 v2 v3 μ = some out) (hK : fM_besides_K53 v0 v1 v2 d rv μf out) : xRun (d + 3) 201 53 [some (.ref v0), some (.int v1), some (.int v2), some (.int v3), none, none] [] μ rv μf := by
  unfold fM_besides_L53 at h
  refine xr_go 2 (pc' := 57) (lo' := [some (.ref v0), some (.int v1), some (.int v2), some (.int v3), none, none]) (st' := [.int (xc 4096), .int v3]) (μ' := μ) rfl ?_
  refine xr_icmp (pct := 102) rfl rfl rfl (fun hc => ?_) (fun hc => ?_)
  · replace h := (if_pos (of_decide_eq_true hc)).symm.trans h
    refine xr_forget (lo := [some (.ref v0), none, some (.int v2), none, none, none]) ⟨rfl, rfl, trivial⟩ ?_
    obtain ⟨o, h2, rfl⟩ := Option.map_eq_some_iff.mp h
    exact fM_besides_102_ok h2 hK
  · replace h := (if_neg (of_decide_eq_false hc)).symm.trans h
    refine xr_go 1 (pc' := 61) (lo' := [some (.ref v0), some (.int v1), some (.int v2), some (.int v3), none, none]) (st' := [.ref v0]) (μ' := μ) rfl ?_
    obtain ⟨x14, hx14, h⟩ := Option.bind_eq_some_iff.mp h
    refine xr_opA (pc' := 64) (lo' := [some (.ref v0), some (.int v1), some (.int v2), some (.int v3), none, none]) (st' := []) (o := ldFR μ v0 9 57) rfl hx14 ?_
    refine xr_go 3 (pc' := 67) (lo' := [some (.ref v0), some (.int v1), some (.int v2), some (.int v3), none, none]) (st' := [.int v3, .ref v0, .int v3, .ref x14]) (μ' := μ) rfl ?_
    obtain ⟨r15, hr15, h⟩ := Option.bind_eq_some_iff.mp h
    refine xr_callV (j := 197) (d' := (d + 2)) (rv1 := some (.int r15)) (μ1 := μ) (rest := [.int v3, .ref x14]) (As := [.int v3]) rfl rfl rfl rfl (Nat.le_of_ble_eq_true rfl) (fM_isWorld_kd hr15) rfl (by exact (fM_isWorld_ok (d := d + (0)) hr15)) ?_
    obtain ⟨μ16, hμ16, h⟩ := Option.bind_eq_some_iff.mp h
    refine xr_opM (pc' := 71) (lo' := [some (.ref v0), some (.int v1), some (.int v2), some (.int v3), none, none]) (st' := []) (o := stAZ μ x14 v3 r15) rfl hμ16 ?_
    refine xr_go 1 (pc' := 72) (lo' := [some (.ref v0), some (.int v1), some (.int v2), some (.int v3), none, none]) (st' := [.ref v0]) (μ' := μ16) rfl ?_
    obtain ⟨x17, hx17, h⟩ := Option.bind_eq_some_iff.mp h
    refine xr_opA (pc' := 75) (lo' := [some (.ref v0), some (.int v1), some (.int v2), some (.int v3), none, none]) (st' := []) (o := ldFR μ16 v0 9 58) rfl hx17 ?_
    refine xr_go 2 (pc' := 77) (lo' := [some (.ref v0), some (.int v1), some (.int v2), some (.int v3), none, none]) (st' := [.ref v0, .int v3, .ref x17]) (μ' := μ16) rfl ?_
    obtain ⟨x18, hx18, h⟩ := Option.bind_eq_some_iff.mp h
    refine xr_opA (pc' := 80) (lo' := [some (.ref v0), some (.int v1), some (.int v2), some (.int v3), none, none]) (st' := [.int v3, .ref x17]) (o := ldFR μ16 v0 9 57) rfl hx18 ?_
    refine xr_go 1 (pc' := 81) (lo' := [some (.ref v0), some (.int v1), some (.int v2), some (.int v3), none, none]) (st' := [.int v3, .ref x18, .int v3, .ref x17]) (μ' := μ16) rfl ?_
    obtain ⟨x19, hx19, h⟩ := Option.bind_eq_some_iff.mp h
    refine xr_opI (pc' := 82) (lo' := [some (.ref v0), some (.int v1), some (.int v2), some (.int v3), none, none]) (st' := [.int v3, .ref x17]) (o := ldAZ μ16 x18 v3) rfl hx19 ?_
    refine xr_ifc (pct := 94) rfl rfl rfl (fun hc => ?_) (fun hc => ?_)
    · replace h := (if_pos (of_decide_eq_true hc)).symm.trans h
      refine xr_go 1 (pc' := 95) (lo' := [some (.ref v0), some (.int v1), some (.int v2), some (.int v3), none, none]) (st' := [.int (xc 0), .int v3, .ref x17]) (μ' := μ16) rfl ?_
      refine xr_forget (lo := [some (.ref v0), some (.int v1), some (.int v2), some (.int v3), none, none]) ⟨rfl, rfl, rfl, rfl, trivial⟩ ?_
      exact fM_besides_95_ok h hK
    · replace h := (if_neg (of_decide_eq_false hc)).symm.trans h
      refine xr_go 3 (pc' := 88) (lo' := [some (.ref v0), some (.int v1), some (.int v2), some (.int v3), none, none]) (st' := [.int v3, .int v1, .ref v0, .int v3, .ref x17]) (μ' := μ16) rfl ?_
      obtain ⟨r20, hr20, h⟩ := Option.bind_eq_some_iff.mp h
      refine xr_callV (j := 163) (d' := (d + 2)) (rv1 := some (.int r20)) (μ1 := μ16) (rest := [.int v3, .ref x17]) (As := [.int v1, .int v3]) rfl rfl rfl rfl (Nat.le_of_ble_eq_true rfl) (fM_answerBy_kd hr20) rfl (by exact (fM_answerBy_ok (d := d + (1)) hr20)) ?_
      refine xr_go 1 (pc' := 95) (lo' := [some (.ref v0), some (.int v1), some (.int v2), some (.int v3), none, none]) (st' := [.int r20, .int v3, .ref x17]) (μ' := μ16) rfl ?_
      refine xr_forget (lo := [some (.ref v0), some (.int v1), some (.int v2), some (.int v3), none, none]) ⟨rfl, rfl, rfl, rfl, trivial⟩ ?_
      exact fM_besides_95_ok h hK
theorem fM_besides_L53_lp {d : Nat} {v0 : Nat} {v1 : Int32} {v2 : Int32} {v3 : Int32} {μ : xM} {rv : Option Value} {μf : xM} {out : Int32 × xM} (h : xwh (fun s : Int32 × xM => fM_besides_L53 v0 v1 v2 s.1 s.2) (v3, μ) = some out) (hK : fM_besides_K rv μf out) : xRun (d + 3) 201 53 [some (.ref v0), some (.int v1), some (.int v2), some (.int v3), none, none] [] μ rv μf :=
  xwh_ind (Rh := fun s : Int32 × xM => xRun (d + 3) 201 53 [some (.ref v0), some (.int v1), some (.int v2), some (.int s.1), none, none] [] s.2 rv μf) (Co := fM_besides_K rv μf) (fun s o hb hk => fM_besides_L53_ok hb hk) h hK
noncomputable def fM_besides_51  (v0 : Nat) (v1 : Int32) (v2 : Int32) (μ : xM) : Option (Int32 × xM) := xwh (fun s : Int32 × xM => fM_besides_L53 v0 v1 v2 s.1 s.2) (xc 0, μ)
theorem fM_besides_51_ok {d : Nat} {v0 : Nat} {v1 : Int32} {v2 : Int32} {μ : xM} {rv : Option Value} {μf : xM} {out : Int32 × xM} (h : fM_besides_51 v0 v1 v2 μ = some out) (hK : fM_besides_K rv μf out) : xRun (d + 3) 201 51 [some (.ref v0), some (.int v1), some (.int v2), none, none, none] [] μ rv μf := by
  unfold fM_besides_51 at h
  refine xr_go 2 (pc' := 53) (lo' := [some (.ref v0), some (.int v1), some (.int v2), some (.int (xc 0)), none, none]) (st' := []) (μ' := μ) rfl ?_
  refine xr_forget (lo := [some (.ref v0), some (.int v1), some (.int v2), some (.int (xc 0)), none, none]) ⟨rfl, rfl, rfl, rfl, trivial⟩ ?_
  exact fM_besides_L53_lp h hK
noncomputable def fM_besides_43  (v0 : Nat) (v1 : Int32) (v3 : Int32) (s0 : Int32) (s1 : Int32) (μ : xM) : Option ((Int32 × Int32) ⊕ (Int32 × xM)) := some (.inl ((s1 ||| s0, v3 + xc 1)))
theorem fM_besides_43_ok {d : Nat} {v0 : Nat} {v1 : Int32} {v3 : Int32} {s0 : Int32} {s1 : Int32} {μ : xM} {rv : Option Value} {μf : xM} {out : (Int32 × Int32) ⊕ (Int32 × xM)} (h : fM_besides_43 v0 v1 v3 s0 s1 μ = some out) (hK : fM_besides_K18 v0 v1 μ d rv μf out) : xRun (d + 3) 201 43 [some (.ref v0), some (.int v1), none, some (.int v3), none, none] [.int s0, .int s1] μ rv μf := by
  unfold fM_besides_43 at h
  refine xr_go 4 (pc' := 18) (lo' := [some (.ref v0), some (.int v1), some (.int (s1 ||| s0)), some (.int (v3 + xc 1)), none, none]) (st' := []) (μ' := μ) rfl ?_
  refine xr_forget (lo := [some (.ref v0), some (.int v1), some (.int (s1 ||| s0)), some (.int (v3 + xc 1)), none, none]) ⟨rfl, rfl, rfl, rfl, trivial⟩ ?_
  have ho := Option.some.inj h
  subst ho
  exact hK
noncomputable def fM_besides_L18  (v0 : Nat) (v1 : Int32) (v2 : Int32) (v3 : Int32) (μ : xM) : Option ((Int32 × Int32) ⊕ (Int32 × xM)) := (ldF μ v0 9 9).bind fun x21 => if x21 ≤ v3 then ((fM_besides_51 v0 v1 v2 μ).map (fun o => .inr o)) else ((ldFR μ v0 9 16).bind fun x22 => (ldA μ x22 v3).bind fun x23 => if 0 ≤ x23 then (fM_besides_43 v0 v1 v3 (xc 0) v2 μ) else (fM_besides_43 v0 v1 v3 ((xc 1) <<< (v3 &&& 31)) v2 μ))
theorem fM_besides_L18_ok {d : Nat} {v0 : Nat} {v1 : Int32} {v2 : Int32} {v3 : Int32} {μ : xM} {rv : Option Value} {μf : xM} {out : (Int32 × Int32) ⊕ (Int32 × xM)} (h : fM_besides_L18 v0 v1 v2 v3 μ = some out) (hK : fM_besides_K18 v0 v1 μ d rv μf out) : xRun (d + 3) 201 18 [some (.ref v0), some (.int v1), some (.int v2), some (.int v3), none, none] [] μ rv μf := by
  unfold fM_besides_L18 at h
  refine xr_go 2 (pc' := 20) (lo' := [some (.ref v0), some (.int v1), some (.int v2), some (.int v3), none, none]) (st' := [.ref v0, .int v3]) (μ' := μ) rfl ?_
  obtain ⟨x21, hx21, h⟩ := Option.bind_eq_some_iff.mp h
  refine xr_opI (pc' := 23) (lo' := [some (.ref v0), some (.int v1), some (.int v2), some (.int v3), none, none]) (st' := [.int v3]) (o := ldF μ v0 9 9) rfl hx21 ?_
  refine xr_icmp (pct := 51) rfl rfl rfl (fun hc => ?_) (fun hc => ?_)
  · replace h := (if_pos (of_decide_eq_true hc)).symm.trans h
    refine xr_forget (lo := [some (.ref v0), some (.int v1), some (.int v2), none, none, none]) ⟨rfl, rfl, rfl, trivial⟩ ?_
    obtain ⟨o, h2, rfl⟩ := Option.map_eq_some_iff.mp h
    exact fM_besides_51_ok h2 hK
  · replace h := (if_neg (of_decide_eq_false hc)).symm.trans h
    refine xr_go 2 (pc' := 28) (lo' := [some (.ref v0), some (.int v1), some (.int v2), some (.int v3), none, none]) (st' := [.ref v0, .int v2]) (μ' := μ) rfl ?_
    obtain ⟨x22, hx22, h⟩ := Option.bind_eq_some_iff.mp h
    refine xr_opA (pc' := 31) (lo' := [some (.ref v0), some (.int v1), some (.int v2), some (.int v3), none, none]) (st' := [.int v2]) (o := ldFR μ v0 9 16) rfl hx22 ?_
    refine xr_go 1 (pc' := 32) (lo' := [some (.ref v0), some (.int v1), some (.int v2), some (.int v3), none, none]) (st' := [.int v3, .ref x22, .int v2]) (μ' := μ) rfl ?_
    obtain ⟨x23, hx23, h⟩ := Option.bind_eq_some_iff.mp h
    refine xr_opI (pc' := 33) (lo' := [some (.ref v0), some (.int v1), some (.int v2), some (.int v3), none, none]) (st' := [.int v2]) (o := ldA μ x22 v3) rfl hx23 ?_
    refine xr_ifc (pct := 42) rfl rfl rfl (fun hc => ?_) (fun hc => ?_)
    · replace h := (if_pos (of_decide_eq_true hc)).symm.trans h
      refine xr_go 1 (pc' := 43) (lo' := [some (.ref v0), some (.int v1), some (.int v2), some (.int v3), none, none]) (st' := [.int (xc 0), .int v2]) (μ' := μ) rfl ?_
      refine xr_forget (lo := [some (.ref v0), some (.int v1), none, some (.int v3), none, none]) ⟨rfl, rfl, rfl, trivial⟩ ?_
      exact fM_besides_43_ok h hK
    · replace h := (if_neg (of_decide_eq_false hc)).symm.trans h
      refine xr_go 4 (pc' := 43) (lo' := [some (.ref v0), some (.int v1), some (.int v2), some (.int v3), none, none]) (st' := [.int ((xc 1) <<< (v3 &&& 31)), .int v2]) (μ' := μ) rfl ?_
      refine xr_forget (lo := [some (.ref v0), some (.int v1), none, some (.int v3), none, none]) ⟨rfl, rfl, rfl, trivial⟩ ?_
      exact fM_besides_43_ok h hK
theorem fM_besides_L18_lp {d : Nat} {v0 : Nat} {v1 : Int32} {v2 : Int32} {v3 : Int32} {μ : xM} {rv : Option Value} {μf : xM} {out : Int32 × xM} (h : xwh (fun s : Int32 × Int32 => fM_besides_L18 v0 v1 s.1 s.2 μ) (v2, v3) = some out) (hK : fM_besides_K rv μf out) : xRun (d + 3) 201 18 [some (.ref v0), some (.int v1), some (.int v2), some (.int v3), none, none] [] μ rv μf :=
  xwh_ind (Rh := fun s : Int32 × Int32 => xRun (d + 3) 201 18 [some (.ref v0), some (.int v1), some (.int s.1), some (.int s.2), none, none] [] μ rv μf) (Co := fM_besides_K rv μf) (fun s o hb hk => fM_besides_L18_ok hb hk) h hK
noncomputable def fM_besides_0  (v0 : Nat) (v1 : Int32) (μ : xM) : Option (Int32 × xM) := (fM_isAsk v0 v1 μ).bind fun r24 => if r24 = 0 then ((fM_refuse v0 (xc (-1)) μ).bind fun r25 => some ((r25.1, r25.2))) else (xwh (fun s : Int32 × Int32 => fM_besides_L18 v0 v1 s.1 s.2 μ) (xc 0, xc 0))
theorem fM_besides_0_ok {d : Nat} {v0 : Nat} {v1 : Int32} {μ : xM} {rv : Option Value} {μf : xM} {out : Int32 × xM} (h : fM_besides_0 v0 v1 μ = some out) (hK : fM_besides_K rv μf out) : xRun (d + 3) 201 0 [some (.ref v0), some (.int v1), none, none, none, none] [] μ rv μf := by
  unfold fM_besides_0 at h
  refine xr_go 2 (pc' := 2) (lo' := [some (.ref v0), some (.int v1), none, none, none, none]) (st' := [.int v1, .ref v0]) (μ' := μ) rfl ?_
  obtain ⟨r24, hr24, h⟩ := Option.bind_eq_some_iff.mp h
  refine xr_callV (j := 139) (d' := (d + 2)) (rv1 := some (.int r24)) (μ1 := μ) (rest := []) (As := [.int v1]) rfl rfl rfl rfl (Nat.le_of_ble_eq_true rfl) (fM_isAsk_kd hr24) rfl (by exact (fM_isAsk_ok (d := d + (1)) hr24)) ?_
  refine xr_ifc (pct := 14) rfl rfl rfl (fun hc => ?_) (fun hc => ?_)
  · replace h := (if_neg (of_decide_eq_true hc)).symm.trans h
    refine xr_go 4 (pc' := 18) (lo' := [some (.ref v0), some (.int v1), some (.int (xc 0)), some (.int (xc 0)), none, none]) (st' := []) (μ' := μ) rfl ?_
    refine xr_forget (lo := [some (.ref v0), some (.int v1), some (.int (xc 0)), some (.int (xc 0)), none, none]) ⟨rfl, rfl, rfl, rfl, trivial⟩ ?_
    exact fM_besides_L18_lp h hK
  · replace h := (if_pos (Decidable.of_not_not (of_decide_eq_false hc))).symm.trans h
    refine xr_go 2 (pc' := 10) (lo' := [some (.ref v0), some (.int v1), none, none, none, none]) (st' := [.int (xc (-1)), .ref v0]) (μ' := μ) rfl ?_
    obtain ⟨r25, hr25, h⟩ := Option.bind_eq_some_iff.mp h
    refine xr_callV (j := 138) (d' := (d + 2)) (rv1 := some (.int r25.1)) (μ1 := r25.2) (rest := []) (As := [.int (xc (-1))]) rfl rfl rfl rfl (Nat.le_of_ble_eq_true rfl) (fM_refuse_kd hr25) rfl (by exact (fM_refuse_ok (d := d + (2)) hr25)) ?_
    have ho := Option.some.inj h
    subst ho
    obtain ⟨rfl, rfl⟩ := hK
    exact xr_ret (rv := some (.int r25.1)) rfl rfl (Or.inl rfl)
noncomputable def fM_besides (a0 : Nat) (a1 : Int32) (μ : xM) : Option (Int32 × xM) := xgd μ a0 9 (fM_besides_0 a0 a1 μ)
theorem fM_besides_kd {a0 : Nat} {a1 : Int32} {μ : xM} {o : Int32 × xM} (h : fM_besides a0 a1 μ = some o) : (xK μ a0).1 = 10 + 9 := (xgd_some h).1
theorem fM_besides_ok {d : Nat} {a0 : Nat} {a1 : Int32} {μ : xM} {o : Int32 × xM} (h : fM_besides a0 a1 μ = some o) : xRun (d + 3) 201 0 [some (.ref a0), some (.int a1), none, none, none, none] [] μ (some (.int o.1)) o.2 :=
  xr_forget (lo := [some (.ref a0), some (.int a1), none, none, none, none]) (⟨rfl, rfl, trivial⟩) (fM_besides_0_ok (d := d) (xgd_some h).2 (show fM_besides_K _ _ o from ⟨rfl, rfl⟩))
-- KeptAnswers.weight(II)I 
def fX_weight_K (rv : Option Value) (μf : xM) : (Int32 × xM) → Prop := fun o => rv = some (.int o.1) ∧ μf = o.2
noncomputable def fX_weight_0  (v0 : Nat) (v1 : Int32) (v2 : Int32) (μ : xM) : Option (Int32 × xM) := (fX_isAsk v0 v1 μ).bind fun r1 => if r1 = 0 then ((fX_refuse v0 (xc (-1)) μ).bind fun r10 => some ((r10.1, r10.2))) else (if 0 ≤ v2 then (if v2 ≤ (xc 99) then ((ldFR μ v0 0 0).bind fun x2 => (ldFR μ x2 3 11).bind fun x3 => (ldA μ x3 v1).bind fun x4 => (ldFR μ v0 0 0).bind fun x5 => (ldFR μ x5 3 11).bind fun x6 => (stA μ x6 v1 v2).bind fun μ7 => some ((x4, μ7))) else ((fX_refuse v0 (xc (-6)) μ).bind fun r8 => some ((r8.1, r8.2)))) else ((fX_refuse v0 (xc (-4)) μ).bind fun r9 => some ((r9.1, r9.2))))
theorem fX_weight_0_ok {d : Nat} {v0 : Nat} {v1 : Int32} {v2 : Int32} {μ : xM} {rv : Option Value} {μf : xM} {out : Int32 × xM} (h : fX_weight_0 v0 v1 v2 μ = some out) (hK : fX_weight_K rv μf out) : xRun (d + 1) 25 0 [some (.ref v0), some (.int v1), some (.int v2), none] [] μ rv μf := by
  unfold fX_weight_0 at h
  refine xr_go 2 (pc' := 2) (lo' := [some (.ref v0), some (.int v1), some (.int v2), none]) (st' := [.int v1, .ref v0]) (μ' := μ) rfl ?_
  obtain ⟨r1, hr1, h⟩ := Option.bind_eq_some_iff.mp h
  refine xr_callV (j := 39) (d' := (d + 0)) (rv1 := some (.int r1)) (μ1 := μ) (rest := []) (As := [.int v1]) rfl rfl rfl rfl (Nat.le_of_ble_eq_true rfl) (fX_isAsk_kd hr1) rfl (by exact (fX_isAsk_ok (d := d + (0)) hr1)) ?_
  refine xr_ifc (pct := 14) rfl rfl rfl (fun hc => ?_) (fun hc => ?_)
  · replace h := (if_neg (of_decide_eq_true hc)).symm.trans h
    refine xr_go 1 (pc' := 15) (lo' := [some (.ref v0), some (.int v1), some (.int v2), none]) (st' := [.int v2]) (μ' := μ) rfl ?_
    refine xr_ifc (pct := 25) rfl rfl rfl (fun hc => ?_) (fun hc => ?_)
    · replace h := (if_pos (of_decide_eq_true hc)).symm.trans h
      refine xr_go 2 (pc' := 28) (lo' := [some (.ref v0), some (.int v1), some (.int v2), none]) (st' := [.int (xc 99), .int v2]) (μ' := μ) rfl ?_
      refine xr_icmp (pct := 38) rfl rfl rfl (fun hc => ?_) (fun hc => ?_)
      · replace h := (if_pos (of_decide_eq_true hc)).symm.trans h
        refine xr_go 1 (pc' := 39) (lo' := [some (.ref v0), some (.int v1), some (.int v2), none]) (st' := [.ref v0]) (μ' := μ) rfl ?_
        obtain ⟨x2, hx2, h⟩ := Option.bind_eq_some_iff.mp h
        refine xr_opA (pc' := 42) (lo' := [some (.ref v0), some (.int v1), some (.int v2), none]) (st' := []) (o := ldFR μ v0 0 0) rfl hx2 ?_
        obtain ⟨x3, hx3, h⟩ := Option.bind_eq_some_iff.mp h
        refine xr_opA (pc' := 45) (lo' := [some (.ref v0), some (.int v1), some (.int v2), none]) (st' := []) (o := ldFR μ x2 3 11) rfl hx3 ?_
        refine xr_go 1 (pc' := 46) (lo' := [some (.ref v0), some (.int v1), some (.int v2), none]) (st' := [.int v1, .ref x3]) (μ' := μ) rfl ?_
        obtain ⟨x4, hx4, h⟩ := Option.bind_eq_some_iff.mp h
        refine xr_opI (pc' := 47) (lo' := [some (.ref v0), some (.int v1), some (.int v2), none]) (st' := []) (o := ldA μ x3 v1) rfl hx4 ?_
        refine xr_go 2 (pc' := 49) (lo' := [some (.ref v0), some (.int v1), some (.int v2), some (.int x4)]) (st' := [.ref v0]) (μ' := μ) rfl ?_
        obtain ⟨x5, hx5, h⟩ := Option.bind_eq_some_iff.mp h
        refine xr_opA (pc' := 52) (lo' := [some (.ref v0), some (.int v1), some (.int v2), some (.int x4)]) (st' := []) (o := ldFR μ v0 0 0) rfl hx5 ?_
        obtain ⟨x6, hx6, h⟩ := Option.bind_eq_some_iff.mp h
        refine xr_opA (pc' := 55) (lo' := [some (.ref v0), some (.int v1), some (.int v2), some (.int x4)]) (st' := []) (o := ldFR μ x5 3 11) rfl hx6 ?_
        refine xr_go 2 (pc' := 57) (lo' := [some (.ref v0), some (.int v1), some (.int v2), some (.int x4)]) (st' := [.int v2, .int v1, .ref x6]) (μ' := μ) rfl ?_
        obtain ⟨μ7, hμ7, h⟩ := Option.bind_eq_some_iff.mp h
        refine xr_opM (pc' := 58) (lo' := [some (.ref v0), some (.int v1), some (.int v2), some (.int x4)]) (st' := []) (o := stA μ x6 v1 v2) rfl hμ7 ?_
        refine xr_go 1 (pc' := 59) (lo' := [some (.ref v0), some (.int v1), some (.int v2), some (.int x4)]) (st' := [.int x4]) (μ' := μ7) rfl ?_
        have ho := Option.some.inj h
        subst ho
        obtain ⟨rfl, rfl⟩ := hK
        exact xr_ret (rv := some (.int x4)) rfl rfl (Or.inl rfl)
      · replace h := (if_neg (of_decide_eq_false hc)).symm.trans h
        refine xr_go 2 (pc' := 34) (lo' := [some (.ref v0), some (.int v1), some (.int v2), none]) (st' := [.int (xc (-6)), .ref v0]) (μ' := μ) rfl ?_
        obtain ⟨r8, hr8, h⟩ := Option.bind_eq_some_iff.mp h
        refine xr_callV (j := 37) (d' := (d + 0)) (rv1 := some (.int r8.1)) (μ1 := r8.2) (rest := []) (As := [.int (xc (-6))]) rfl rfl rfl rfl (Nat.le_of_ble_eq_true rfl) (fX_refuse_kd hr8) rfl (by exact (fX_refuse_ok (d := d + (0)) hr8)) ?_
        have ho := Option.some.inj h
        subst ho
        obtain ⟨rfl, rfl⟩ := hK
        exact xr_ret (rv := some (.int r8.1)) rfl rfl (Or.inl rfl)
    · replace h := (if_neg (of_decide_eq_false hc)).symm.trans h
      refine xr_go 2 (pc' := 21) (lo' := [some (.ref v0), some (.int v1), some (.int v2), none]) (st' := [.int (xc (-4)), .ref v0]) (μ' := μ) rfl ?_
      obtain ⟨r9, hr9, h⟩ := Option.bind_eq_some_iff.mp h
      refine xr_callV (j := 37) (d' := (d + 0)) (rv1 := some (.int r9.1)) (μ1 := r9.2) (rest := []) (As := [.int (xc (-4))]) rfl rfl rfl rfl (Nat.le_of_ble_eq_true rfl) (fX_refuse_kd hr9) rfl (by exact (fX_refuse_ok (d := d + (0)) hr9)) ?_
      have ho := Option.some.inj h
      subst ho
      obtain ⟨rfl, rfl⟩ := hK
      exact xr_ret (rv := some (.int r9.1)) rfl rfl (Or.inl rfl)
  · replace h := (if_pos (Decidable.of_not_not (of_decide_eq_false hc))).symm.trans h
    refine xr_go 2 (pc' := 10) (lo' := [some (.ref v0), some (.int v1), some (.int v2), none]) (st' := [.int (xc (-1)), .ref v0]) (μ' := μ) rfl ?_
    obtain ⟨r10, hr10, h⟩ := Option.bind_eq_some_iff.mp h
    refine xr_callV (j := 37) (d' := (d + 0)) (rv1 := some (.int r10.1)) (μ1 := r10.2) (rest := []) (As := [.int (xc (-1))]) rfl rfl rfl rfl (Nat.le_of_ble_eq_true rfl) (fX_refuse_kd hr10) rfl (by exact (fX_refuse_ok (d := d + (0)) hr10)) ?_
    have ho := Option.some.inj h
    subst ho
    obtain ⟨rfl, rfl⟩ := hK
    exact xr_ret (rv := some (.int r10.1)) rfl rfl (Or.inl rfl)
noncomputable def fX_weight (a0 : Nat) (a1 : Int32) (a2 : Int32) (μ : xM) : Option (Int32 × xM) := xgd μ a0 0 (fX_weight_0 a0 a1 a2 μ)
theorem fX_weight_kd {a0 : Nat} {a1 : Int32} {a2 : Int32} {μ : xM} {o : Int32 × xM} (h : fX_weight a0 a1 a2 μ = some o) : (xK μ a0).1 = 10 + 0 := (xgd_some h).1
theorem fX_weight_ok {d : Nat} {a0 : Nat} {a1 : Int32} {a2 : Int32} {μ : xM} {o : Int32 × xM} (h : fX_weight a0 a1 a2 μ = some o) : xRun (d + 1) 25 0 [some (.ref a0), some (.int a1), some (.int a2), none] [] μ (some (.int o.1)) o.2 :=
  xr_forget (lo := [some (.ref a0), some (.int a1), some (.int a2), none]) (⟨rfl, rfl, rfl, trivial⟩) (fX_weight_0_ok (d := d) (xgd_some h).2 (show fX_weight_K _ _ o from ⟨rfl, rfl⟩))
-- KeptAnswersModel.weight(II)I 
def fM_weight_K (rv : Option Value) (μf : xM) : (Int32 × xM) → Prop := fun o => rv = some (.int o.1) ∧ μf = o.2
noncomputable def fM_weight_0  (v0 : Nat) (v1 : Int32) (v2 : Int32) (μ : xM) : Option (Int32 × xM) := (fM_isAsk v0 v1 μ).bind fun r1 => if r1 = 0 then ((fM_refuse v0 (xc (-1)) μ).bind fun r8 => some ((r8.1, r8.2))) else (if 0 ≤ v2 then (if v2 ≤ (xc 99) then ((ldFR μ v0 9 17).bind fun x2 => (ldA μ x2 v1).bind fun x3 => (ldFR μ v0 9 17).bind fun x4 => (stA μ x4 v1 v2).bind fun μ5 => some ((x3, μ5))) else ((fM_refuse v0 (xc (-6)) μ).bind fun r6 => some ((r6.1, r6.2)))) else ((fM_refuse v0 (xc (-4)) μ).bind fun r7 => some ((r7.1, r7.2))))
theorem fM_weight_0_ok {d : Nat} {v0 : Nat} {v1 : Int32} {v2 : Int32} {μ : xM} {rv : Option Value} {μf : xM} {out : Int32 × xM} (h : fM_weight_0 v0 v1 v2 μ = some out) (hK : fM_weight_K rv μf out) : xRun (d + 2) 203 0 [some (.ref v0), some (.int v1), some (.int v2), none] [] μ rv μf := by
  unfold fM_weight_0 at h
  refine xr_go 2 (pc' := 2) (lo' := [some (.ref v0), some (.int v1), some (.int v2), none]) (st' := [.int v1, .ref v0]) (μ' := μ) rfl ?_
  obtain ⟨r1, hr1, h⟩ := Option.bind_eq_some_iff.mp h
  refine xr_callV (j := 139) (d' := (d + 1)) (rv1 := some (.int r1)) (μ1 := μ) (rest := []) (As := [.int v1]) rfl rfl rfl rfl (Nat.le_of_ble_eq_true rfl) (fM_isAsk_kd hr1) rfl (by exact (fM_isAsk_ok (d := d + (0)) hr1)) ?_
  refine xr_ifc (pct := 14) rfl rfl rfl (fun hc => ?_) (fun hc => ?_)
  · replace h := (if_neg (of_decide_eq_true hc)).symm.trans h
    refine xr_go 1 (pc' := 15) (lo' := [some (.ref v0), some (.int v1), some (.int v2), none]) (st' := [.int v2]) (μ' := μ) rfl ?_
    refine xr_ifc (pct := 25) rfl rfl rfl (fun hc => ?_) (fun hc => ?_)
    · replace h := (if_pos (of_decide_eq_true hc)).symm.trans h
      refine xr_go 2 (pc' := 28) (lo' := [some (.ref v0), some (.int v1), some (.int v2), none]) (st' := [.int (xc 99), .int v2]) (μ' := μ) rfl ?_
      refine xr_icmp (pct := 38) rfl rfl rfl (fun hc => ?_) (fun hc => ?_)
      · replace h := (if_pos (of_decide_eq_true hc)).symm.trans h
        refine xr_go 1 (pc' := 39) (lo' := [some (.ref v0), some (.int v1), some (.int v2), none]) (st' := [.ref v0]) (μ' := μ) rfl ?_
        obtain ⟨x2, hx2, h⟩ := Option.bind_eq_some_iff.mp h
        refine xr_opA (pc' := 42) (lo' := [some (.ref v0), some (.int v1), some (.int v2), none]) (st' := []) (o := ldFR μ v0 9 17) rfl hx2 ?_
        refine xr_go 1 (pc' := 43) (lo' := [some (.ref v0), some (.int v1), some (.int v2), none]) (st' := [.int v1, .ref x2]) (μ' := μ) rfl ?_
        obtain ⟨x3, hx3, h⟩ := Option.bind_eq_some_iff.mp h
        refine xr_opI (pc' := 44) (lo' := [some (.ref v0), some (.int v1), some (.int v2), none]) (st' := []) (o := ldA μ x2 v1) rfl hx3 ?_
        refine xr_go 2 (pc' := 46) (lo' := [some (.ref v0), some (.int v1), some (.int v2), some (.int x3)]) (st' := [.ref v0]) (μ' := μ) rfl ?_
        obtain ⟨x4, hx4, h⟩ := Option.bind_eq_some_iff.mp h
        refine xr_opA (pc' := 49) (lo' := [some (.ref v0), some (.int v1), some (.int v2), some (.int x3)]) (st' := []) (o := ldFR μ v0 9 17) rfl hx4 ?_
        refine xr_go 2 (pc' := 51) (lo' := [some (.ref v0), some (.int v1), some (.int v2), some (.int x3)]) (st' := [.int v2, .int v1, .ref x4]) (μ' := μ) rfl ?_
        obtain ⟨μ5, hμ5, h⟩ := Option.bind_eq_some_iff.mp h
        refine xr_opM (pc' := 52) (lo' := [some (.ref v0), some (.int v1), some (.int v2), some (.int x3)]) (st' := []) (o := stA μ x4 v1 v2) rfl hμ5 ?_
        refine xr_go 1 (pc' := 53) (lo' := [some (.ref v0), some (.int v1), some (.int v2), some (.int x3)]) (st' := [.int x3]) (μ' := μ5) rfl ?_
        have ho := Option.some.inj h
        subst ho
        obtain ⟨rfl, rfl⟩ := hK
        exact xr_ret (rv := some (.int x3)) rfl rfl (Or.inl rfl)
      · replace h := (if_neg (of_decide_eq_false hc)).symm.trans h
        refine xr_go 2 (pc' := 34) (lo' := [some (.ref v0), some (.int v1), some (.int v2), none]) (st' := [.int (xc (-6)), .ref v0]) (μ' := μ) rfl ?_
        obtain ⟨r6, hr6, h⟩ := Option.bind_eq_some_iff.mp h
        refine xr_callV (j := 138) (d' := (d + 1)) (rv1 := some (.int r6.1)) (μ1 := r6.2) (rest := []) (As := [.int (xc (-6))]) rfl rfl rfl rfl (Nat.le_of_ble_eq_true rfl) (fM_refuse_kd hr6) rfl (by exact (fM_refuse_ok (d := d + (1)) hr6)) ?_
        have ho := Option.some.inj h
        subst ho
        obtain ⟨rfl, rfl⟩ := hK
        exact xr_ret (rv := some (.int r6.1)) rfl rfl (Or.inl rfl)
    · replace h := (if_neg (of_decide_eq_false hc)).symm.trans h
      refine xr_go 2 (pc' := 21) (lo' := [some (.ref v0), some (.int v1), some (.int v2), none]) (st' := [.int (xc (-4)), .ref v0]) (μ' := μ) rfl ?_
      obtain ⟨r7, hr7, h⟩ := Option.bind_eq_some_iff.mp h
      refine xr_callV (j := 138) (d' := (d + 1)) (rv1 := some (.int r7.1)) (μ1 := r7.2) (rest := []) (As := [.int (xc (-4))]) rfl rfl rfl rfl (Nat.le_of_ble_eq_true rfl) (fM_refuse_kd hr7) rfl (by exact (fM_refuse_ok (d := d + (1)) hr7)) ?_
      have ho := Option.some.inj h
      subst ho
      obtain ⟨rfl, rfl⟩ := hK
      exact xr_ret (rv := some (.int r7.1)) rfl rfl (Or.inl rfl)
  · replace h := (if_pos (Decidable.of_not_not (of_decide_eq_false hc))).symm.trans h
    refine xr_go 2 (pc' := 10) (lo' := [some (.ref v0), some (.int v1), some (.int v2), none]) (st' := [.int (xc (-1)), .ref v0]) (μ' := μ) rfl ?_
    obtain ⟨r8, hr8, h⟩ := Option.bind_eq_some_iff.mp h
    refine xr_callV (j := 138) (d' := (d + 1)) (rv1 := some (.int r8.1)) (μ1 := r8.2) (rest := []) (As := [.int (xc (-1))]) rfl rfl rfl rfl (Nat.le_of_ble_eq_true rfl) (fM_refuse_kd hr8) rfl (by exact (fM_refuse_ok (d := d + (1)) hr8)) ?_
    have ho := Option.some.inj h
    subst ho
    obtain ⟨rfl, rfl⟩ := hK
    exact xr_ret (rv := some (.int r8.1)) rfl rfl (Or.inl rfl)
noncomputable def fM_weight (a0 : Nat) (a1 : Int32) (a2 : Int32) (μ : xM) : Option (Int32 × xM) := xgd μ a0 9 (fM_weight_0 a0 a1 a2 μ)
theorem fM_weight_kd {a0 : Nat} {a1 : Int32} {a2 : Int32} {μ : xM} {o : Int32 × xM} (h : fM_weight a0 a1 a2 μ = some o) : (xK μ a0).1 = 10 + 9 := (xgd_some h).1
theorem fM_weight_ok {d : Nat} {a0 : Nat} {a1 : Int32} {a2 : Int32} {μ : xM} {o : Int32 × xM} (h : fM_weight a0 a1 a2 μ = some o) : xRun (d + 2) 203 0 [some (.ref a0), some (.int a1), some (.int a2), none] [] μ (some (.int o.1)) o.2 :=
  xr_forget (lo := [some (.ref a0), some (.int a1), some (.int a2), none]) (⟨rfl, rfl, rfl, trivial⟩) (fM_weight_0_ok (d := d) (xgd_some h).2 (show fM_weight_K _ _ o from ⟨rfl, rfl⟩))
-- KeptAnswers.size(III)I 
def fX_size_K (rv : Option Value) (μf : xM) : (Int32 × xM) → Prop := fun o => rv = some (.int o.1) ∧ μf = o.2
noncomputable def fX_size_41  (v0 : Nat) (μ : xM) : Option (Int32 × xM) := (fX_refuse v0 (xc (-6)) μ).bind fun r1 => some ((r1.1, r1.2))
theorem fX_size_41_ok {d : Nat} {v0 : Nat} {μ : xM} {rv : Option Value} {μf : xM} {out : Int32 × xM} (h : fX_size_41 v0 μ = some out) (hK : fX_size_K rv μf out) : xRun (d + 1) 26 41 [some (.ref v0), none, none, none] [] μ rv μf := by
  unfold fX_size_41 at h
  refine xr_go 2 (pc' := 44) (lo' := [some (.ref v0), none, none, none]) (st' := [.int (xc (-6)), .ref v0]) (μ' := μ) rfl ?_
  obtain ⟨r1, hr1, h⟩ := Option.bind_eq_some_iff.mp h
  refine xr_callV (j := 37) (d' := (d + 0)) (rv1 := some (.int r1.1)) (μ1 := r1.2) (rest := []) (As := [.int (xc (-6))]) rfl rfl rfl rfl (Nat.le_of_ble_eq_true rfl) (fX_refuse_kd hr1) rfl (by exact (fX_refuse_ok (d := d + (0)) hr1)) ?_
  have ho := Option.some.inj h
  subst ho
  obtain ⟨rfl, rfl⟩ := hK
  exact xr_ret (rv := some (.int r1.1)) rfl rfl (Or.inl rfl)
noncomputable def fX_size_22  (v0 : Nat) (μ : xM) : Option (Int32 × xM) := (fX_refuse v0 (xc (-4)) μ).bind fun r2 => some ((r2.1, r2.2))
theorem fX_size_22_ok {d : Nat} {v0 : Nat} {μ : xM} {rv : Option Value} {μf : xM} {out : Int32 × xM} (h : fX_size_22 v0 μ = some out) (hK : fX_size_K rv μf out) : xRun (d + 1) 26 22 [some (.ref v0), none, none, none] [] μ rv μf := by
  unfold fX_size_22 at h
  refine xr_go 2 (pc' := 25) (lo' := [some (.ref v0), none, none, none]) (st' := [.int (xc (-4)), .ref v0]) (μ' := μ) rfl ?_
  obtain ⟨r2, hr2, h⟩ := Option.bind_eq_some_iff.mp h
  refine xr_callV (j := 37) (d' := (d + 0)) (rv1 := some (.int r2.1)) (μ1 := r2.2) (rest := []) (As := [.int (xc (-4))]) rfl rfl rfl rfl (Nat.le_of_ble_eq_true rfl) (fX_refuse_kd hr2) rfl (by exact (fX_refuse_ok (d := d + (0)) hr2)) ?_
  have ho := Option.some.inj h
  subst ho
  obtain ⟨rfl, rfl⟩ := hK
  exact xr_ret (rv := some (.int r2.1)) rfl rfl (Or.inl rfl)
noncomputable def fX_size_0  (v0 : Nat) (v1 : Int32) (v2 : Int32) (v3 : Int32) (μ : xM) : Option (Int32 × xM) := (fX_isView v0 v1 μ).bind fun r3 => if r3 = 0 then ((fX_refuse v0 (xc (-1)) μ).bind fun r10 => some ((r10.1, r10.2))) else (if v2 < 0 then (fX_size_22 v0 μ) else (if 0 ≤ v3 then (if (xc 99) < v2 then (fX_size_41 v0 μ) else (if v3 ≤ (xc 99) then ((ldFR μ v0 0 0).bind fun x4 => (ldFR μ x4 3 12).bind fun x5 => (stA μ x5 v1 v2).bind fun μ6 => (ldFR μ6 v0 0 0).bind fun x7 => (ldFR μ6 x7 3 13).bind fun x8 => (stA μ6 x8 v1 v3).bind fun μ9 => some ((xc 1, μ9))) else (fX_size_41 v0 μ))) else (fX_size_22 v0 μ)))
theorem fX_size_0_ok {d : Nat} {v0 : Nat} {v1 : Int32} {v2 : Int32} {v3 : Int32} {μ : xM} {rv : Option Value} {μf : xM} {out : Int32 × xM} (h : fX_size_0 v0 v1 v2 v3 μ = some out) (hK : fX_size_K rv μf out) : xRun (d + 1) 26 0 [some (.ref v0), some (.int v1), some (.int v2), some (.int v3)] [] μ rv μf := by
  unfold fX_size_0 at h
  refine xr_go 2 (pc' := 2) (lo' := [some (.ref v0), some (.int v1), some (.int v2), some (.int v3)]) (st' := [.int v1, .ref v0]) (μ' := μ) rfl ?_
  obtain ⟨r3, hr3, h⟩ := Option.bind_eq_some_iff.mp h
  refine xr_callV (j := 40) (d' := (d + 0)) (rv1 := some (.int r3)) (μ1 := μ) (rest := []) (As := [.int v1]) rfl rfl rfl rfl (Nat.le_of_ble_eq_true rfl) (fX_isView_kd hr3) rfl (by exact (fX_isView_ok (d := d + (0)) hr3)) ?_
  refine xr_ifc (pct := 14) rfl rfl rfl (fun hc => ?_) (fun hc => ?_)
  · replace h := (if_neg (of_decide_eq_true hc)).symm.trans h
    refine xr_go 1 (pc' := 15) (lo' := [some (.ref v0), some (.int v1), some (.int v2), some (.int v3)]) (st' := [.int v2]) (μ' := μ) rfl ?_
    refine xr_ifc (pct := 22) rfl rfl rfl (fun hc => ?_) (fun hc => ?_)
    · replace h := (if_pos (of_decide_eq_true hc)).symm.trans h
      refine xr_forget (lo := [some (.ref v0), none, none, none]) ⟨rfl, trivial⟩ ?_
      exact fX_size_22_ok h hK
    · replace h := (if_neg (of_decide_eq_false hc)).symm.trans h
      refine xr_go 1 (pc' := 19) (lo' := [some (.ref v0), some (.int v1), some (.int v2), some (.int v3)]) (st' := [.int v3]) (μ' := μ) rfl ?_
      refine xr_ifc (pct := 29) rfl rfl rfl (fun hc => ?_) (fun hc => ?_)
      · replace h := (if_pos (of_decide_eq_true hc)).symm.trans h
        refine xr_go 2 (pc' := 32) (lo' := [some (.ref v0), some (.int v1), some (.int v2), some (.int v3)]) (st' := [.int (xc 99), .int v2]) (μ' := μ) rfl ?_
        refine xr_icmp (pct := 41) rfl rfl rfl (fun hc => ?_) (fun hc => ?_)
        · replace h := (if_pos (of_decide_eq_true hc)).symm.trans h
          refine xr_forget (lo := [some (.ref v0), none, none, none]) ⟨rfl, trivial⟩ ?_
          exact fX_size_41_ok h hK
        · replace h := (if_neg (of_decide_eq_false hc)).symm.trans h
          refine xr_go 2 (pc' := 38) (lo' := [some (.ref v0), some (.int v1), some (.int v2), some (.int v3)]) (st' := [.int (xc 99), .int v3]) (μ' := μ) rfl ?_
          refine xr_icmp (pct := 48) rfl rfl rfl (fun hc => ?_) (fun hc => ?_)
          · replace h := (if_pos (of_decide_eq_true hc)).symm.trans h
            refine xr_go 1 (pc' := 49) (lo' := [some (.ref v0), some (.int v1), some (.int v2), some (.int v3)]) (st' := [.ref v0]) (μ' := μ) rfl ?_
            obtain ⟨x4, hx4, h⟩ := Option.bind_eq_some_iff.mp h
            refine xr_opA (pc' := 52) (lo' := [some (.ref v0), some (.int v1), some (.int v2), some (.int v3)]) (st' := []) (o := ldFR μ v0 0 0) rfl hx4 ?_
            obtain ⟨x5, hx5, h⟩ := Option.bind_eq_some_iff.mp h
            refine xr_opA (pc' := 55) (lo' := [some (.ref v0), some (.int v1), some (.int v2), some (.int v3)]) (st' := []) (o := ldFR μ x4 3 12) rfl hx5 ?_
            refine xr_go 2 (pc' := 57) (lo' := [some (.ref v0), some (.int v1), some (.int v2), some (.int v3)]) (st' := [.int v2, .int v1, .ref x5]) (μ' := μ) rfl ?_
            obtain ⟨μ6, hμ6, h⟩ := Option.bind_eq_some_iff.mp h
            refine xr_opM (pc' := 58) (lo' := [some (.ref v0), some (.int v1), some (.int v2), some (.int v3)]) (st' := []) (o := stA μ x5 v1 v2) rfl hμ6 ?_
            refine xr_go 1 (pc' := 59) (lo' := [some (.ref v0), some (.int v1), some (.int v2), some (.int v3)]) (st' := [.ref v0]) (μ' := μ6) rfl ?_
            obtain ⟨x7, hx7, h⟩ := Option.bind_eq_some_iff.mp h
            refine xr_opA (pc' := 62) (lo' := [some (.ref v0), some (.int v1), some (.int v2), some (.int v3)]) (st' := []) (o := ldFR μ6 v0 0 0) rfl hx7 ?_
            obtain ⟨x8, hx8, h⟩ := Option.bind_eq_some_iff.mp h
            refine xr_opA (pc' := 65) (lo' := [some (.ref v0), some (.int v1), some (.int v2), some (.int v3)]) (st' := []) (o := ldFR μ6 x7 3 13) rfl hx8 ?_
            refine xr_go 2 (pc' := 67) (lo' := [some (.ref v0), some (.int v1), some (.int v2), some (.int v3)]) (st' := [.int v3, .int v1, .ref x8]) (μ' := μ6) rfl ?_
            obtain ⟨μ9, hμ9, h⟩ := Option.bind_eq_some_iff.mp h
            refine xr_opM (pc' := 68) (lo' := [some (.ref v0), some (.int v1), some (.int v2), some (.int v3)]) (st' := []) (o := stA μ6 x8 v1 v3) rfl hμ9 ?_
            refine xr_go 1 (pc' := 69) (lo' := [some (.ref v0), some (.int v1), some (.int v2), some (.int v3)]) (st' := [.int (xc 1)]) (μ' := μ9) rfl ?_
            have ho := Option.some.inj h
            subst ho
            obtain ⟨rfl, rfl⟩ := hK
            exact xr_ret (rv := some (.int (xc 1))) rfl rfl (Or.inl rfl)
          · replace h := (if_neg (of_decide_eq_false hc)).symm.trans h
            refine xr_forget (lo := [some (.ref v0), none, none, none]) ⟨rfl, trivial⟩ ?_
            exact fX_size_41_ok h hK
      · replace h := (if_neg (of_decide_eq_false hc)).symm.trans h
        refine xr_forget (lo := [some (.ref v0), none, none, none]) ⟨rfl, trivial⟩ ?_
        exact fX_size_22_ok h hK
  · replace h := (if_pos (Decidable.of_not_not (of_decide_eq_false hc))).symm.trans h
    refine xr_go 2 (pc' := 10) (lo' := [some (.ref v0), some (.int v1), some (.int v2), some (.int v3)]) (st' := [.int (xc (-1)), .ref v0]) (μ' := μ) rfl ?_
    obtain ⟨r10, hr10, h⟩ := Option.bind_eq_some_iff.mp h
    refine xr_callV (j := 37) (d' := (d + 0)) (rv1 := some (.int r10.1)) (μ1 := r10.2) (rest := []) (As := [.int (xc (-1))]) rfl rfl rfl rfl (Nat.le_of_ble_eq_true rfl) (fX_refuse_kd hr10) rfl (by exact (fX_refuse_ok (d := d + (0)) hr10)) ?_
    have ho := Option.some.inj h
    subst ho
    obtain ⟨rfl, rfl⟩ := hK
    exact xr_ret (rv := some (.int r10.1)) rfl rfl (Or.inl rfl)
noncomputable def fX_size (a0 : Nat) (a1 : Int32) (a2 : Int32) (a3 : Int32) (μ : xM) : Option (Int32 × xM) := xgd μ a0 0 (fX_size_0 a0 a1 a2 a3 μ)
theorem fX_size_kd {a0 : Nat} {a1 : Int32} {a2 : Int32} {a3 : Int32} {μ : xM} {o : Int32 × xM} (h : fX_size a0 a1 a2 a3 μ = some o) : (xK μ a0).1 = 10 + 0 := (xgd_some h).1
theorem fX_size_ok {d : Nat} {a0 : Nat} {a1 : Int32} {a2 : Int32} {a3 : Int32} {μ : xM} {o : Int32 × xM} (h : fX_size a0 a1 a2 a3 μ = some o) : xRun (d + 1) 26 0 [some (.ref a0), some (.int a1), some (.int a2), some (.int a3)] [] μ (some (.int o.1)) o.2 :=
  xr_forget (lo := [some (.ref a0), some (.int a1), some (.int a2), some (.int a3)]) (⟨rfl, rfl, rfl, rfl, trivial⟩) (fX_size_0_ok (d := d) (xgd_some h).2 (show fX_size_K _ _ o from ⟨rfl, rfl⟩))
-- KeptAnswersModel.size(III)I 
def fM_size_K (rv : Option Value) (μf : xM) : (Int32 × xM) → Prop := fun o => rv = some (.int o.1) ∧ μf = o.2
noncomputable def fM_size_41  (v0 : Nat) (μ : xM) : Option (Int32 × xM) := (fM_refuse v0 (xc (-6)) μ).bind fun r1 => some ((r1.1, r1.2))
theorem fM_size_41_ok {d : Nat} {v0 : Nat} {μ : xM} {rv : Option Value} {μf : xM} {out : Int32 × xM} (h : fM_size_41 v0 μ = some out) (hK : fM_size_K rv μf out) : xRun (d + 2) 204 41 [some (.ref v0), none, none, none] [] μ rv μf := by
  unfold fM_size_41 at h
  refine xr_go 2 (pc' := 44) (lo' := [some (.ref v0), none, none, none]) (st' := [.int (xc (-6)), .ref v0]) (μ' := μ) rfl ?_
  obtain ⟨r1, hr1, h⟩ := Option.bind_eq_some_iff.mp h
  refine xr_callV (j := 138) (d' := (d + 1)) (rv1 := some (.int r1.1)) (μ1 := r1.2) (rest := []) (As := [.int (xc (-6))]) rfl rfl rfl rfl (Nat.le_of_ble_eq_true rfl) (fM_refuse_kd hr1) rfl (by exact (fM_refuse_ok (d := d + (1)) hr1)) ?_
  have ho := Option.some.inj h
  subst ho
  obtain ⟨rfl, rfl⟩ := hK
  exact xr_ret (rv := some (.int r1.1)) rfl rfl (Or.inl rfl)
noncomputable def fM_size_22  (v0 : Nat) (μ : xM) : Option (Int32 × xM) := (fM_refuse v0 (xc (-4)) μ).bind fun r2 => some ((r2.1, r2.2))
theorem fM_size_22_ok {d : Nat} {v0 : Nat} {μ : xM} {rv : Option Value} {μf : xM} {out : Int32 × xM} (h : fM_size_22 v0 μ = some out) (hK : fM_size_K rv μf out) : xRun (d + 2) 204 22 [some (.ref v0), none, none, none] [] μ rv μf := by
  unfold fM_size_22 at h
  refine xr_go 2 (pc' := 25) (lo' := [some (.ref v0), none, none, none]) (st' := [.int (xc (-4)), .ref v0]) (μ' := μ) rfl ?_
  obtain ⟨r2, hr2, h⟩ := Option.bind_eq_some_iff.mp h
  refine xr_callV (j := 138) (d' := (d + 1)) (rv1 := some (.int r2.1)) (μ1 := r2.2) (rest := []) (As := [.int (xc (-4))]) rfl rfl rfl rfl (Nat.le_of_ble_eq_true rfl) (fM_refuse_kd hr2) rfl (by exact (fM_refuse_ok (d := d + (1)) hr2)) ?_
  have ho := Option.some.inj h
  subst ho
  obtain ⟨rfl, rfl⟩ := hK
  exact xr_ret (rv := some (.int r2.1)) rfl rfl (Or.inl rfl)
noncomputable def fM_size_0  (v0 : Nat) (v1 : Int32) (v2 : Int32) (v3 : Int32) (μ : xM) : Option (Int32 × xM) := (fM_isView v0 v1 μ).bind fun r3 => if r3 = 0 then ((fM_refuse v0 (xc (-1)) μ).bind fun r8 => some ((r8.1, r8.2))) else (if v2 < 0 then (fM_size_22 v0 μ) else (if 0 ≤ v3 then (if (xc 99) < v2 then (fM_size_41 v0 μ) else (if v3 ≤ (xc 99) then ((ldFR μ v0 9 18).bind fun x4 => (stA μ x4 v1 v2).bind fun μ5 => (ldFR μ5 v0 9 19).bind fun x6 => (stA μ5 x6 v1 v3).bind fun μ7 => some ((xc 1, μ7))) else (fM_size_41 v0 μ))) else (fM_size_22 v0 μ)))
theorem fM_size_0_ok {d : Nat} {v0 : Nat} {v1 : Int32} {v2 : Int32} {v3 : Int32} {μ : xM} {rv : Option Value} {μf : xM} {out : Int32 × xM} (h : fM_size_0 v0 v1 v2 v3 μ = some out) (hK : fM_size_K rv μf out) : xRun (d + 2) 204 0 [some (.ref v0), some (.int v1), some (.int v2), some (.int v3)] [] μ rv μf := by
  unfold fM_size_0 at h
  refine xr_go 2 (pc' := 2) (lo' := [some (.ref v0), some (.int v1), some (.int v2), some (.int v3)]) (st' := [.int v1, .ref v0]) (μ' := μ) rfl ?_
  obtain ⟨r3, hr3, h⟩ := Option.bind_eq_some_iff.mp h
  refine xr_callV (j := 140) (d' := (d + 1)) (rv1 := some (.int r3)) (μ1 := μ) (rest := []) (As := [.int v1]) rfl rfl rfl rfl (Nat.le_of_ble_eq_true rfl) (fM_isView_kd hr3) rfl (by exact (fM_isView_ok (d := d + (0)) hr3)) ?_
  refine xr_ifc (pct := 14) rfl rfl rfl (fun hc => ?_) (fun hc => ?_)
  · replace h := (if_neg (of_decide_eq_true hc)).symm.trans h
    refine xr_go 1 (pc' := 15) (lo' := [some (.ref v0), some (.int v1), some (.int v2), some (.int v3)]) (st' := [.int v2]) (μ' := μ) rfl ?_
    refine xr_ifc (pct := 22) rfl rfl rfl (fun hc => ?_) (fun hc => ?_)
    · replace h := (if_pos (of_decide_eq_true hc)).symm.trans h
      refine xr_forget (lo := [some (.ref v0), none, none, none]) ⟨rfl, trivial⟩ ?_
      exact fM_size_22_ok h hK
    · replace h := (if_neg (of_decide_eq_false hc)).symm.trans h
      refine xr_go 1 (pc' := 19) (lo' := [some (.ref v0), some (.int v1), some (.int v2), some (.int v3)]) (st' := [.int v3]) (μ' := μ) rfl ?_
      refine xr_ifc (pct := 29) rfl rfl rfl (fun hc => ?_) (fun hc => ?_)
      · replace h := (if_pos (of_decide_eq_true hc)).symm.trans h
        refine xr_go 2 (pc' := 32) (lo' := [some (.ref v0), some (.int v1), some (.int v2), some (.int v3)]) (st' := [.int (xc 99), .int v2]) (μ' := μ) rfl ?_
        refine xr_icmp (pct := 41) rfl rfl rfl (fun hc => ?_) (fun hc => ?_)
        · replace h := (if_pos (of_decide_eq_true hc)).symm.trans h
          refine xr_forget (lo := [some (.ref v0), none, none, none]) ⟨rfl, trivial⟩ ?_
          exact fM_size_41_ok h hK
        · replace h := (if_neg (of_decide_eq_false hc)).symm.trans h
          refine xr_go 2 (pc' := 38) (lo' := [some (.ref v0), some (.int v1), some (.int v2), some (.int v3)]) (st' := [.int (xc 99), .int v3]) (μ' := μ) rfl ?_
          refine xr_icmp (pct := 48) rfl rfl rfl (fun hc => ?_) (fun hc => ?_)
          · replace h := (if_pos (of_decide_eq_true hc)).symm.trans h
            refine xr_go 1 (pc' := 49) (lo' := [some (.ref v0), some (.int v1), some (.int v2), some (.int v3)]) (st' := [.ref v0]) (μ' := μ) rfl ?_
            obtain ⟨x4, hx4, h⟩ := Option.bind_eq_some_iff.mp h
            refine xr_opA (pc' := 52) (lo' := [some (.ref v0), some (.int v1), some (.int v2), some (.int v3)]) (st' := []) (o := ldFR μ v0 9 18) rfl hx4 ?_
            refine xr_go 2 (pc' := 54) (lo' := [some (.ref v0), some (.int v1), some (.int v2), some (.int v3)]) (st' := [.int v2, .int v1, .ref x4]) (μ' := μ) rfl ?_
            obtain ⟨μ5, hμ5, h⟩ := Option.bind_eq_some_iff.mp h
            refine xr_opM (pc' := 55) (lo' := [some (.ref v0), some (.int v1), some (.int v2), some (.int v3)]) (st' := []) (o := stA μ x4 v1 v2) rfl hμ5 ?_
            refine xr_go 1 (pc' := 56) (lo' := [some (.ref v0), some (.int v1), some (.int v2), some (.int v3)]) (st' := [.ref v0]) (μ' := μ5) rfl ?_
            obtain ⟨x6, hx6, h⟩ := Option.bind_eq_some_iff.mp h
            refine xr_opA (pc' := 59) (lo' := [some (.ref v0), some (.int v1), some (.int v2), some (.int v3)]) (st' := []) (o := ldFR μ5 v0 9 19) rfl hx6 ?_
            refine xr_go 2 (pc' := 61) (lo' := [some (.ref v0), some (.int v1), some (.int v2), some (.int v3)]) (st' := [.int v3, .int v1, .ref x6]) (μ' := μ5) rfl ?_
            obtain ⟨μ7, hμ7, h⟩ := Option.bind_eq_some_iff.mp h
            refine xr_opM (pc' := 62) (lo' := [some (.ref v0), some (.int v1), some (.int v2), some (.int v3)]) (st' := []) (o := stA μ5 x6 v1 v3) rfl hμ7 ?_
            refine xr_go 1 (pc' := 63) (lo' := [some (.ref v0), some (.int v1), some (.int v2), some (.int v3)]) (st' := [.int (xc 1)]) (μ' := μ7) rfl ?_
            have ho := Option.some.inj h
            subst ho
            obtain ⟨rfl, rfl⟩ := hK
            exact xr_ret (rv := some (.int (xc 1))) rfl rfl (Or.inl rfl)
          · replace h := (if_neg (of_decide_eq_false hc)).symm.trans h
            refine xr_forget (lo := [some (.ref v0), none, none, none]) ⟨rfl, trivial⟩ ?_
            exact fM_size_41_ok h hK
      · replace h := (if_neg (of_decide_eq_false hc)).symm.trans h
        refine xr_forget (lo := [some (.ref v0), none, none, none]) ⟨rfl, trivial⟩ ?_
        exact fM_size_22_ok h hK
  · replace h := (if_pos (Decidable.of_not_not (of_decide_eq_false hc))).symm.trans h
    refine xr_go 2 (pc' := 10) (lo' := [some (.ref v0), some (.int v1), some (.int v2), some (.int v3)]) (st' := [.int (xc (-1)), .ref v0]) (μ' := μ) rfl ?_
    obtain ⟨r8, hr8, h⟩ := Option.bind_eq_some_iff.mp h
    refine xr_callV (j := 138) (d' := (d + 1)) (rv1 := some (.int r8.1)) (μ1 := r8.2) (rest := []) (As := [.int (xc (-1))]) rfl rfl rfl rfl (Nat.le_of_ble_eq_true rfl) (fM_refuse_kd hr8) rfl (by exact (fM_refuse_ok (d := d + (1)) hr8)) ?_
    have ho := Option.some.inj h
    subst ho
    obtain ⟨rfl, rfl⟩ := hK
    exact xr_ret (rv := some (.int r8.1)) rfl rfl (Or.inl rfl)
noncomputable def fM_size (a0 : Nat) (a1 : Int32) (a2 : Int32) (a3 : Int32) (μ : xM) : Option (Int32 × xM) := xgd μ a0 9 (fM_size_0 a0 a1 a2 a3 μ)
theorem fM_size_kd {a0 : Nat} {a1 : Int32} {a2 : Int32} {a3 : Int32} {μ : xM} {o : Int32 × xM} (h : fM_size a0 a1 a2 a3 μ = some o) : (xK μ a0).1 = 10 + 9 := (xgd_some h).1
theorem fM_size_ok {d : Nat} {a0 : Nat} {a1 : Int32} {a2 : Int32} {a3 : Int32} {μ : xM} {o : Int32 × xM} (h : fM_size a0 a1 a2 a3 μ = some o) : xRun (d + 2) 204 0 [some (.ref a0), some (.int a1), some (.int a2), some (.int a3)] [] μ (some (.int o.1)) o.2 :=
  xr_forget (lo := [some (.ref a0), some (.int a1), some (.int a2), some (.int a3)]) (⟨rfl, rfl, rfl, rfl, trivial⟩) (fM_size_0_ok (d := d) (xgd_some h).2 (show fM_size_K _ _ o from ⟨rfl, rfl⟩))
-- KeptAnswers.set(II)I 
def fX_set_K (rv : Option Value) (μf : xM) : (Int32 × xM) → Prop := fun o => rv = some (.int o.1) ∧ μf = o.2
noncomputable def fX_set_95  (v3 : Int32) (μ : xM) : Option (Int32 × xM) := some ((v3, μ))
theorem fX_set_95_ok {d : Nat} {v3 : Int32} {μ : xM} {rv : Option Value} {μf : xM} {out : Int32 × xM} (h : fX_set_95 v3 μ = some out) (hK : fX_set_K rv μf out) : xRun (d + 1) 27 95 [none, none, none, some (.int v3)] [] μ rv μf := by
  unfold fX_set_95 at h
  refine xr_go 1 (pc' := 96) (lo' := [none, none, none, some (.int v3)]) (st' := [.int v3]) (μ' := μ) rfl ?_
  have ho := Option.some.inj h
  subst ho
  obtain ⟨rfl, rfl⟩ := hK
  exact xr_ret (rv := some (.int v3)) rfl rfl (Or.inl rfl)
noncomputable def fX_set_71  (v0 : Nat) (v1 : Int32) (v2 : Int32) (s0 : Int32) (μ : xM) : Option (Int32 × xM) := if v1 = 0 then ((ldFR μ v0 0 0).bind fun x3 => (stF μ x3 3 6 v2).bind fun μ4 => fX_set_95 s0 μ4) else ((ldFR μ v0 0 0).bind fun x1 => (stF μ x1 3 7 v2).bind fun μ2 => fX_set_95 s0 μ2)
theorem fX_set_71_ok {d : Nat} {v0 : Nat} {v1 : Int32} {v2 : Int32} {s0 : Int32} {μ : xM} {rv : Option Value} {μf : xM} {out : Int32 × xM} (h : fX_set_71 v0 v1 v2 s0 μ = some out) (hK : fX_set_K rv μf out) : xRun (d + 1) 27 71 [some (.ref v0), some (.int v1), some (.int v2), none] [.int s0] μ rv μf := by
  unfold fX_set_71 at h
  refine xr_go 2 (pc' := 73) (lo' := [some (.ref v0), some (.int v1), some (.int v2), some (.int s0)]) (st' := [.int v1]) (μ' := μ) rfl ?_
  refine xr_ifc (pct := 87) rfl rfl rfl (fun hc => ?_) (fun hc => ?_)
  · replace h := (if_neg (of_decide_eq_true hc)).symm.trans h
    refine xr_go 1 (pc' := 88) (lo' := [some (.ref v0), some (.int v1), some (.int v2), some (.int s0)]) (st' := [.ref v0]) (μ' := μ) rfl ?_
    obtain ⟨x1, hx1, h⟩ := Option.bind_eq_some_iff.mp h
    refine xr_opA (pc' := 91) (lo' := [some (.ref v0), some (.int v1), some (.int v2), some (.int s0)]) (st' := []) (o := ldFR μ v0 0 0) rfl hx1 ?_
    refine xr_go 1 (pc' := 92) (lo' := [some (.ref v0), some (.int v1), some (.int v2), some (.int s0)]) (st' := [.int v2, .ref x1]) (μ' := μ) rfl ?_
    obtain ⟨μ2, hμ2, h⟩ := Option.bind_eq_some_iff.mp h
    refine xr_opM (pc' := 95) (lo' := [some (.ref v0), some (.int v1), some (.int v2), some (.int s0)]) (st' := []) (o := stF μ x1 3 7 v2) rfl hμ2 ?_
    refine xr_forget (lo := [none, none, none, some (.int s0)]) ⟨rfl, trivial⟩ ?_
    exact fX_set_95_ok h hK
  · replace h := (if_pos (Decidable.of_not_not (of_decide_eq_false hc))).symm.trans h
    refine xr_go 1 (pc' := 77) (lo' := [some (.ref v0), some (.int v1), some (.int v2), some (.int s0)]) (st' := [.ref v0]) (μ' := μ) rfl ?_
    obtain ⟨x3, hx3, h⟩ := Option.bind_eq_some_iff.mp h
    refine xr_opA (pc' := 80) (lo' := [some (.ref v0), some (.int v1), some (.int v2), some (.int s0)]) (st' := []) (o := ldFR μ v0 0 0) rfl hx3 ?_
    refine xr_go 1 (pc' := 81) (lo' := [some (.ref v0), some (.int v1), some (.int v2), some (.int s0)]) (st' := [.int v2, .ref x3]) (μ' := μ) rfl ?_
    obtain ⟨μ4, hμ4, h⟩ := Option.bind_eq_some_iff.mp h
    refine xr_opM (pc' := 84) (lo' := [some (.ref v0), some (.int v1), some (.int v2), some (.int s0)]) (st' := []) (o := stF μ x3 3 6 v2) rfl hμ4 ?_
    refine xr_go 1 (pc' := 95) (lo' := [some (.ref v0), some (.int v1), some (.int v2), some (.int s0)]) (st' := []) (μ' := μ4) rfl ?_
    refine xr_forget (lo := [none, none, none, some (.int s0)]) ⟨rfl, trivial⟩ ?_
    exact fX_set_95_ok h hK
noncomputable def fX_set_40  (v0 : Nat) (v1 : Int32) (v2 : Int32) (s0 : Int32) (s1 : Int32) (μ : xM) : Option (Int32 × xM) := if s1 ≤ s0 then (if v1 = 0 then ((ldFR μ v0 0 0).bind fun x7 => (ldF μ x7 3 6).bind fun x8 => fX_set_71 v0 v1 v2 x8 μ) else ((ldFR μ v0 0 0).bind fun x5 => (ldF μ x5 3 7).bind fun x6 => fX_set_71 v0 v1 v2 x6 μ)) else ((fX_refuse v0 (xc (-6)) μ).bind fun r9 => some ((r9.1, r9.2)))
theorem fX_set_40_ok {d : Nat} {v0 : Nat} {v1 : Int32} {v2 : Int32} {s0 : Int32} {s1 : Int32} {μ : xM} {rv : Option Value} {μf : xM} {out : Int32 × xM} (h : fX_set_40 v0 v1 v2 s0 s1 μ = some out) (hK : fX_set_K rv μf out) : xRun (d + 1) 27 40 [some (.ref v0), some (.int v1), some (.int v2), none] [.int s0, .int s1] μ rv μf := by
  unfold fX_set_40 at h
  refine xr_icmp (pct := 50) rfl rfl rfl (fun hc => ?_) (fun hc => ?_)
  · replace h := (if_pos (of_decide_eq_true hc)).symm.trans h
    refine xr_go 1 (pc' := 51) (lo' := [some (.ref v0), some (.int v1), some (.int v2), none]) (st' := [.int v1]) (μ' := μ) rfl ?_
    refine xr_ifc (pct := 64) rfl rfl rfl (fun hc => ?_) (fun hc => ?_)
    · replace h := (if_neg (of_decide_eq_true hc)).symm.trans h
      refine xr_go 1 (pc' := 65) (lo' := [some (.ref v0), some (.int v1), some (.int v2), none]) (st' := [.ref v0]) (μ' := μ) rfl ?_
      obtain ⟨x5, hx5, h⟩ := Option.bind_eq_some_iff.mp h
      refine xr_opA (pc' := 68) (lo' := [some (.ref v0), some (.int v1), some (.int v2), none]) (st' := []) (o := ldFR μ v0 0 0) rfl hx5 ?_
      obtain ⟨x6, hx6, h⟩ := Option.bind_eq_some_iff.mp h
      refine xr_opI (pc' := 71) (lo' := [some (.ref v0), some (.int v1), some (.int v2), none]) (st' := []) (o := ldF μ x5 3 7) rfl hx6 ?_
      refine xr_forget (lo := [some (.ref v0), some (.int v1), some (.int v2), none]) ⟨rfl, rfl, rfl, trivial⟩ ?_
      exact fX_set_71_ok h hK
    · replace h := (if_pos (Decidable.of_not_not (of_decide_eq_false hc))).symm.trans h
      refine xr_go 1 (pc' := 55) (lo' := [some (.ref v0), some (.int v1), some (.int v2), none]) (st' := [.ref v0]) (μ' := μ) rfl ?_
      obtain ⟨x7, hx7, h⟩ := Option.bind_eq_some_iff.mp h
      refine xr_opA (pc' := 58) (lo' := [some (.ref v0), some (.int v1), some (.int v2), none]) (st' := []) (o := ldFR μ v0 0 0) rfl hx7 ?_
      obtain ⟨x8, hx8, h⟩ := Option.bind_eq_some_iff.mp h
      refine xr_opI (pc' := 61) (lo' := [some (.ref v0), some (.int v1), some (.int v2), none]) (st' := []) (o := ldF μ x7 3 6) rfl hx8 ?_
      refine xr_go 1 (pc' := 71) (lo' := [some (.ref v0), some (.int v1), some (.int v2), none]) (st' := [.int x8]) (μ' := μ) rfl ?_
      refine xr_forget (lo := [some (.ref v0), some (.int v1), some (.int v2), none]) ⟨rfl, rfl, rfl, trivial⟩ ?_
      exact fX_set_71_ok h hK
  · replace h := (if_neg (of_decide_eq_false hc)).symm.trans h
    refine xr_go 2 (pc' := 46) (lo' := [some (.ref v0), some (.int v1), some (.int v2), none]) (st' := [.int (xc (-6)), .ref v0]) (μ' := μ) rfl ?_
    obtain ⟨r9, hr9, h⟩ := Option.bind_eq_some_iff.mp h
    refine xr_callV (j := 37) (d' := (d + 0)) (rv1 := some (.int r9.1)) (μ1 := r9.2) (rest := []) (As := [.int (xc (-6))]) rfl rfl rfl rfl (Nat.le_of_ble_eq_true rfl) (fX_refuse_kd hr9) rfl (by exact (fX_refuse_ok (d := d + (0)) hr9)) ?_
    have ho := Option.some.inj h
    subst ho
    obtain ⟨rfl, rfl⟩ := hK
    exact xr_ret (rv := some (.int r9.1)) rfl rfl (Or.inl rfl)
noncomputable def fX_set_9  (v0 : Nat) (μ : xM) : Option (Int32 × xM) := (fX_refuse v0 (xc (-2)) μ).bind fun r10 => some ((r10.1, r10.2))
theorem fX_set_9_ok {d : Nat} {v0 : Nat} {μ : xM} {rv : Option Value} {μf : xM} {out : Int32 × xM} (h : fX_set_9 v0 μ = some out) (hK : fX_set_K rv μf out) : xRun (d + 1) 27 9 [some (.ref v0), none, none, none] [] μ rv μf := by
  unfold fX_set_9 at h
  refine xr_go 2 (pc' := 12) (lo' := [some (.ref v0), none, none, none]) (st' := [.int (xc (-2)), .ref v0]) (μ' := μ) rfl ?_
  obtain ⟨r10, hr10, h⟩ := Option.bind_eq_some_iff.mp h
  refine xr_callV (j := 37) (d' := (d + 0)) (rv1 := some (.int r10.1)) (μ1 := r10.2) (rest := []) (As := [.int (xc (-2))]) rfl rfl rfl rfl (Nat.le_of_ble_eq_true rfl) (fX_refuse_kd hr10) rfl (by exact (fX_refuse_ok (d := d + (0)) hr10)) ?_
  have ho := Option.some.inj h
  subst ho
  obtain ⟨rfl, rfl⟩ := hK
  exact xr_ret (rv := some (.int r10.1)) rfl rfl (Or.inl rfl)
noncomputable def fX_set_0  (v0 : Nat) (v1 : Int32) (v2 : Int32) (μ : xM) : Option (Int32 × xM) := if v1 < 0 then (fX_set_9 v0 μ) else (if v1 ≤ (xc 1) then (if 0 ≤ v2 then (if v1 = 0 then (fX_set_40 v0 v1 v2 (xc 999) v2 μ) else (fX_set_40 v0 v1 v2 (xc 99) v2 μ)) else ((fX_refuse v0 (xc (-4)) μ).bind fun r11 => some ((r11.1, r11.2)))) else (fX_set_9 v0 μ))
theorem fX_set_0_ok {d : Nat} {v0 : Nat} {v1 : Int32} {v2 : Int32} {μ : xM} {rv : Option Value} {μf : xM} {out : Int32 × xM} (h : fX_set_0 v0 v1 v2 μ = some out) (hK : fX_set_K rv μf out) : xRun (d + 1) 27 0 [some (.ref v0), some (.int v1), some (.int v2), none] [] μ rv μf := by
  unfold fX_set_0 at h
  refine xr_go 1 (pc' := 1) (lo' := [some (.ref v0), some (.int v1), some (.int v2), none]) (st' := [.int v1]) (μ' := μ) rfl ?_
  refine xr_ifc (pct := 9) rfl rfl rfl (fun hc => ?_) (fun hc => ?_)
  · replace h := (if_pos (of_decide_eq_true hc)).symm.trans h
    refine xr_forget (lo := [some (.ref v0), none, none, none]) ⟨rfl, trivial⟩ ?_
    exact fX_set_9_ok h hK
  · replace h := (if_neg (of_decide_eq_false hc)).symm.trans h
    refine xr_go 2 (pc' := 6) (lo' := [some (.ref v0), some (.int v1), some (.int v2), none]) (st' := [.int (xc 1), .int v1]) (μ' := μ) rfl ?_
    refine xr_icmp (pct := 16) rfl rfl rfl (fun hc => ?_) (fun hc => ?_)
    · replace h := (if_pos (of_decide_eq_true hc)).symm.trans h
      refine xr_go 1 (pc' := 17) (lo' := [some (.ref v0), some (.int v1), some (.int v2), none]) (st' := [.int v2]) (μ' := μ) rfl ?_
      refine xr_ifc (pct := 27) rfl rfl rfl (fun hc => ?_) (fun hc => ?_)
      · replace h := (if_pos (of_decide_eq_true hc)).symm.trans h
        refine xr_go 2 (pc' := 29) (lo' := [some (.ref v0), some (.int v1), some (.int v2), none]) (st' := [.int v1, .int v2]) (μ' := μ) rfl ?_
        refine xr_ifc (pct := 38) rfl rfl rfl (fun hc => ?_) (fun hc => ?_)
        · replace h := (if_neg (of_decide_eq_true hc)).symm.trans h
          refine xr_go 1 (pc' := 40) (lo' := [some (.ref v0), some (.int v1), some (.int v2), none]) (st' := [.int (xc 99), .int v2]) (μ' := μ) rfl ?_
          refine xr_forget (lo := [some (.ref v0), some (.int v1), some (.int v2), none]) ⟨rfl, rfl, rfl, trivial⟩ ?_
          exact fX_set_40_ok h hK
        · replace h := (if_pos (Decidable.of_not_not (of_decide_eq_false hc))).symm.trans h
          refine xr_go 2 (pc' := 40) (lo' := [some (.ref v0), some (.int v1), some (.int v2), none]) (st' := [.int (xc 999), .int v2]) (μ' := μ) rfl ?_
          refine xr_forget (lo := [some (.ref v0), some (.int v1), some (.int v2), none]) ⟨rfl, rfl, rfl, trivial⟩ ?_
          exact fX_set_40_ok h hK
      · replace h := (if_neg (of_decide_eq_false hc)).symm.trans h
        refine xr_go 2 (pc' := 23) (lo' := [some (.ref v0), some (.int v1), some (.int v2), none]) (st' := [.int (xc (-4)), .ref v0]) (μ' := μ) rfl ?_
        obtain ⟨r11, hr11, h⟩ := Option.bind_eq_some_iff.mp h
        refine xr_callV (j := 37) (d' := (d + 0)) (rv1 := some (.int r11.1)) (μ1 := r11.2) (rest := []) (As := [.int (xc (-4))]) rfl rfl rfl rfl (Nat.le_of_ble_eq_true rfl) (fX_refuse_kd hr11) rfl (by exact (fX_refuse_ok (d := d + (0)) hr11)) ?_
        have ho := Option.some.inj h
        subst ho
        obtain ⟨rfl, rfl⟩ := hK
        exact xr_ret (rv := some (.int r11.1)) rfl rfl (Or.inl rfl)
    · replace h := (if_neg (of_decide_eq_false hc)).symm.trans h
      refine xr_forget (lo := [some (.ref v0), none, none, none]) ⟨rfl, trivial⟩ ?_
      exact fX_set_9_ok h hK
noncomputable def fX_set (a0 : Nat) (a1 : Int32) (a2 : Int32) (μ : xM) : Option (Int32 × xM) := xgd μ a0 0 (fX_set_0 a0 a1 a2 μ)
theorem fX_set_kd {a0 : Nat} {a1 : Int32} {a2 : Int32} {μ : xM} {o : Int32 × xM} (h : fX_set a0 a1 a2 μ = some o) : (xK μ a0).1 = 10 + 0 := (xgd_some h).1
theorem fX_set_ok {d : Nat} {a0 : Nat} {a1 : Int32} {a2 : Int32} {μ : xM} {o : Int32 × xM} (h : fX_set a0 a1 a2 μ = some o) : xRun (d + 1) 27 0 [some (.ref a0), some (.int a1), some (.int a2), none] [] μ (some (.int o.1)) o.2 :=
  xr_forget (lo := [some (.ref a0), some (.int a1), some (.int a2), none]) (⟨rfl, rfl, rfl, trivial⟩) (fX_set_0_ok (d := d) (xgd_some h).2 (show fX_set_K _ _ o from ⟨rfl, rfl⟩))
-- KeptAnswersModel.set(II)I 
def fM_set_K (rv : Option Value) (μf : xM) : (Int32 × xM) → Prop := fun o => rv = some (.int o.1) ∧ μf = o.2
noncomputable def fM_set_97  (v3 : Int32) (s0 : Int32) (s1 : Nat) (μ : xM) : Option (Int32 × xM) := (stF μ s1 9 24 s0).bind fun μ1 => some ((v3, μ1))
theorem fM_set_97_ok {d : Nat} {v3 : Int32} {s0 : Int32} {s1 : Nat} {μ : xM} {rv : Option Value} {μf : xM} {out : Int32 × xM} (h : fM_set_97 v3 s0 s1 μ = some out) (hK : fM_set_K rv μf out) : xRun (d + 1) 205 97 [none, none, none, some (.int v3)] [.int s0, .ref s1] μ rv μf := by
  unfold fM_set_97 at h
  obtain ⟨μ1, hμ1, h⟩ := Option.bind_eq_some_iff.mp h
  refine xr_opM (pc' := 100) (lo' := [none, none, none, some (.int v3)]) (st' := []) (o := stF μ s1 9 24 s0) rfl hμ1 ?_
  refine xr_go 1 (pc' := 101) (lo' := [none, none, none, some (.int v3)]) (st' := [.int v3]) (μ' := μ1) rfl ?_
  have ho := Option.some.inj h
  subst ho
  obtain ⟨rfl, rfl⟩ := hK
  exact xr_ret (rv := some (.int v3)) rfl rfl (Or.inl rfl)
noncomputable def fM_set_80  (v0 : Nat) (v1 : Int32) (v2 : Int32) (v3 : Int32) (s0 : Int32) (s1 : Nat) (μ : xM) : Option (Int32 × xM) := (stF μ s1 9 23 s0).bind fun μ2 => if v1 = (xc 1) then (fM_set_97 v3 v2 v0 μ2) else ((ldF μ2 v0 9 24).bind fun x3 => fM_set_97 v3 x3 v0 μ2)
theorem fM_set_80_ok {d : Nat} {v0 : Nat} {v1 : Int32} {v2 : Int32} {v3 : Int32} {s0 : Int32} {s1 : Nat} {μ : xM} {rv : Option Value} {μf : xM} {out : Int32 × xM} (h : fM_set_80 v0 v1 v2 v3 s0 s1 μ = some out) (hK : fM_set_K rv μf out) : xRun (d + 1) 205 80 [some (.ref v0), some (.int v1), some (.int v2), some (.int v3)] [.int s0, .ref s1] μ rv μf := by
  unfold fM_set_80 at h
  obtain ⟨μ2, hμ2, h⟩ := Option.bind_eq_some_iff.mp h
  refine xr_opM (pc' := 83) (lo' := [some (.ref v0), some (.int v1), some (.int v2), some (.int v3)]) (st' := []) (o := stF μ s1 9 23 s0) rfl hμ2 ?_
  refine xr_go 3 (pc' := 86) (lo' := [some (.ref v0), some (.int v1), some (.int v2), some (.int v3)]) (st' := [.int (xc 1), .int v1, .ref v0]) (μ' := μ2) rfl ?_
  refine xr_icmp (pct := 93) rfl rfl rfl (fun hc => ?_) (fun hc => ?_)
  · replace h := (if_neg (of_decide_eq_true hc)).symm.trans h
    refine xr_go 1 (pc' := 94) (lo' := [some (.ref v0), some (.int v1), some (.int v2), some (.int v3)]) (st' := [.ref v0, .ref v0]) (μ' := μ2) rfl ?_
    obtain ⟨x3, hx3, h⟩ := Option.bind_eq_some_iff.mp h
    refine xr_opI (pc' := 97) (lo' := [some (.ref v0), some (.int v1), some (.int v2), some (.int v3)]) (st' := [.ref v0]) (o := ldF μ2 v0 9 24) rfl hx3 ?_
    refine xr_forget (lo := [none, none, none, some (.int v3)]) ⟨rfl, trivial⟩ ?_
    exact fM_set_97_ok h hK
  · replace h := (if_pos (Decidable.of_not_not (of_decide_eq_false hc))).symm.trans h
    refine xr_go 2 (pc' := 97) (lo' := [some (.ref v0), some (.int v1), some (.int v2), some (.int v3)]) (st' := [.int v2, .ref v0]) (μ' := μ2) rfl ?_
    refine xr_forget (lo := [none, none, none, some (.int v3)]) ⟨rfl, trivial⟩ ?_
    exact fM_set_97_ok h hK
noncomputable def fM_set_66  (v0 : Nat) (v1 : Int32) (v2 : Int32) (s0 : Int32) (μ : xM) : Option (Int32 × xM) := if v1 = 0 then (fM_set_80 v0 v1 v2 s0 v2 v0 μ) else ((ldF μ v0 9 23).bind fun x4 => fM_set_80 v0 v1 v2 s0 x4 v0 μ)
theorem fM_set_66_ok {d : Nat} {v0 : Nat} {v1 : Int32} {v2 : Int32} {s0 : Int32} {μ : xM} {rv : Option Value} {μf : xM} {out : Int32 × xM} (h : fM_set_66 v0 v1 v2 s0 μ = some out) (hK : fM_set_K rv μf out) : xRun (d + 1) 205 66 [some (.ref v0), some (.int v1), some (.int v2), none] [.int s0] μ rv μf := by
  unfold fM_set_66 at h
  refine xr_go 3 (pc' := 69) (lo' := [some (.ref v0), some (.int v1), some (.int v2), some (.int s0)]) (st' := [.int v1, .ref v0]) (μ' := μ) rfl ?_
  refine xr_ifc (pct := 76) rfl rfl rfl (fun hc => ?_) (fun hc => ?_)
  · replace h := (if_neg (of_decide_eq_true hc)).symm.trans h
    refine xr_go 1 (pc' := 77) (lo' := [some (.ref v0), some (.int v1), some (.int v2), some (.int s0)]) (st' := [.ref v0, .ref v0]) (μ' := μ) rfl ?_
    obtain ⟨x4, hx4, h⟩ := Option.bind_eq_some_iff.mp h
    refine xr_opI (pc' := 80) (lo' := [some (.ref v0), some (.int v1), some (.int v2), some (.int s0)]) (st' := [.ref v0]) (o := ldF μ v0 9 23) rfl hx4 ?_
    refine xr_forget (lo := [some (.ref v0), some (.int v1), some (.int v2), some (.int s0)]) ⟨rfl, rfl, rfl, rfl, trivial⟩ ?_
    exact fM_set_80_ok h hK
  · replace h := (if_pos (Decidable.of_not_not (of_decide_eq_false hc))).symm.trans h
    refine xr_go 2 (pc' := 80) (lo' := [some (.ref v0), some (.int v1), some (.int v2), some (.int s0)]) (st' := [.int v2, .ref v0]) (μ' := μ) rfl ?_
    refine xr_forget (lo := [some (.ref v0), some (.int v1), some (.int v2), some (.int s0)]) ⟨rfl, rfl, rfl, rfl, trivial⟩ ?_
    exact fM_set_80_ok h hK
noncomputable def fM_set_41  (v0 : Nat) (v1 : Int32) (v2 : Int32) (s0 : Int32) (s1 : Int32) (μ : xM) : Option (Int32 × xM) := if s1 ≤ s0 then (if v1 = 0 then ((ldF μ v0 9 23).bind fun x6 => fM_set_66 v0 v1 v2 x6 μ) else ((ldF μ v0 9 24).bind fun x5 => fM_set_66 v0 v1 v2 x5 μ)) else ((fM_refuse v0 (xc (-6)) μ).bind fun r7 => some ((r7.1, r7.2)))
theorem fM_set_41_ok {d : Nat} {v0 : Nat} {v1 : Int32} {v2 : Int32} {s0 : Int32} {s1 : Int32} {μ : xM} {rv : Option Value} {μf : xM} {out : Int32 × xM} (h : fM_set_41 v0 v1 v2 s0 s1 μ = some out) (hK : fM_set_K rv μf out) : xRun (d + 1) 205 41 [some (.ref v0), some (.int v1), some (.int v2), none] [.int s0, .int s1] μ rv μf := by
  unfold fM_set_41 at h
  refine xr_icmp (pct := 51) rfl rfl rfl (fun hc => ?_) (fun hc => ?_)
  · replace h := (if_pos (of_decide_eq_true hc)).symm.trans h
    refine xr_go 1 (pc' := 52) (lo' := [some (.ref v0), some (.int v1), some (.int v2), none]) (st' := [.int v1]) (μ' := μ) rfl ?_
    refine xr_ifc (pct := 62) rfl rfl rfl (fun hc => ?_) (fun hc => ?_)
    · replace h := (if_neg (of_decide_eq_true hc)).symm.trans h
      refine xr_go 1 (pc' := 63) (lo' := [some (.ref v0), some (.int v1), some (.int v2), none]) (st' := [.ref v0]) (μ' := μ) rfl ?_
      obtain ⟨x5, hx5, h⟩ := Option.bind_eq_some_iff.mp h
      refine xr_opI (pc' := 66) (lo' := [some (.ref v0), some (.int v1), some (.int v2), none]) (st' := []) (o := ldF μ v0 9 24) rfl hx5 ?_
      refine xr_forget (lo := [some (.ref v0), some (.int v1), some (.int v2), none]) ⟨rfl, rfl, rfl, trivial⟩ ?_
      exact fM_set_66_ok h hK
    · replace h := (if_pos (Decidable.of_not_not (of_decide_eq_false hc))).symm.trans h
      refine xr_go 1 (pc' := 56) (lo' := [some (.ref v0), some (.int v1), some (.int v2), none]) (st' := [.ref v0]) (μ' := μ) rfl ?_
      obtain ⟨x6, hx6, h⟩ := Option.bind_eq_some_iff.mp h
      refine xr_opI (pc' := 59) (lo' := [some (.ref v0), some (.int v1), some (.int v2), none]) (st' := []) (o := ldF μ v0 9 23) rfl hx6 ?_
      refine xr_go 1 (pc' := 66) (lo' := [some (.ref v0), some (.int v1), some (.int v2), none]) (st' := [.int x6]) (μ' := μ) rfl ?_
      refine xr_forget (lo := [some (.ref v0), some (.int v1), some (.int v2), none]) ⟨rfl, rfl, rfl, trivial⟩ ?_
      exact fM_set_66_ok h hK
  · replace h := (if_neg (of_decide_eq_false hc)).symm.trans h
    refine xr_go 2 (pc' := 47) (lo' := [some (.ref v0), some (.int v1), some (.int v2), none]) (st' := [.int (xc (-6)), .ref v0]) (μ' := μ) rfl ?_
    obtain ⟨r7, hr7, h⟩ := Option.bind_eq_some_iff.mp h
    refine xr_callV (j := 138) (d' := (d + 0)) (rv1 := some (.int r7.1)) (μ1 := r7.2) (rest := []) (As := [.int (xc (-6))]) rfl rfl rfl rfl (Nat.le_of_ble_eq_true rfl) (fM_refuse_kd hr7) rfl (by exact (fM_refuse_ok (d := d + (0)) hr7)) ?_
    have ho := Option.some.inj h
    subst ho
    obtain ⟨rfl, rfl⟩ := hK
    exact xr_ret (rv := some (.int r7.1)) rfl rfl (Or.inl rfl)
noncomputable def fM_set_0  (v0 : Nat) (v1 : Int32) (v2 : Int32) (μ : xM) : Option (Int32 × xM) := (fM_isIn (Int32.toInt64 v1) (Int64.ofNat 0) (Int64.ofNat 1) μ).bind fun r8 => if r8 = 0 then ((fM_refuse v0 (xc (-2)) μ).bind fun r10 => some ((r10.1, r10.2))) else (if 0 ≤ v2 then (if v1 = 0 then (fM_set_41 v0 v1 v2 (xc 999) v2 μ) else (fM_set_41 v0 v1 v2 (xc 99) v2 μ)) else ((fM_refuse v0 (xc (-4)) μ).bind fun r9 => some ((r9.1, r9.2))))
theorem fM_set_0_ok {d : Nat} {v0 : Nat} {v1 : Int32} {v2 : Int32} {μ : xM} {rv : Option Value} {μf : xM} {out : Int32 × xM} (h : fM_set_0 v0 v1 v2 μ = some out) (hK : fM_set_K rv μf out) : xRun (d + 1) 205 0 [some (.ref v0), some (.int v1), some (.int v2), none] [] μ rv μf := by
  unfold fM_set_0 at h
  refine xr_go 4 (pc' := 4) (lo' := [some (.ref v0), some (.int v1), some (.int v2), none]) (st' := [.long (Int64.ofNat 1), .long (Int64.ofNat 0), .long (Int32.toInt64 v1)]) (μ' := μ) rfl ?_
  obtain ⟨r8, hr8, h⟩ := Option.bind_eq_some_iff.mp h
  refine xr_callS (j := 137) (d' := (d + 0)) (rv1 := some (.int r8)) (μ1 := μ) (rest := []) (As := [.long (Int32.toInt64 v1), .long (Int64.ofNat 0), .long (Int64.ofNat 1)]) rfl rfl rfl rfl (Nat.le_of_ble_eq_true rfl) rfl (by exact (fM_isIn_ok (d := d + (0)) hr8)) ?_
  refine xr_ifc (pct := 17) rfl rfl rfl (fun hc => ?_) (fun hc => ?_)
  · replace h := (if_neg (of_decide_eq_true hc)).symm.trans h
    refine xr_go 1 (pc' := 18) (lo' := [some (.ref v0), some (.int v1), some (.int v2), none]) (st' := [.int v2]) (μ' := μ) rfl ?_
    refine xr_ifc (pct := 28) rfl rfl rfl (fun hc => ?_) (fun hc => ?_)
    · replace h := (if_pos (of_decide_eq_true hc)).symm.trans h
      refine xr_go 2 (pc' := 30) (lo' := [some (.ref v0), some (.int v1), some (.int v2), none]) (st' := [.int v1, .int v2]) (μ' := μ) rfl ?_
      refine xr_ifc (pct := 39) rfl rfl rfl (fun hc => ?_) (fun hc => ?_)
      · replace h := (if_neg (of_decide_eq_true hc)).symm.trans h
        refine xr_go 1 (pc' := 41) (lo' := [some (.ref v0), some (.int v1), some (.int v2), none]) (st' := [.int (xc 99), .int v2]) (μ' := μ) rfl ?_
        refine xr_forget (lo := [some (.ref v0), some (.int v1), some (.int v2), none]) ⟨rfl, rfl, rfl, trivial⟩ ?_
        exact fM_set_41_ok h hK
      · replace h := (if_pos (Decidable.of_not_not (of_decide_eq_false hc))).symm.trans h
        refine xr_go 2 (pc' := 41) (lo' := [some (.ref v0), some (.int v1), some (.int v2), none]) (st' := [.int (xc 999), .int v2]) (μ' := μ) rfl ?_
        refine xr_forget (lo := [some (.ref v0), some (.int v1), some (.int v2), none]) ⟨rfl, rfl, rfl, trivial⟩ ?_
        exact fM_set_41_ok h hK
    · replace h := (if_neg (of_decide_eq_false hc)).symm.trans h
      refine xr_go 2 (pc' := 24) (lo' := [some (.ref v0), some (.int v1), some (.int v2), none]) (st' := [.int (xc (-4)), .ref v0]) (μ' := μ) rfl ?_
      obtain ⟨r9, hr9, h⟩ := Option.bind_eq_some_iff.mp h
      refine xr_callV (j := 138) (d' := (d + 0)) (rv1 := some (.int r9.1)) (μ1 := r9.2) (rest := []) (As := [.int (xc (-4))]) rfl rfl rfl rfl (Nat.le_of_ble_eq_true rfl) (fM_refuse_kd hr9) rfl (by exact (fM_refuse_ok (d := d + (0)) hr9)) ?_
      have ho := Option.some.inj h
      subst ho
      obtain ⟨rfl, rfl⟩ := hK
      exact xr_ret (rv := some (.int r9.1)) rfl rfl (Or.inl rfl)
  · replace h := (if_pos (Decidable.of_not_not (of_decide_eq_false hc))).symm.trans h
    refine xr_go 2 (pc' := 13) (lo' := [some (.ref v0), some (.int v1), some (.int v2), none]) (st' := [.int (xc (-2)), .ref v0]) (μ' := μ) rfl ?_
    obtain ⟨r10, hr10, h⟩ := Option.bind_eq_some_iff.mp h
    refine xr_callV (j := 138) (d' := (d + 0)) (rv1 := some (.int r10.1)) (μ1 := r10.2) (rest := []) (As := [.int (xc (-2))]) rfl rfl rfl rfl (Nat.le_of_ble_eq_true rfl) (fM_refuse_kd hr10) rfl (by exact (fM_refuse_ok (d := d + (0)) hr10)) ?_
    have ho := Option.some.inj h
    subst ho
    obtain ⟨rfl, rfl⟩ := hK
    exact xr_ret (rv := some (.int r10.1)) rfl rfl (Or.inl rfl)
noncomputable def fM_set (a0 : Nat) (a1 : Int32) (a2 : Int32) (μ : xM) : Option (Int32 × xM) := xgd μ a0 9 (fM_set_0 a0 a1 a2 μ)
theorem fM_set_kd {a0 : Nat} {a1 : Int32} {a2 : Int32} {μ : xM} {o : Int32 × xM} (h : fM_set a0 a1 a2 μ = some o) : (xK μ a0).1 = 10 + 9 := (xgd_some h).1
theorem fM_set_ok {d : Nat} {a0 : Nat} {a1 : Int32} {a2 : Int32} {μ : xM} {o : Int32 × xM} (h : fM_set a0 a1 a2 μ = some o) : xRun (d + 1) 205 0 [some (.ref a0), some (.int a1), some (.int a2), none] [] μ (some (.int o.1)) o.2 :=
  xr_forget (lo := [some (.ref a0), some (.int a1), some (.int a2), none]) (⟨rfl, rfl, rfl, trivial⟩) (fM_set_0_ok (d := d) (xgd_some h).2 (show fM_set_K _ _ o from ⟨rfl, rfl⟩))
