/-! runs without fuel, and loops as functions -/
theorem xrun_ret {P : xP} {n d y pc len : Nat} {lo : xLo} {μ : xM} {rv : Option Value} (hf : P.1 y pc = some (xretI rv, len)) (hk : xrok (P.2 y).2.2.1 rv) : xrun P (n + 1) d y pc lo rv.toList μ = some (rv, μ) := by
  unfold xrun
  rw [hf]
  rcases rv with _ | v
  · exact if_pos hk
  · cases v <;> first | exact if_pos hk | exact hk.elim
theorem xrun_call {P : xP} {n d y pc j len : Nat} {lo : xLo} {st : List Value} {μ μ1 : xM} {ins : Instr} {rv1 : Option Value} (hf : P.1 y pc = some (ins, len)) (hi : ins = .invokevirtual j ∨ ins = .invokestatic j ∨ ins = .invokespecial j) (h1 : (P.2 j).1 ≤ st.length) (h2 : ((st.drop (P.2 j).1).map fun v => v.category).sum ≤ 8) (h3 : xrc ins μ (st.take (P.2 j).1).reverse (P.2 j).2.2.2 (P.2 j).2.1 = true)
    (hr : xrun P n d j 0 (xentry (P.2 j).2.1 (st.take (P.2 j).1).reverse) [] μ = some (rv1, μ1)) : xrun P (n + 1) (d + 1) y pc lo st μ = xrun P n (d + 1) y (pc + 3) lo (rv1.toList ++ st.drop (P.2 j).1) μ1 := by
  generalize hR : xrun P n (d + 1) y (pc + 3) lo (rv1.toList ++ st.drop (P.2 j).1) μ1 = Rr
  unfold xrun
  rw [hf]
  rcases hi with rfl | rfl | rfl <;>
    (dsimp only
     rw [if_pos ⟨⟨h1, h2⟩, h3⟩, hr]
     exact hR)
theorem xrun_step {P : xP} {n d y pc len : Nat} {lo : xLo} {st : List Value} {μ : xM} {ins : Instr} {r : Nat × xLo × List Value × xM} (hf : P.1 y pc = some (ins, len)) (hs : xstep ins len pc lo st μ = some r) : xrun P (n + 1) d y pc lo st μ = xrun P n d y r.1 r.2.1 r.2.2.1 r.2.2.2 := by
  generalize hR : xrun P n d y r.1 r.2.1 r.2.2.1 r.2.2.2 = Rr
  unfold xrun
  rw [hf]
  cases ins <;> first
    | (simp only [xstep] at hs; cases hs; done)
    | (dsimp only
       rw [hs]
       exact hR)
theorem xrun_mono {P : xP} : ∀ (n k d y pc : Nat) (lo : xLo) (st : List Value) (μ : xM) (r : Option Value × xM), xrun P n d y pc lo st μ = some r → xrun P (n + k) d y pc lo st μ = some r := by
  intro n
  induction n with
  | zero => intro k d y pc lo st μ r h; cases h
  | succ n ih =>
    intro k d y pc lo st μ r h
    obtain ⟨n', e, ins, len, hf, h⟩ := xrun_inv h
    cases e
    rw [show n + 1 + k = (n + k) + 1 by omega]
    obtain ⟨r1, r2⟩ := r
    rcases h with ⟨e1, e2, e3, e4⟩ | ⟨j, d', rv, μ1, hi, e1, h1, h2, h3, h4, h5⟩ | ⟨r1, h1, h2⟩
    · dsimp only at e1 e2 e3 e4
      subst e1
      subst e2
      subst e3
      exact xrun_ret hf e4
    · subst e1
      rw [xrun_call hf hi h1 h2 h3 (ih k _ _ _ _ _ _ _ h4)]
      exact ih k _ _ _ _ _ _ _ h5
    · rw [xrun_step hf h1]
      exact ih k _ _ _ _ _ _ _ h2
/-- a run, whatever its fuel -/
def xRun (d y pc : Nat) (lo : xLo) (st : List Value) (μ : xM) (rv : Option Value) (μf : xM) : Prop := ∃ n, xrun PG n d y pc lo st μ = some (rv, μf)
def xone (y pc : Nat) (lo : xLo) (st : List Value) (μ : xM) : Option (Nat × xLo × List Value × xM) := match xPf y pc with
  | some (ins, len) => xstep ins len pc lo st μ
  | none => none
def xgo : Nat → Nat → Nat → xLo → List Value → xM → Option (Nat × xLo × List Value × xM)
  | 0, _, pc, lo, st, μ => some (pc, lo, st, μ)
  | k + 1, y, pc, lo, st, μ => match xone y pc lo st μ with
    | some (pc', lo', st', μ') => xgo k y pc' lo' st' μ'
    | none => none
section XRL
variable {d y pc pc' pct len j n ml rc own : Nat} {lo lo' : xLo} {st st' : List Value} {μ μ' μf : xM} {rv : Option Value}
theorem xr_one (h : xone y pc lo st μ = some (pc', lo', st', μ')) (hr : xRun d y pc' lo' st' μ' rv μf) : xRun d y pc lo st μ rv μf := by
  obtain ⟨n, hn⟩ := hr
  unfold xone at h
  split at h
  · rename_i ins len hf
    exact ⟨n + 1, by rw [xrun_step (P := PG) hf h]; exact hn⟩
  · cases h
theorem xr_go : ∀ (k : Nat) {pc : Nat} {lo : xLo} {st : List Value} {μ : xM} {pc' : Nat} {lo' : xLo} {st' : List Value} {μ' : xM}, xgo k y pc lo st μ = some (pc', lo', st', μ') → xRun d y pc' lo' st' μ' rv μf → xRun d y pc lo st μ rv μf
  | 0, _, _, _, _, _, _, _, _, h, hr => by cases h; exact hr
  | k + 1, _, _, _, _, _, _, _, _, h, hr => by
    unfold xgo at h
    split at h
    · rename_i h1
      exact xr_one h1 (xr_go k h hr)
    · cases h
theorem xr_opI {o : Option Int32} {x : Int32} (h : xone y pc lo st μ = o.map fun z => (pc', lo', .int z :: st', μ)) (ho : o = some x) (hr : xRun d y pc' lo' (.int x :: st') μ rv μf) : xRun d y pc lo st μ rv μf := by
  subst ho
  exact xr_one h hr
theorem xr_opJ {o : Option Int64} {x : Int64} (h : xone y pc lo st μ = o.map fun z => (pc', lo', .long z :: st', μ)) (ho : o = some x) (hr : xRun d y pc' lo' (.long x :: st') μ rv μf) : xRun d y pc lo st μ rv μf := by
  subst ho
  exact xr_one h hr
theorem xr_opA {o : Option Nat} {x : Nat} (h : xone y pc lo st μ = o.map fun z => (pc', lo', .ref z :: st', μ)) (ho : o = some x) (hr : xRun d y pc' lo' (.ref x :: st') μ rv μf) : xRun d y pc lo st μ rv μf := by
  subst ho
  exact xr_one h hr
theorem xr_opM {o : Option xM} {x : xM} (h : xone y pc lo st μ = o.map fun z => (pc', lo', st', z)) (ho : o = some x) (hr : xRun d y pc' lo' st' x rv μf) : xRun d y pc lo st μ rv μf := by
  subst ho
  exact xr_one h hr
theorem xr_icmp {q : Jvm.ClassFile.Cond} {off : Int} {x z : Int32} (hf : xPf y pc = some (.if_icmp q off, 3)) (ht : xto pc off = pct) (h0 : decide (0 ≤ (pc : Int) + off) = true) (h1 : xcb q x z = true → xRun d y pct lo st μ rv μf) (h2 : xcb q x z = false → xRun d y (pc + 3) lo st μ rv μf) : xRun d y pc lo (.int z :: .int x :: st) μ rv μf := by
  have e : xone y pc lo (.int z :: .int x :: st) μ = some (if xcb q x z then xto pc off else pc + 3, lo, st, μ) := by
    unfold xone
    rw [hf]
    exact if_pos (of_decide_eq_true h0)
  cases hc : xcb q x z with
  | true =>
    rw [hc, if_pos rfl, ht] at e
    exact xr_one e (h1 hc)
  | false =>
    rw [hc, if_neg (by decide)] at e
    exact xr_one e (h2 hc)
theorem xr_ifc {q : Jvm.ClassFile.Cond} {off : Int} {x : Int32} (hf : xPf y pc = some (.ifCond q off, 3)) (ht : xto pc off = pct) (h0 : decide (0 ≤ (pc : Int) + off) = true) (h1 : xcb q x 0 = true → xRun d y pct lo st μ rv μf) (h2 : xcb q x 0 = false → xRun d y (pc + 3) lo st μ rv μf) : xRun d y pc lo (.int x :: st) μ rv μf := by
  have e : xone y pc lo (.int x :: st) μ = some (if xcb q x 0 then xto pc off else pc + 3, lo, st, μ) := by
    unfold xone
    rw [hf]
    exact if_pos (of_decide_eq_true h0)
  cases hc : xcb q x 0 with
  | true =>
    rw [hc, if_pos rfl, ht] at e
    exact xr_one e (h1 hc)
  | false =>
    rw [hc, if_neg (by decide)] at e
    exact xr_one e (h2 hc)
theorem xr_sw {x v : Int32} (hx : x = v) (h : xone y pc lo (.int v :: st) μ = some (pc', lo', st', μ')) (hr : xRun d y pc' lo' st' μ' rv μf) : xRun d y pc lo (.int x :: st) μ rv μf := by
  subst hx
  exact xr_one h hr
theorem xr_tswD {dflt low high : Int} {offs : Array Int} {x : Int32} (hf : xPf y pc = some (.tableswitch dflt low high offs, len)) (hx : x.toInt < low ∨ high < x.toInt) (ht : xto pc dflt = pc') (h0 : decide (0 ≤ (pc : Int) + dflt) = true) (hr : xRun d y pc' lo st μ rv μf) : xRun d y pc lo (.int x :: st) μ rv μf := by
  refine xr_one (pc' := pc') (lo' := lo) (st' := st) (μ' := μ) ?_ hr
  unfold xone
  rw [hf, ← ht]
  exact (if_pos hx).trans (if_pos (of_decide_eq_true h0))
theorem xr_lswD {dflt o0 o1 : Int} {x : Int32} (hf : xPf y pc = some (.lookupswitch dflt #[(0, o0), (1, o1)], len)) (hx0 : ¬ x = xc 0) (hx1 : ¬ x = xc 1) (ht : xto pc dflt = pc') (h0 : decide (0 ≤ (pc : Int) + dflt) = true) (hr : xRun d y pc' lo st μ rv μf) : xRun d y pc lo (.int x :: st) μ rv μf := by
  refine xr_one (pc' := pc') (lo' := lo) (st' := st) (μ' := μ) ?_ hr
  unfold xone
  rw [hf, ← ht]
  have e : Op.lookupswitch.offset [((0 : Int), o0), ((1 : Int), o1)] dflt x.toInt = dflt := by
    rw [lv_osw hx0 (by decide), lv_osw hx1 (by decide)]
    rfl
  show (if _ ∧ 0 ≤ (pc : Int) + Op.lookupswitch.offset [((0 : Int), o0), ((1 : Int), o1)] dflt x.toInt then some (xto pc (Op.lookupswitch.offset [((0 : Int), o0), ((1 : Int), o1)] dflt x.toInt), lo, st, μ) else none) = _
  rw [e]
  exact if_pos ⟨rfl, of_decide_eq_true h0⟩
theorem xr_ret (hf : xPf y pc = some (xretI rv, 1)) (hi : st = rv.toList) (hk : xrok (xPi y).2.2.1 rv) : xRun d y pc lo st μ rv μ := by
  subst hi
  exact ⟨1, xrun_ret (P := PG) (n := 0) hf hk⟩
theorem xr_callX {d' : Nat} {ins : Instr} {rv1 : Option Value} {μ1 : xM} {av rest : List Value} (hf : xPf y pc = some (ins, len)) (hi : ins = .invokevirtual j ∨ ins = .invokestatic j ∨ ins = .invokespecial j) (hp : xPi j = (n, ml, rc, own)) (hst : st = av.reverse ++ rest) (hn : av.length = n) (h2 : (rest.map fun v => v.category).sum ≤ 8) (h3 : xrc ins μ av own ml = true) (hr : xRun d' j 0 (xentry ml av) [] μ rv1 μ1) (hk : xRun (d' + 1) y (pc + 3) lo (rv1.toList ++ rest) μ1 rv μf) : xRun (d' + 1) y pc lo st μ rv μf := by
  obtain ⟨n1, h1⟩ := hr
  obtain ⟨n2, h4⟩ := hk
  have hlen : av.reverse.length = n := by rw [List.length_reverse]; exact hn
  have et : st.take n = av.reverse := by rw [hst, ← hlen, List.take_left]
  have ed : st.drop n = rest := by rw [hst, ← hlen, List.drop_left]
  have hp1 : (PG.2 j) = (n, ml, rc, own) := hp
  refine ⟨(n1 + n2) + 1, ?_⟩
  rw [xrun_call (P := PG) hf hi (by rw [hp1, hst, List.length_append, hlen]; exact Nat.le_add_right _ _) (by rw [hp1]; show ((st.drop n).map _).sum ≤ 8; rw [ed]; exact h2) (by rw [hp1]; show xrc ins μ (st.take n).reverse own ml = true; rw [et, List.reverse_reverse]; exact h3) (by rw [hp1]; show xrun PG (n1 + n2) d' j 0 (xentry ml (st.take n).reverse) [] μ = _; rw [et, List.reverse_reverse]; exact xrun_mono _ n2 _ _ _ _ _ _ _ h1)]
  rw [hp1]
  show xrun PG (n1 + n2) (d' + 1) y (pc + 3) lo (rv1.toList ++ st.drop n) μ1 = _
  rw [ed, Nat.add_comm]
  exact xrun_mono _ n1 _ _ _ _ _ _ _ h4
theorem xrc_V {a : Nat} {As : List Value} (h : (xK μ a).1 = 10 + own) (hm : Nat.ble (xargs (.ref a :: As)).length ml = true) : xrc (.invokevirtual j) μ (.ref a :: As) own ml = true := by
  unfold xrc
  rw [Bool.and_eq_true]
  exact ⟨hm, by show Nat.beq _ _ = true; rw [h]; exact Nat.beq_refl _⟩
theorem xr_callV (j : Nat) (d' : Nat) (rv1 : Option Value) (μ1 : xM) (rest : List Value) {a : Nat} {As : List Value} (hf : xPf y pc = some (.invokevirtual j, 3)) (hp : xPi j = (n, ml, rc, own)) (hst : st = (.ref a :: As).reverse ++ rest) (hn : As.length + 1 = n) (h2 : (rest.map fun v => v.category).sum ≤ 8) (h : (xK μ a).1 = 10 + own) (hm : Nat.ble (xargs (.ref a :: As)).length ml = true) (hr : xRun d' j 0 (xentry ml (.ref a :: As)) [] μ rv1 μ1) (hk : xRun (d' + 1) y (pc + 3) lo (rv1.toList ++ rest) μ1 rv μf) : xRun (d' + 1) y pc lo st μ rv μf :=
  xr_callX hf (Or.inl rfl) hp hst hn h2 (xrc_V h hm) hr hk
theorem xr_callS (j : Nat) (d' : Nat) (rv1 : Option Value) (μ1 : xM) (rest : List Value) {As : List Value} (hf : xPf y pc = some (.invokestatic j, 3)) (hp : xPi j = (n, ml, rc, own)) (hst : st = As.reverse ++ rest) (hn : As.length = n) (h2 : (rest.map fun v => v.category).sum ≤ 8) (hm : Nat.ble (xargs As).length ml = true) (hr : xRun d' j 0 (xentry ml As) [] μ rv1 μ1) (hk : xRun (d' + 1) y (pc + 3) lo (rv1.toList ++ rest) μ1 rv μf) : xRun (d' + 1) y pc lo st μ rv μf :=
  xr_callX hf (Or.inr (Or.inl rfl)) hp hst hn h2 (by unfold xrc; rw [Bool.and_eq_true]; exact ⟨hm, rfl⟩) hr hk
theorem xr_callI (j : Nat) (d' : Nat) (rv1 : Option Value) (μ1 : xM) (rest : List Value) {a : Nat} {As : List Value} (hf : xPf y pc = some (.invokespecial j, 3)) (hp : xPi j = (n, ml, rc, own)) (hst : st = (.ref a :: As).reverse ++ rest) (hn : As.length + 1 = n) (h2 : (rest.map fun v => v.category).sum ≤ 8) (hm : Nat.ble (xargs (.ref a :: As)).length ml = true) (hr : xRun d' j 0 (xentry ml (.ref a :: As)) [] μ rv1 μ1) (hk : xRun (d' + 1) y (pc + 3) lo (rv1.toList ++ rest) μ1 rv μf) : xRun (d' + 1) y pc lo st μ rv μf :=
  xr_callX hf (Or.inr (Or.inr rfl)) hp hst hn h2 (by unfold xrc; rw [Bool.and_eq_true]; exact ⟨hm, rfl⟩) hr hk
end XRL
/-- fewer known places of a frame -/
def xle : xLo → xLo → Prop
  | [], [] => True
  | none :: a, _ :: b => xle a b
  | some v :: a, some w :: b => v = w ∧ xle a b
  | _, _ => False
theorem xle_get : ∀ {a b : xLo}, xle a b → a.length = b.length ∧ ∀ (i : Nat) (v : Value), a[i]? = some (some v) → b[i]? = some (some v)
  | [], [], _ => ⟨rfl, fun i v h => h⟩
  | none :: a, x :: b, h => by
    obtain ⟨h1, h2⟩ := xle_get (a := a) (b := b) h
    refine ⟨congrArg (· + 1) h1, fun i v hi => ?_⟩
    match i, hi with
    | 0, hi => cases hi
    | i + 1, hi => exact h2 i v hi
  | some v :: a, some w :: b, h => by
    obtain ⟨rfl, h⟩ := h
    obtain ⟨h1, h2⟩ := xle_get (a := a) (b := b) h
    refine ⟨congrArg (· + 1) h1, fun i v hi => ?_⟩
    match i, hi with
    | 0, hi => exact hi
    | i + 1, hi => exact h2 i v hi
def xsub (a b : xLo) : Prop := a.length = b.length ∧ ∀ (i : Nat) (v : Value), a[i]? = some (some v) → b[i]? = some (some v)
theorem xsub_kill {a b : xLo} (h : xsub a b) (i : Nat) : xsub (xkill a i) (xkill b i) := by
  refine ⟨by rw [xkill_len, xkill_len]; exact h.1, fun j v hj => ?_⟩
  obtain ⟨h1, h2⟩ := xkill_get hj
  have h3 := h.2 j v h1
  match i with
  | 0 => exact h3
  | k + 1 =>
    rw [xkill_s]
    by_cases c : xcat b[k]? = true
    · rw [if_pos c]
      by_cases e : j = k
      · subst e
        rw [h3] at c
        exact absurd ⟨rfl, Nat.eq_of_beq_eq_true c⟩ h2
      · rw [List.getElem?_set_ne (fun q => e q.symm)]
        exact h3
    · rw [if_neg c]
      exact h3
theorem xsub_set {a b : xLo} (h : xsub a b) (i : Nat) (o : Option Value) : xsub (a.set i o) (b.set i o) := by
  refine ⟨by rw [List.length_set, List.length_set]; exact h.1, fun j v hj => ?_⟩
  by_cases e : i = j
  · subst e
    rw [List.getElem?_set] at hj ⊢
    rw [if_pos rfl] at hj ⊢
    rw [← h.1]
    exact hj
  · rw [List.getElem?_set_ne e] at hj ⊢
    exact h.2 j v hj
set_option maxHeartbeats 4000000 in
theorem xstep_sub {ins : Instr} {len pc : Nat} {a b : xLo} {st : List Value} {μ : xM} {r : Nat × xLo × List Value × xM} (h : xsub a b) (hs : xstep ins len pc a st μ = some r) : ∃ b', xsub r.2.1 b' ∧ xstep ins len pc b st μ = some (r.1, b', r.2.2.1, r.2.2.2) := by
  cases ins <;> simp only [xstep] at hs ⊢ <;> (repeat' split at hs) <;>
    first
    | (cases hs; done)
    | (cases hs; exact ⟨b, h, rfl⟩)
    | (cases hs; exact ⟨b, h, if_pos (by assumption)⟩)
    | (obtain ⟨z, hz, rfl⟩ := Option.map_eq_some_iff.mp hs; exact ⟨b, h, by rw [hz]; rfl⟩)
    | (obtain ⟨z, hz, rfl⟩ := Option.map_eq_some_iff.mp hs; exact ⟨b, h, (if_pos (by assumption)).trans (by rw [hz]; rfl)⟩)
    | (cases hs; exact ⟨b, h, by rw [h.2 _ _ (by assumption)]⟩)
    | (cases hs; exact ⟨xst1 b _ _, xsub_set (xsub_kill h _) _ _, if_pos (by rw [← h.1]; assumption)⟩)
    | (cases hs; exact ⟨xst2 b _ _, xsub_set (xsub_set (xsub_kill h _) _ _) _ _, if_pos (by rw [← h.1]; assumption)⟩)
    | (cases hs; exact ⟨xst1 b _ _, xsub_set (xsub_kill h _) _ _, by rw [h.2 _ _ (by assumption)]⟩)
    | (cases hs; exact ⟨b, h, (if_pos (by assumption)).trans (if_pos (by assumption))⟩)
    | (cases hs; exact ⟨b, h, (if_neg (by assumption)).trans (by simp only [*]; exact if_pos (by assumption))⟩)
    | (cases hs; exact ⟨b, h, by simp [*]⟩)
theorem xrun_sub {P : xP} : ∀ (n d y pc : Nat) (a b : xLo) (st : List Value) (μ : xM) (r : Option Value × xM), xsub a b → xrun P n d y pc a st μ = some r → xrun P n d y pc b st μ = some r := by
  intro n
  induction n with
  | zero => intro d y pc a b st μ r hs h; cases h
  | succ n ih =>
    intro d y pc a b st μ r hs h
    obtain ⟨n', e, ins, len, hf, h⟩ := xrun_inv h
    cases e
    obtain ⟨r1, r2⟩ := r
    rcases h with ⟨e1, e2, e3, e4⟩ | ⟨j, d', rv, μ1, hi, e1, h1, h2, h3, h4, h5⟩ | ⟨r1, h1, h2⟩
    · dsimp only at e1 e2 e3 e4
      subst e1
      subst e2
      subst e3
      exact xrun_ret hf e4
    · subst e1
      rw [xrun_call hf hi h1 h2 h3 h4]
      exact ih _ _ _ _ _ _ _ _ hs h5
    · obtain ⟨b', hb, h3⟩ := xstep_sub hs h1
      rw [xrun_step hf h3]
      exact ih _ _ _ _ _ _ _ _ hb h2
theorem xr_forget {d y pc : Nat} {lo lo' : xLo} {st : List Value} {μ μf : xM} {rv : Option Value} (h : xle lo lo') (hr : xRun d y pc lo st μ rv μf) : xRun d y pc lo' st μ rv μf := by
  obtain ⟨n, hn⟩ := hr
  exact ⟨n, xrun_sub _ _ _ _ _ _ _ _ _ (xle_get h) hn⟩
-- loops
def xit {σ α : Type} (body : σ → Option (σ ⊕ α)) : Nat → σ → Option α
  | 0, _ => none
  | n + 1, s => match body s with
    | none => none
    | some (.inl s') => xit body n s'
    | some (.inr a) => some a
/-- a loop's answer, if it comes to one -/
noncomputable def xwh {σ α : Type} (body : σ → Option (σ ⊕ α)) (s : σ) : Option α := @dite (Option α) (∃ (n : Nat) (a : α), xit body n s = some a) (Classical.propDecidable _) (fun h => some h.choose_spec.choose) (fun _ => none)
theorem xit_mono {σ α : Type} {body : σ → Option (σ ⊕ α)} : ∀ {n : Nat} (k : Nat) {s : σ} {a : α}, xit body n s = some a → xit body (n + k) s = some a
  | 0, _, _, _, h => by cases h
  | n + 1, k, s, a, h => by
    rw [show n + 1 + k = (n + k) + 1 by omega]
    unfold xit at h ⊢
    split at h
    · cases h
    · exact xit_mono k h
    · exact h
theorem xwh_iff {σ α : Type} {body : σ → Option (σ ⊕ α)} {s : σ} {a : α} : xwh body s = some a ↔ ∃ n, xit body n s = some a := by
  unfold xwh
  constructor
  · intro h
    by_cases q : ∃ (n : Nat) (a : α), xit body n s = some a
    · rw [dif_pos q] at h
      cases h
      exact ⟨q.choose, q.choose_spec.choose_spec⟩
    · rw [dif_neg q] at h
      cases h
  · rintro ⟨n, hn⟩
    have q : ∃ (n : Nat) (a : α), xit body n s = some a := ⟨n, a, hn⟩
    rw [dif_pos q]
    have h1 := xit_mono n q.choose_spec.choose_spec
    have h2 := xit_mono q.choose hn
    rw [Nat.add_comm] at h2
    rw [h2] at h1
    exact h1.symm
theorem xwh_ind {σ α : Type} {body : σ → Option (σ ⊕ α)} {Rh : σ → Prop} {Co : α → Prop} (hb : ∀ s o, body s = some o → Sum.elim Rh Co o → Rh s) {s : σ} {a : α} (h : xwh body s = some a) (hc : Co a) : Rh s := by
  obtain ⟨n, hn⟩ := xwh_iff.mp h
  clear h
  induction n generalizing s with
  | zero => cases hn
  | succ n ih =>
    unfold xit at hn
    split at hn
    · cases hn
    · rename_i s' hs
      exact hb s _ hs (ih hn)
    · rename_i a' hs
      cases hn
      exact hb s _ hs hc
def xgd {α : Type} (μ : xM) (a ci : Nat) (o : Option α) : Option α := if (xK μ a).1 = 10 + ci then o else none
theorem xgd_some {α : Type} {μ : xM} {a ci : Nat} {o : Option α} {r : α} (h : xgd μ a ci o = some r) : (xK μ a).1 = 10 + ci ∧ o = some r := xifO h
def xnewA (μ : xM) (t : Nat) (n : Int32) : Option xM := if ¬ n < 0 ∧ n.toNatClampNeg ≤ 60000000 then some (xnew μ (t, n.toNatClampNeg) (0, 0) 0 n.toNatClampNeg) else none
def xnewAA (μ : xM) (n k : Int32) : Option xM := if (¬ n < 0 ∧ n.toNatClampNeg ≤ 60000000) ∧ (¬ k < 0 ∧ k.toNatClampNeg ≤ 60000000) then some (xnew μ (6, n.toNatClampNeg) (3, k.toNatClampNeg) n.toNatClampNeg (n.toNatClampNeg + n.toNatClampNeg * k.toNatClampNeg)) else none
theorem xif_map {α β : Type} {P : Prop} [Decidable P] {x : α} {f : α → β} : (if P then some (f x) else none) = (if P then some x else none).map f := by
  by_cases h : P
  · rw [if_pos h, if_pos h]; rfl
  · rw [if_neg h, if_neg h]; rfl
theorem xs_newA1 (y pc : Nat) (lo : xLo) (st : List Value) (μ : xM) (n : Int32) (hf : xPf y pc = some (.newarray .int, 2)) : xone y pc lo (.int n :: st) μ = (xnewA μ 1 n).map fun z => (pc + 2, lo, .ref (xS μ) :: st, z) := by
  unfold xone
  rw [hf]
  exact xif_map (f := fun z => (pc + 2, lo, Value.ref (xS μ) :: st, z))
theorem xs_newA2 (y pc : Nat) (lo : xLo) (st : List Value) (μ : xM) (n : Int32) (hf : xPf y pc = some (.newarray .boolean, 2)) : xone y pc lo (.int n :: st) μ = (xnewA μ 2 n).map fun z => (pc + 2, lo, .ref (xS μ) :: st, z) := by
  unfold xone
  rw [hf]
  exact xif_map (f := fun z => (pc + 2, lo, Value.ref (xS μ) :: st, z))
theorem xs_newA3 (y pc : Nat) (lo : xLo) (st : List Value) (μ : xM) (n : Int32) (hf : xPf y pc = some (.newarray .long, 2)) : xone y pc lo (.int n :: st) μ = (xnewA μ 3 n).map fun z => (pc + 2, lo, .ref (xS μ) :: st, z) := by
  unfold xone
  rw [hf]
  exact xif_map (f := fun z => (pc + 2, lo, Value.ref (xS μ) :: st, z))
theorem xs_newAr (t y pc : Nat) (lo : xLo) (st : List Value) (μ : xM) (n : Int32) (ht : t = 4 ∨ t = 5) (hf : xPf y pc = some (.anewarray t, 3)) : xone y pc lo (.int n :: st) μ = (xnewA μ t n).map fun z => (pc + 3, lo, .ref (xS μ) :: st, z) := by
  unfold xone
  rw [hf]
  show (if (¬ n < 0 ∧ n.toNatClampNeg ≤ 60000000) ∧ (t = 4 ∨ t = 5) then some (pc + 3, lo, Value.ref (xS μ) :: st, xnew μ (t, n.toNatClampNeg) (0, 0) 0 n.toNatClampNeg) else none) = _
  unfold xnewA
  rw [← xif_map (f := fun z => (pc + 3, lo, Value.ref (xS μ) :: st, z))]
  by_cases h : ¬ n < 0 ∧ n.toNatClampNeg ≤ 60000000
  · rw [if_pos h, if_pos ⟨h, ht⟩]
  · rw [if_neg h, if_neg (fun q => h q.1)]
theorem xs_newA4 (y pc : Nat) (lo : xLo) (st : List Value) (μ : xM) (n : Int32) (hf : xPf y pc = some (.anewarray 4, 3)) : xone y pc lo (.int n :: st) μ = (xnewA μ 4 n).map fun z => (pc + 3, lo, .ref (xS μ) :: st, z) := xs_newAr 4 y pc lo st μ n (Or.inl rfl) hf
theorem xs_newA5 (y pc : Nat) (lo : xLo) (st : List Value) (μ : xM) (n : Int32) (hf : xPf y pc = some (.anewarray 5, 3)) : xone y pc lo (.int n :: st) μ = (xnewA μ 5 n).map fun z => (pc + 3, lo, .ref (xS μ) :: st, z) := xs_newAr 5 y pc lo st μ n (Or.inr rfl) hf
theorem xs_newAA (y pc : Nat) (lo : xLo) (st : List Value) (μ : xM) (n k : Int32) (hf : xPf y pc = some (.multianewarray 6 2, 4)) : xone y pc lo (.int k :: .int n :: st) μ = (xnewAA μ n k).map fun z => (pc + 4, lo, .ref (xS μ) :: st, z) := by
  unfold xone
  rw [hf]
  exact xif_map (f := fun z => (pc + 4, lo, Value.ref (xS μ) :: st, z))
