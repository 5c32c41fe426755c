/-! what the abstract machine does in one step, the machine does -/
/-- where a body stands: machine, code, tables, what the tables give of classes, the old cells -/
def xCtx (G : xG) (b th B L : Nat) (xs : Nat → Int32) (hold : Nat → Int64) (y : Nat) (p : Program) (R : Room) (s : State) (m : MethodId) (args : Array Value) (meth : Method) (c : Code) : Prop :=
  p.tables.exec = Jvm.exec ∧ c.code = xBy y ∧ c.maxLocals = xMl y ∧ s.vm.findClass (xCn (xOw y)) = some m.cls ∧ (∀ w ∈ xtb, w.before args s = true) ∧ xKn G s ∧ xOld b th B L xs hold s s.heap ∧ B ≤ s.heap.size ∧ ((xMn y).name = "<init>" → meth.name = "<init>") ∧ 1 ≤ R.frames ∧ 64 ≤ R.locals
/-- field number j of class (j / 10000): its place and type are what the number says -/
def xfok (j : Nat) : Bool := Nat.blt (j / 10000) 10 && !(Nat.beq (j / 10000) 4) && Nat.blt (j / 10 % 1000) (xN (j / 10000)) && Nat.beq (xFc (j / 10000) (j / 10 % 1000)) (j % 10)
/-- an instruction of the abstract program beside the code's own -/
def xlink (y pc : Nat) (raw ins : Instr) : Bool :=
  match ins with
  | .sipush n => match raw with
    | .bipush k => decide (k = n ∧ -128 ≤ n ∧ n ≤ 127)
    | .sipush k => decide (k = n ∧ -32768 ≤ n ∧ n ≤ 32767)
    | .ldc i => decide ((xOw y, i, n) ∈ xKI)
    | .ldc_w i => decide ((xOw y, i, n) ∈ xKI)
    | _ => false
  | .iload i => match raw with | .iload k => Nat.beq k i | .iload_n k => Nat.beq k i | _ => false
  | .lload i => match raw with | .lload k => Nat.beq k i | .lload_n k => Nat.beq k i | _ => false
  | .aload i => match raw with | .aload k => Nat.beq k i | .aload_n k => Nat.beq k i | _ => false
  | .istore i => match raw with | .istore k => Nat.beq k i | .istore_n k => Nat.beq k i | _ => false
  | .lstore i => match raw with | .lstore k => Nat.beq k i | .lstore_n k => Nat.beq k i | _ => false
  | .astore i => match raw with | .astore k => Nat.beq k i | .astore_n k => Nat.beq k i | _ => false
  | .ldc2_w n => match raw with | .ldc2_w i => decide ((xOw y, i, n) ∈ xKL) | _ => false
  | .getfield j => match raw with | .getfield i => decide ((xOw y, i, j) ∈ xFL) && xfok j | _ => false
  | .putfield j => match raw with | .putfield i => decide ((xOw y, i, j) ∈ xFL) && xfok j && (!(xTf (j / 10000) (j / 10 % 1000)).2.2.2 || (decide ((xMn y).name = "<init>") && decide (xOw y = j / 10000))) | _ => false
  | .getstatic _ => match raw with | .getstatic i => decide ((xOw y, i) ∈ xHL) | _ => false
  | .invokevirtual j => match raw with | .invokevirtual i => decide ((xOw y, i, j) ∈ xML) && decide (j ∈ xVM) && Nat.blt j xnM && Nat.blt 0 (xNa j) && decide ((parseMethodDescriptor (xMn j).desc).map (fun d => d.parameters.length) = some (xNa j - 1)) && !(Nat.beq (xOw j) 13) && Nat.blt (xOw j) 10 && !(Nat.beq (xOw j) 4) | _ => false
  | .invokestatic j => match raw with | .invokestatic i => (decide ((xOw y, i, j) ∈ xML) || decide ((xOw y, i, j) ∈ xNL)) && decide (j ∈ xSM) && Nat.blt j xnM && decide ((parseMethodDescriptor (xMn j).desc).map (fun d => d.parameters.length) = some (xNa j)) && !(Nat.beq (xOw j) 13) | _ => false
  | .invokespecial j => match raw with | .invokespecial i => (decide ((xOw y, i, j) ∈ xML) || decide ((xOw y, i, j) ∈ xNL)) && decide (j ∈ xIM) && Nat.blt j xnM && Nat.blt 0 (xNa j) && decide ((xMn j).name = "<init>") && decide (xRt j = none) && decide ((parseMethodDescriptor (xMn j).desc).map (fun d => d.parameters.length) = some (xNa j - 1)) && !(Nat.beq (xOw j) 13) | _ => false
  | .new ci => match raw with | .new i => decide ((xOw y, i, ci) ∈ xCLk) && Nat.blt ci 10 && !(Nat.beq ci 4) | _ => false
  | .anewarray t => match raw with | .anewarray i => (Nat.beq t 4 && decide ((xOw y, i, 5) ∈ xCLk)) || (Nat.beq t 5 && decide ((xOw y, i, 6) ∈ xCLk)) | _ => false
  | .multianewarray _ _ => match raw with | .multianewarray i jj => decide ((xOw y, i) ∈ xJJ) && decide (jj = 2) | _ => false
  | .monitorexit => match raw with | .invokespecial i => decide ((xOw y, i) ∈ xOI) | _ => false
  | .monitorenter => match raw with | .invokestatic i => decide ((xOw y, i) ∈ xAC) | _ => false
  | .athrow => match raw with | .invokestatic i => decide ((xOw y, i) ∈ xAC) | _ => false
  | .fadd => match raw with | .invokestatic i => decide ((xOw y, i, 223) ∈ xML) | _ => false
  | .fsub => match raw with | .invokestatic i => decide ((xOw y, i, 224) ∈ xML) | _ => false
  | _ => decide (raw = ins)
/-- the length of an instruction's bytes (0: looked at nowhere) -/
def xlen : Instr → Nat
  | .iload _ | .lload _ | .aload _ | .istore _ | .lstore _ | .astore _ | .bipush _ | .ldc _ | .newarray _ => 2
  | .sipush _ | .ldc_w _ | .ldc2_w _ | .iinc _ _ | .goto _ | .ifCond _ _ | .if_icmp _ _ | .ifnull _ | .getfield _ | .putfield _ | .getstatic _ | .invokevirtual _ | .invokestatic _ | .invokespecial _ | .new _ | .anewarray _ => 3
  | .multianewarray _ _ => 4
  | .tableswitch _ _ _ _ | .lookupswitch _ _ => 0
  | _ => 1
def xlenok (raw : Instr) (len : Nat) : Bool := Nat.beq (xlen raw) 0 || Nat.beq (xlen raw) len
theorem xlenok_1 {raw : Instr} {len k : Nat} (h : xlenok raw len = true) (hk : xlen raw = k + 1) : len = k + 1 := by
  unfold xlenok at h
  rw [hk] at h
  exact (Nat.eq_of_beq_eq_true h).symm
theorem xref_ok : ∀ c, c < 10 → ∀ k, k < xN c → xFc c k = 2 → (match xTy c k with | .object _ | .array _ => true | _ => false) = true := by decide +kernel
section XS
variable {G : xG} {b th B L : Nat} {xs : Nat → Int32} {hold : Nat → Int64} {y : Nat}
variable {p : Program} {l : Launch} {e : Env} {R : Room} {s : State} {m : MethodId} {args : Array Value} {below : List Frame} {meth : Method} {c : Code} {H : Heap} {locs : List Loc} {cells slots : Nat} {Q : State → Prop}
variable {raw : Instr} {len pc pc' : Nat} {lo lo' : xLo} {st st' : List Value} {μ μ' : xM} {ls : Array Slot}
/-- the goal behind a step -/
def xK1 (G : xG) (b th B L : Nat) (xs : Nat → Int32) (hold : Nat → Int64) (y : Nat) (p : Program) (l : Launch) (e : Env) (R : Room) (s : State) (m : MethodId) (args : Array Value) (below : List Frame) (meth : Method) (c : Code) (cells slots : Nat) (Q : State → Prop) (μ : xM) (r : Nat × xLo × List Value × xM) : Prop :=
  ∀ (ls' : Array Slot) (H' : Heap) (locs' : List Loc) (cells' slots' : Nat), cells' + xS μ = cells + xS r.2.2.2 → slots' + xU μ = slots + xU r.2.2.2 → xLR b th B ls' (xMl y) r.2.1 → xHR G b th B L xs hold r.2.2.2 H' → va_S (xA B) s.heap H' locs' → W p l e R s m args below meth c H' locs' cells' slots' Q (F0 m r.1 ls' (r.2.2.1.map (xcv b th B)))
theorem xs_iadd {r : Nat × xLo × List Value × xM} (hC : xCtx G b th B L xs hold y p R s m args meth c) (hd : decode (xBy y) pc = .ok (raw, len)) (hln : xlenok raw len = true) (hlo : xLR b th B ls (xMl y) lo) (hH : xHR G b th B L xs hold μ H) (hS : va_S (xA B) s.heap H locs) (hr1 : cells + xS r.2.2.2 ≤ R.cells + xS μ) (hr2 : slots + xU r.2.2.2 ≤ R.slots + xU μ) (hlk : xlink y pc raw (.iadd) = true) (hst : xstep (.iadd) len pc lo st μ = some r) (kk : xK1 G b th B L xs hold y p l e R s m args below meth c cells slots Q μ r) : W p l e R s m args below meth c H locs cells slots Q (F0 m pc ls (st.map (xcv b th B))) := by
  have hr : raw = .iadd := of_decide_eq_true hlk
  subst hr
  have e1 : len = 1 := xlenok_1 hln rfl
  subst e1
  simp only [xstep] at hst
  split at hst
  · cases hst
    exact lv_iadd hC.1 hC.2.1 hd (kk ls H locs cells slots rfl rfl hlo hH hS)
  · cases hst
theorem xs_isub {r : Nat × xLo × List Value × xM} (hC : xCtx G b th B L xs hold y p R s m args meth c) (hd : decode (xBy y) pc = .ok (raw, len)) (hln : xlenok raw len = true) (hlo : xLR b th B ls (xMl y) lo) (hH : xHR G b th B L xs hold μ H) (hS : va_S (xA B) s.heap H locs) (hr1 : cells + xS r.2.2.2 ≤ R.cells + xS μ) (hr2 : slots + xU r.2.2.2 ≤ R.slots + xU μ) (hlk : xlink y pc raw (.isub) = true) (hst : xstep (.isub) len pc lo st μ = some r) (kk : xK1 G b th B L xs hold y p l e R s m args below meth c cells slots Q μ r) : W p l e R s m args below meth c H locs cells slots Q (F0 m pc ls (st.map (xcv b th B))) := by
  have hr : raw = .isub := of_decide_eq_true hlk
  subst hr
  have e1 : len = 1 := xlenok_1 hln rfl
  subst e1
  simp only [xstep] at hst
  split at hst
  · cases hst
    exact lv_isub hC.1 hC.2.1 hd (kk ls H locs cells slots rfl rfl hlo hH hS)
  · cases hst
theorem xs_imul {r : Nat × xLo × List Value × xM} (hC : xCtx G b th B L xs hold y p R s m args meth c) (hd : decode (xBy y) pc = .ok (raw, len)) (hln : xlenok raw len = true) (hlo : xLR b th B ls (xMl y) lo) (hH : xHR G b th B L xs hold μ H) (hS : va_S (xA B) s.heap H locs) (hr1 : cells + xS r.2.2.2 ≤ R.cells + xS μ) (hr2 : slots + xU r.2.2.2 ≤ R.slots + xU μ) (hlk : xlink y pc raw (.imul) = true) (hst : xstep (.imul) len pc lo st μ = some r) (kk : xK1 G b th B L xs hold y p l e R s m args below meth c cells slots Q μ r) : W p l e R s m args below meth c H locs cells slots Q (F0 m pc ls (st.map (xcv b th B))) := by
  have hr : raw = .imul := of_decide_eq_true hlk
  subst hr
  have e1 : len = 1 := xlenok_1 hln rfl
  subst e1
  simp only [xstep] at hst
  split at hst
  · cases hst
    exact lv_imul hC.1 hC.2.1 hd (kk ls H locs cells slots rfl rfl hlo hH hS)
  · cases hst
theorem xs_iand {r : Nat × xLo × List Value × xM} (hC : xCtx G b th B L xs hold y p R s m args meth c) (hd : decode (xBy y) pc = .ok (raw, len)) (hln : xlenok raw len = true) (hlo : xLR b th B ls (xMl y) lo) (hH : xHR G b th B L xs hold μ H) (hS : va_S (xA B) s.heap H locs) (hr1 : cells + xS r.2.2.2 ≤ R.cells + xS μ) (hr2 : slots + xU r.2.2.2 ≤ R.slots + xU μ) (hlk : xlink y pc raw (.iand) = true) (hst : xstep (.iand) len pc lo st μ = some r) (kk : xK1 G b th B L xs hold y p l e R s m args below meth c cells slots Q μ r) : W p l e R s m args below meth c H locs cells slots Q (F0 m pc ls (st.map (xcv b th B))) := by
  have hr : raw = .iand := of_decide_eq_true hlk
  subst hr
  have e1 : len = 1 := xlenok_1 hln rfl
  subst e1
  simp only [xstep] at hst
  split at hst
  · cases hst
    exact lv_iand hC.1 hC.2.1 hd (kk ls H locs cells slots rfl rfl hlo hH hS)
  · cases hst
theorem xs_ior {r : Nat × xLo × List Value × xM} (hC : xCtx G b th B L xs hold y p R s m args meth c) (hd : decode (xBy y) pc = .ok (raw, len)) (hln : xlenok raw len = true) (hlo : xLR b th B ls (xMl y) lo) (hH : xHR G b th B L xs hold μ H) (hS : va_S (xA B) s.heap H locs) (hr1 : cells + xS r.2.2.2 ≤ R.cells + xS μ) (hr2 : slots + xU r.2.2.2 ≤ R.slots + xU μ) (hlk : xlink y pc raw (.ior) = true) (hst : xstep (.ior) len pc lo st μ = some r) (kk : xK1 G b th B L xs hold y p l e R s m args below meth c cells slots Q μ r) : W p l e R s m args below meth c H locs cells slots Q (F0 m pc ls (st.map (xcv b th B))) := by
  have hr : raw = .ior := of_decide_eq_true hlk
  subst hr
  have e1 : len = 1 := xlenok_1 hln rfl
  subst e1
  simp only [xstep] at hst
  split at hst
  · cases hst
    exact lv_ior hC.1 hC.2.1 hd (kk ls H locs cells slots rfl rfl hlo hH hS)
  · cases hst
theorem xs_ixor {r : Nat × xLo × List Value × xM} (hC : xCtx G b th B L xs hold y p R s m args meth c) (hd : decode (xBy y) pc = .ok (raw, len)) (hln : xlenok raw len = true) (hlo : xLR b th B ls (xMl y) lo) (hH : xHR G b th B L xs hold μ H) (hS : va_S (xA B) s.heap H locs) (hr1 : cells + xS r.2.2.2 ≤ R.cells + xS μ) (hr2 : slots + xU r.2.2.2 ≤ R.slots + xU μ) (hlk : xlink y pc raw (.ixor) = true) (hst : xstep (.ixor) len pc lo st μ = some r) (kk : xK1 G b th B L xs hold y p l e R s m args below meth c cells slots Q μ r) : W p l e R s m args below meth c H locs cells slots Q (F0 m pc ls (st.map (xcv b th B))) := by
  have hr : raw = .ixor := of_decide_eq_true hlk
  subst hr
  have e1 : len = 1 := xlenok_1 hln rfl
  subst e1
  simp only [xstep] at hst
  split at hst
  · cases hst
    exact lv_ixor hC.1 hC.2.1 hd (kk ls H locs cells slots rfl rfl hlo hH hS)
  · cases hst
theorem xs_ineg {r : Nat × xLo × List Value × xM} (hC : xCtx G b th B L xs hold y p R s m args meth c) (hd : decode (xBy y) pc = .ok (raw, len)) (hln : xlenok raw len = true) (hlo : xLR b th B ls (xMl y) lo) (hH : xHR G b th B L xs hold μ H) (hS : va_S (xA B) s.heap H locs) (hr1 : cells + xS r.2.2.2 ≤ R.cells + xS μ) (hr2 : slots + xU r.2.2.2 ≤ R.slots + xU μ) (hlk : xlink y pc raw (.ineg) = true) (hst : xstep (.ineg) len pc lo st μ = some r) (kk : xK1 G b th B L xs hold y p l e R s m args below meth c cells slots Q μ r) : W p l e R s m args below meth c H locs cells slots Q (F0 m pc ls (st.map (xcv b th B))) := by
  have hr : raw = .ineg := of_decide_eq_true hlk
  subst hr
  have e1 : len = 1 := xlenok_1 hln rfl
  subst e1
  simp only [xstep] at hst
  split at hst
  · cases hst
    exact lv_ineg hC.1 hC.2.1 hd (kk ls H locs cells slots rfl rfl hlo hH hS)
  · cases hst
theorem xs_ishl {r : Nat × xLo × List Value × xM} (hC : xCtx G b th B L xs hold y p R s m args meth c) (hd : decode (xBy y) pc = .ok (raw, len)) (hln : xlenok raw len = true) (hlo : xLR b th B ls (xMl y) lo) (hH : xHR G b th B L xs hold μ H) (hS : va_S (xA B) s.heap H locs) (hr1 : cells + xS r.2.2.2 ≤ R.cells + xS μ) (hr2 : slots + xU r.2.2.2 ≤ R.slots + xU μ) (hlk : xlink y pc raw (.ishl) = true) (hst : xstep (.ishl) len pc lo st μ = some r) (kk : xK1 G b th B L xs hold y p l e R s m args below meth c cells slots Q μ r) : W p l e R s m args below meth c H locs cells slots Q (F0 m pc ls (st.map (xcv b th B))) := by
  have hr : raw = .ishl := of_decide_eq_true hlk
  subst hr
  have e1 : len = 1 := xlenok_1 hln rfl
  subst e1
  simp only [xstep] at hst
  split at hst
  · cases hst
    exact lv_ishl hC.1 hC.2.1 hd (kk ls H locs cells slots rfl rfl hlo hH hS)
  · cases hst
theorem xs_ishr {r : Nat × xLo × List Value × xM} (hC : xCtx G b th B L xs hold y p R s m args meth c) (hd : decode (xBy y) pc = .ok (raw, len)) (hln : xlenok raw len = true) (hlo : xLR b th B ls (xMl y) lo) (hH : xHR G b th B L xs hold μ H) (hS : va_S (xA B) s.heap H locs) (hr1 : cells + xS r.2.2.2 ≤ R.cells + xS μ) (hr2 : slots + xU r.2.2.2 ≤ R.slots + xU μ) (hlk : xlink y pc raw (.ishr) = true) (hst : xstep (.ishr) len pc lo st μ = some r) (kk : xK1 G b th B L xs hold y p l e R s m args below meth c cells slots Q μ r) : W p l e R s m args below meth c H locs cells slots Q (F0 m pc ls (st.map (xcv b th B))) := by
  have hr : raw = .ishr := of_decide_eq_true hlk
  subst hr
  have e1 : len = 1 := xlenok_1 hln rfl
  subst e1
  simp only [xstep] at hst
  split at hst
  · cases hst
    exact lv_ishr hC.1 hC.2.1 hd (kk ls H locs cells slots rfl rfl hlo hH hS)
  · cases hst
theorem xs_ladd {r : Nat × xLo × List Value × xM} (hC : xCtx G b th B L xs hold y p R s m args meth c) (hd : decode (xBy y) pc = .ok (raw, len)) (hln : xlenok raw len = true) (hlo : xLR b th B ls (xMl y) lo) (hH : xHR G b th B L xs hold μ H) (hS : va_S (xA B) s.heap H locs) (hr1 : cells + xS r.2.2.2 ≤ R.cells + xS μ) (hr2 : slots + xU r.2.2.2 ≤ R.slots + xU μ) (hlk : xlink y pc raw (.ladd) = true) (hst : xstep (.ladd) len pc lo st μ = some r) (kk : xK1 G b th B L xs hold y p l e R s m args below meth c cells slots Q μ r) : W p l e R s m args below meth c H locs cells slots Q (F0 m pc ls (st.map (xcv b th B))) := by
  have hr : raw = .ladd := of_decide_eq_true hlk
  subst hr
  have e1 : len = 1 := xlenok_1 hln rfl
  subst e1
  simp only [xstep] at hst
  split at hst
  · cases hst
    exact lv_ladd hC.1 hC.2.1 hd (kk ls H locs cells slots rfl rfl hlo hH hS)
  · cases hst
theorem xs_land {r : Nat × xLo × List Value × xM} (hC : xCtx G b th B L xs hold y p R s m args meth c) (hd : decode (xBy y) pc = .ok (raw, len)) (hln : xlenok raw len = true) (hlo : xLR b th B ls (xMl y) lo) (hH : xHR G b th B L xs hold μ H) (hS : va_S (xA B) s.heap H locs) (hr1 : cells + xS r.2.2.2 ≤ R.cells + xS μ) (hr2 : slots + xU r.2.2.2 ≤ R.slots + xU μ) (hlk : xlink y pc raw (.land) = true) (hst : xstep (.land) len pc lo st μ = some r) (kk : xK1 G b th B L xs hold y p l e R s m args below meth c cells slots Q μ r) : W p l e R s m args below meth c H locs cells slots Q (F0 m pc ls (st.map (xcv b th B))) := by
  have hr : raw = .land := of_decide_eq_true hlk
  subst hr
  have e1 : len = 1 := xlenok_1 hln rfl
  subst e1
  simp only [xstep] at hst
  split at hst
  · cases hst
    exact lv_land hC.1 hC.2.1 hd (kk ls H locs cells slots rfl rfl hlo hH hS)
  · cases hst
theorem xs_lor {r : Nat × xLo × List Value × xM} (hC : xCtx G b th B L xs hold y p R s m args meth c) (hd : decode (xBy y) pc = .ok (raw, len)) (hln : xlenok raw len = true) (hlo : xLR b th B ls (xMl y) lo) (hH : xHR G b th B L xs hold μ H) (hS : va_S (xA B) s.heap H locs) (hr1 : cells + xS r.2.2.2 ≤ R.cells + xS μ) (hr2 : slots + xU r.2.2.2 ≤ R.slots + xU μ) (hlk : xlink y pc raw (.lor) = true) (hst : xstep (.lor) len pc lo st μ = some r) (kk : xK1 G b th B L xs hold y p l e R s m args below meth c cells slots Q μ r) : W p l e R s m args below meth c H locs cells slots Q (F0 m pc ls (st.map (xcv b th B))) := by
  have hr : raw = .lor := of_decide_eq_true hlk
  subst hr
  have e1 : len = 1 := xlenok_1 hln rfl
  subst e1
  simp only [xstep] at hst
  split at hst
  · cases hst
    exact lv_lor hC.1 hC.2.1 hd (kk ls H locs cells slots rfl rfl hlo hH hS)
  · cases hst
theorem xs_lxor {r : Nat × xLo × List Value × xM} (hC : xCtx G b th B L xs hold y p R s m args meth c) (hd : decode (xBy y) pc = .ok (raw, len)) (hln : xlenok raw len = true) (hlo : xLR b th B ls (xMl y) lo) (hH : xHR G b th B L xs hold μ H) (hS : va_S (xA B) s.heap H locs) (hr1 : cells + xS r.2.2.2 ≤ R.cells + xS μ) (hr2 : slots + xU r.2.2.2 ≤ R.slots + xU μ) (hlk : xlink y pc raw (.lxor) = true) (hst : xstep (.lxor) len pc lo st μ = some r) (kk : xK1 G b th B L xs hold y p l e R s m args below meth c cells slots Q μ r) : W p l e R s m args below meth c H locs cells slots Q (F0 m pc ls (st.map (xcv b th B))) := by
  have hr : raw = .lxor := of_decide_eq_true hlk
  subst hr
  have e1 : len = 1 := xlenok_1 hln rfl
  subst e1
  simp only [xstep] at hst
  split at hst
  · cases hst
    exact lv_lxor hC.1 hC.2.1 hd (kk ls H locs cells slots rfl rfl hlo hH hS)
  · cases hst
theorem xs_lsub {r : Nat × xLo × List Value × xM} (hC : xCtx G b th B L xs hold y p R s m args meth c) (hd : decode (xBy y) pc = .ok (raw, len)) (hln : xlenok raw len = true) (hlo : xLR b th B ls (xMl y) lo) (hH : xHR G b th B L xs hold μ H) (hS : va_S (xA B) s.heap H locs) (hr1 : cells + xS r.2.2.2 ≤ R.cells + xS μ) (hr2 : slots + xU r.2.2.2 ≤ R.slots + xU μ) (hlk : xlink y pc raw (.lsub) = true) (hst : xstep (.lsub) len pc lo st μ = some r) (kk : xK1 G b th B L xs hold y p l e R s m args below meth c cells slots Q μ r) : W p l e R s m args below meth c H locs cells slots Q (F0 m pc ls (st.map (xcv b th B))) := by
  have hr : raw = .lsub := of_decide_eq_true hlk
  subst hr
  have e1 : len = 1 := xlenok_1 hln rfl
  subst e1
  simp only [xstep] at hst
  split at hst
  · cases hst
    exact lv_lsub hC.1 hC.2.1 hd (kk ls H locs cells slots rfl rfl hlo hH hS)
  · cases hst
theorem xs_iushr {r : Nat × xLo × List Value × xM} (hC : xCtx G b th B L xs hold y p R s m args meth c) (hd : decode (xBy y) pc = .ok (raw, len)) (hln : xlenok raw len = true) (hlo : xLR b th B ls (xMl y) lo) (hH : xHR G b th B L xs hold μ H) (hS : va_S (xA B) s.heap H locs) (hr1 : cells + xS r.2.2.2 ≤ R.cells + xS μ) (hr2 : slots + xU r.2.2.2 ≤ R.slots + xU μ) (hlk : xlink y pc raw (.iushr) = true) (hst : xstep (.iushr) len pc lo st μ = some r) (kk : xK1 G b th B L xs hold y p l e R s m args below meth c cells slots Q μ r) : W p l e R s m args below meth c H locs cells slots Q (F0 m pc ls (st.map (xcv b th B))) := by
  have hr : raw = .iushr := of_decide_eq_true hlk
  subst hr
  have e1 : len = 1 := xlenok_1 hln rfl
  subst e1
  simp only [xstep] at hst
  split at hst
  · cases hst
    exact lv_iushr hC.1 hC.2.1 hd rfl (kk ls H locs cells slots rfl rfl hlo hH hS)
  · cases hst
theorem xs_lushr {r : Nat × xLo × List Value × xM} (hC : xCtx G b th B L xs hold y p R s m args meth c) (hd : decode (xBy y) pc = .ok (raw, len)) (hln : xlenok raw len = true) (hlo : xLR b th B ls (xMl y) lo) (hH : xHR G b th B L xs hold μ H) (hS : va_S (xA B) s.heap H locs) (hr1 : cells + xS r.2.2.2 ≤ R.cells + xS μ) (hr2 : slots + xU r.2.2.2 ≤ R.slots + xU μ) (hlk : xlink y pc raw (.lushr) = true) (hst : xstep (.lushr) len pc lo st μ = some r) (kk : xK1 G b th B L xs hold y p l e R s m args below meth c cells slots Q μ r) : W p l e R s m args below meth c H locs cells slots Q (F0 m pc ls (st.map (xcv b th B))) := by
  have hr : raw = .lushr := of_decide_eq_true hlk
  subst hr
  have e1 : len = 1 := xlenok_1 hln rfl
  subst e1
  simp only [xstep] at hst
  split at hst
  · cases hst
    exact lv_lushr hC.1 hC.2.1 hd rfl (kk ls H locs cells slots rfl rfl hlo hH hS)
  · cases hst
theorem xs_lshl {r : Nat × xLo × List Value × xM} (hC : xCtx G b th B L xs hold y p R s m args meth c) (hd : decode (xBy y) pc = .ok (raw, len)) (hln : xlenok raw len = true) (hlo : xLR b th B ls (xMl y) lo) (hH : xHR G b th B L xs hold μ H) (hS : va_S (xA B) s.heap H locs) (hr1 : cells + xS r.2.2.2 ≤ R.cells + xS μ) (hr2 : slots + xU r.2.2.2 ≤ R.slots + xU μ) (hlk : xlink y pc raw (.lshl) = true) (hst : xstep (.lshl) len pc lo st μ = some r) (kk : xK1 G b th B L xs hold y p l e R s m args below meth c cells slots Q μ r) : W p l e R s m args below meth c H locs cells slots Q (F0 m pc ls (st.map (xcv b th B))) := by
  have hr : raw = .lshl := of_decide_eq_true hlk
  subst hr
  have e1 : len = 1 := xlenok_1 hln rfl
  subst e1
  simp only [xstep] at hst
  split at hst
  · cases hst
    exact lv_lshl hC.1 hC.2.1 hd rfl (kk ls H locs cells slots rfl rfl hlo hH hS)
  · cases hst
theorem xs_lshr {r : Nat × xLo × List Value × xM} (hC : xCtx G b th B L xs hold y p R s m args meth c) (hd : decode (xBy y) pc = .ok (raw, len)) (hln : xlenok raw len = true) (hlo : xLR b th B ls (xMl y) lo) (hH : xHR G b th B L xs hold μ H) (hS : va_S (xA B) s.heap H locs) (hr1 : cells + xS r.2.2.2 ≤ R.cells + xS μ) (hr2 : slots + xU r.2.2.2 ≤ R.slots + xU μ) (hlk : xlink y pc raw (.lshr) = true) (hst : xstep (.lshr) len pc lo st μ = some r) (kk : xK1 G b th B L xs hold y p l e R s m args below meth c cells slots Q μ r) : W p l e R s m args below meth c H locs cells slots Q (F0 m pc ls (st.map (xcv b th B))) := by
  have hr : raw = .lshr := of_decide_eq_true hlk
  subst hr
  have e1 : len = 1 := xlenok_1 hln rfl
  subst e1
  simp only [xstep] at hst
  split at hst
  · cases hst
    exact lv_lshr hC.1 hC.2.1 hd rfl (kk ls H locs cells slots rfl rfl hlo hH hS)
  · cases hst
theorem xs_i2l {r : Nat × xLo × List Value × xM} (hC : xCtx G b th B L xs hold y p R s m args meth c) (hd : decode (xBy y) pc = .ok (raw, len)) (hln : xlenok raw len = true) (hlo : xLR b th B ls (xMl y) lo) (hH : xHR G b th B L xs hold μ H) (hS : va_S (xA B) s.heap H locs) (hr1 : cells + xS r.2.2.2 ≤ R.cells + xS μ) (hr2 : slots + xU r.2.2.2 ≤ R.slots + xU μ) (hlk : xlink y pc raw (.i2l) = true) (hst : xstep (.i2l) len pc lo st μ = some r) (kk : xK1 G b th B L xs hold y p l e R s m args below meth c cells slots Q μ r) : W p l e R s m args below meth c H locs cells slots Q (F0 m pc ls (st.map (xcv b th B))) := by
  have hr : raw = .i2l := of_decide_eq_true hlk
  subst hr
  have e1 : len = 1 := xlenok_1 hln rfl
  subst e1
  simp only [xstep] at hst
  split at hst
  · cases hst
    exact lv_i2l hC.1 hC.2.1 hd rfl (kk ls H locs cells slots rfl rfl hlo hH hS)
  · cases hst
theorem xs_l2i {r : Nat × xLo × List Value × xM} (hC : xCtx G b th B L xs hold y p R s m args meth c) (hd : decode (xBy y) pc = .ok (raw, len)) (hln : xlenok raw len = true) (hlo : xLR b th B ls (xMl y) lo) (hH : xHR G b th B L xs hold μ H) (hS : va_S (xA B) s.heap H locs) (hr1 : cells + xS r.2.2.2 ≤ R.cells + xS μ) (hr2 : slots + xU r.2.2.2 ≤ R.slots + xU μ) (hlk : xlink y pc raw (.l2i) = true) (hst : xstep (.l2i) len pc lo st μ = some r) (kk : xK1 G b th B L xs hold y p l e R s m args below meth c cells slots Q μ r) : W p l e R s m args below meth c H locs cells slots Q (F0 m pc ls (st.map (xcv b th B))) := by
  have hr : raw = .l2i := of_decide_eq_true hlk
  subst hr
  have e1 : len = 1 := xlenok_1 hln rfl
  subst e1
  simp only [xstep] at hst
  split at hst
  · cases hst
    exact lv_l2i hC.1 hC.2.1 hd rfl (kk ls H locs cells slots rfl rfl hlo hH hS)
  · cases hst
theorem xs_lcmp {r : Nat × xLo × List Value × xM} (hC : xCtx G b th B L xs hold y p R s m args meth c) (hd : decode (xBy y) pc = .ok (raw, len)) (hln : xlenok raw len = true) (hlo : xLR b th B ls (xMl y) lo) (hH : xHR G b th B L xs hold μ H) (hS : va_S (xA B) s.heap H locs) (hr1 : cells + xS r.2.2.2 ≤ R.cells + xS μ) (hr2 : slots + xU r.2.2.2 ≤ R.slots + xU μ) (hlk : xlink y pc raw (.lcmp) = true) (hst : xstep (.lcmp) len pc lo st μ = some r) (kk : xK1 G b th B L xs hold y p l e R s m args below meth c cells slots Q μ r) : W p l e R s m args below meth c H locs cells slots Q (F0 m pc ls (st.map (xcv b th B))) := by
  have hr : raw = .lcmp := of_decide_eq_true hlk
  subst hr
  have e1 : len = 1 := xlenok_1 hln rfl
  subst e1
  simp only [xstep] at hst
  split at hst
  · cases hst
    exact W.lcmp hC.1 hC.2.1 hd (kk ls H locs cells slots rfl rfl hlo hH hS)
  · cases hst
theorem xs_pop {r : Nat × xLo × List Value × xM} (hC : xCtx G b th B L xs hold y p R s m args meth c) (hd : decode (xBy y) pc = .ok (raw, len)) (hln : xlenok raw len = true) (hlo : xLR b th B ls (xMl y) lo) (hH : xHR G b th B L xs hold μ H) (hS : va_S (xA B) s.heap H locs) (hr1 : cells + xS r.2.2.2 ≤ R.cells + xS μ) (hr2 : slots + xU r.2.2.2 ≤ R.slots + xU μ) (hlk : xlink y pc raw (.pop) = true) (hst : xstep (.pop) len pc lo st μ = some r) (kk : xK1 G b th B L xs hold y p l e R s m args below meth c cells slots Q μ r) : W p l e R s m args below meth c H locs cells slots Q (F0 m pc ls (st.map (xcv b th B))) := by
  have hr : raw = .pop := of_decide_eq_true hlk
  subst hr
  have e1 : len = 1 := xlenok_1 hln rfl
  subst e1
  simp only [xstep] at hst
  split at hst
  · cases hst
    exact lv_pop hC.1 hC.2.1 hd rfl (kk ls H locs cells slots rfl rfl hlo hH hS)
  · cases hst
theorem xs_idiv {r : Nat × xLo × List Value × xM} (hC : xCtx G b th B L xs hold y p R s m args meth c) (hd : decode (xBy y) pc = .ok (raw, len)) (hln : xlenok raw len = true) (hlo : xLR b th B ls (xMl y) lo) (hH : xHR G b th B L xs hold μ H) (hS : va_S (xA B) s.heap H locs) (hr1 : cells + xS r.2.2.2 ≤ R.cells + xS μ) (hr2 : slots + xU r.2.2.2 ≤ R.slots + xU μ) (hlk : xlink y pc raw (.idiv) = true) (hst : xstep (.idiv) len pc lo st μ = some r) (kk : xK1 G b th B L xs hold y p l e R s m args below meth c cells slots Q μ r) : W p l e R s m args below meth c H locs cells slots Q (F0 m pc ls (st.map (xcv b th B))) := by
  have hr : raw = .idiv := of_decide_eq_true hlk
  subst hr
  have e1 : len = 1 := xlenok_1 hln rfl
  subst e1
  simp only [xstep] at hst
  split at hst
  · obtain ⟨z, hz, rfl⟩ := Option.map_eq_some_iff.mp hst
    unfold dvI at hz
    split at hz
    · cases hz
    · rename_i hne
      cases hz
      exact lv_idiv hC.1 hC.2.1 hd hne (kk ls H locs cells slots rfl rfl hlo hH hS)
  · cases hst
theorem xs_irem {r : Nat × xLo × List Value × xM} (hC : xCtx G b th B L xs hold y p R s m args meth c) (hd : decode (xBy y) pc = .ok (raw, len)) (hln : xlenok raw len = true) (hlo : xLR b th B ls (xMl y) lo) (hH : xHR G b th B L xs hold μ H) (hS : va_S (xA B) s.heap H locs) (hr1 : cells + xS r.2.2.2 ≤ R.cells + xS μ) (hr2 : slots + xU r.2.2.2 ≤ R.slots + xU μ) (hlk : xlink y pc raw (.irem) = true) (hst : xstep (.irem) len pc lo st μ = some r) (kk : xK1 G b th B L xs hold y p l e R s m args below meth c cells slots Q μ r) : W p l e R s m args below meth c H locs cells slots Q (F0 m pc ls (st.map (xcv b th B))) := by
  have hr : raw = .irem := of_decide_eq_true hlk
  subst hr
  have e1 : len = 1 := xlenok_1 hln rfl
  subst e1
  simp only [xstep] at hst
  split at hst
  · obtain ⟨z, hz, rfl⟩ := Option.map_eq_some_iff.mp hst
    unfold rmI at hz
    split at hz
    · cases hz
    · rename_i hne
      cases hz
      exact lv_irem hC.1 hC.2.1 hd hne (kk ls H locs cells slots rfl rfl hlo hH hS)
  · cases hst
theorem xs_dup {r : Nat × xLo × List Value × xM} (hC : xCtx G b th B L xs hold y p R s m args meth c) (hd : decode (xBy y) pc = .ok (raw, len)) (hln : xlenok raw len = true) (hlo : xLR b th B ls (xMl y) lo) (hH : xHR G b th B L xs hold μ H) (hS : va_S (xA B) s.heap H locs) (hr1 : cells + xS r.2.2.2 ≤ R.cells + xS μ) (hr2 : slots + xU r.2.2.2 ≤ R.slots + xU μ) (hlk : xlink y pc raw (.dup) = true) (hst : xstep (.dup) len pc lo st μ = some r) (kk : xK1 G b th B L xs hold y p l e R s m args below meth c cells slots Q μ r) : W p l e R s m args below meth c H locs cells slots Q (F0 m pc ls (st.map (xcv b th B))) := by
  have hr : raw = .dup := of_decide_eq_true hlk
  subst hr
  have e1 : len = 1 := xlenok_1 hln rfl
  subst e1
  simp only [xstep] at hst
  split at hst
  · cases hst
    exact lv_dup hC.1 hC.2.1 hd rfl (kk ls H locs cells slots rfl rfl hlo hH hS)
  · cases hst
    exact lv_dup hC.1 hC.2.1 hd rfl (kk ls H locs cells slots rfl rfl hlo hH hS)
  · cases hst
theorem xs_dup2 {r : Nat × xLo × List Value × xM} (hC : xCtx G b th B L xs hold y p R s m args meth c) (hd : decode (xBy y) pc = .ok (raw, len)) (hln : xlenok raw len = true) (hlo : xLR b th B ls (xMl y) lo) (hH : xHR G b th B L xs hold μ H) (hS : va_S (xA B) s.heap H locs) (hr1 : cells + xS r.2.2.2 ≤ R.cells + xS μ) (hr2 : slots + xU r.2.2.2 ≤ R.slots + xU μ) (hlk : xlink y pc raw (.dup2) = true) (hst : xstep (.dup2) len pc lo st μ = some r) (kk : xK1 G b th B L xs hold y p l e R s m args below meth c cells slots Q μ r) : W p l e R s m args below meth c H locs cells slots Q (F0 m pc ls (st.map (xcv b th B))) := by
  have hr : raw = .dup2 := of_decide_eq_true hlk
  subst hr
  have e1 : len = 1 := xlenok_1 hln rfl
  subst e1
  simp only [xstep] at hst
  split at hst
  · cases hst
    exact lv_dup2_11 hC.1 hC.2.1 hd rfl rfl (kk ls H locs cells slots rfl rfl hlo hH hS)
  · cases hst
theorem xs_iconst {n : Int} {r : Nat × xLo × List Value × xM} (hC : xCtx G b th B L xs hold y p R s m args meth c) (hd : decode (xBy y) pc = .ok (raw, len)) (hln : xlenok raw len = true) (hlo : xLR b th B ls (xMl y) lo) (hH : xHR G b th B L xs hold μ H) (hS : va_S (xA B) s.heap H locs) (hr1 : cells + xS r.2.2.2 ≤ R.cells + xS μ) (hr2 : slots + xU r.2.2.2 ≤ R.slots + xU μ) (hlk : xlink y pc raw (.iconst n) = true) (hst : xstep (.iconst n) len pc lo st μ = some r) (kk : xK1 G b th B L xs hold y p l e R s m args below meth c cells slots Q μ r) : W p l e R s m args below meth c H locs cells slots Q (F0 m pc ls (st.map (xcv b th B))) := by
  have hr : raw = .iconst n := of_decide_eq_true hlk
  subst hr
  have e1 : len = 1 := xlenok_1 hln rfl
  subst e1
  simp only [xstep] at hst
  cases hst
  exact lv_iconst hC.1 hC.2.1 hd rfl (kk ls H locs cells slots rfl rfl hlo hH hS)
theorem xs_lconst {n : Fin 2} {r : Nat × xLo × List Value × xM} (hC : xCtx G b th B L xs hold y p R s m args meth c) (hd : decode (xBy y) pc = .ok (raw, len)) (hln : xlenok raw len = true) (hlo : xLR b th B ls (xMl y) lo) (hH : xHR G b th B L xs hold μ H) (hS : va_S (xA B) s.heap H locs) (hr1 : cells + xS r.2.2.2 ≤ R.cells + xS μ) (hr2 : slots + xU r.2.2.2 ≤ R.slots + xU μ) (hlk : xlink y pc raw (.lconst n) = true) (hst : xstep (.lconst n) len pc lo st μ = some r) (kk : xK1 G b th B L xs hold y p l e R s m args below meth c cells slots Q μ r) : W p l e R s m args below meth c H locs cells slots Q (F0 m pc ls (st.map (xcv b th B))) := by
  have hr : raw = .lconst n := of_decide_eq_true hlk
  subst hr
  have e1 : len = 1 := xlenok_1 hln rfl
  subst e1
  simp only [xstep] at hst
  cases hst
  exact lv_lconst hC.1 hC.2.1 hd rfl (kk ls H locs cells slots rfl rfl hlo hH hS)
theorem xs_null {r : Nat × xLo × List Value × xM} (hC : xCtx G b th B L xs hold y p R s m args meth c) (hd : decode (xBy y) pc = .ok (raw, len)) (hln : xlenok raw len = true) (hlo : xLR b th B ls (xMl y) lo) (hH : xHR G b th B L xs hold μ H) (hS : va_S (xA B) s.heap H locs) (hr1 : cells + xS r.2.2.2 ≤ R.cells + xS μ) (hr2 : slots + xU r.2.2.2 ≤ R.slots + xU μ) (hlk : xlink y pc raw (.aconst_null) = true) (hst : xstep (.aconst_null) len pc lo st μ = some r) (kk : xK1 G b th B L xs hold y p l e R s m args below meth c cells slots Q μ r) : W p l e R s m args below meth c H locs cells slots Q (F0 m pc ls (st.map (xcv b th B))) := by
  have hr : raw = .aconst_null := of_decide_eq_true hlk
  subst hr
  have e1 : len = 1 := xlenok_1 hln rfl
  subst e1
  simp only [xstep] at hst
  cases hst
  exact lv_null hC.1 hC.2.1 hd (kk ls H locs cells slots rfl rfl hlo hH hS)
theorem xc_8 {n : Int} (h1 : -128 ≤ n) (h2 : n ≤ 127) : (Int8.ofInt n).toInt32 = xc n := by
  apply Int32.toInt_inj.mp
  unfold xc
  rw [Int8.toInt_toInt32, Int8.toInt_ofInt_of_le (by simpa using h1) (by simpa using (by omega : n < 128)), Int32.toInt_ofInt_of_le (by simpa using (by omega : (-2147483648 : Int) ≤ n)) (by simpa using (by omega : n < 2147483648))]
theorem xc_16 {n : Int} (h1 : -32768 ≤ n) (h2 : n ≤ 32767) : (Int16.ofInt n).toInt32 = xc n := by
  apply Int32.toInt_inj.mp
  unfold xc
  rw [Int16.toInt_toInt32, Int16.toInt_ofInt_of_le (by simpa using h1) (by simpa using (by omega : n < 32768)), Int32.toInt_ofInt_of_le (by simpa using (by omega : (-2147483648 : Int) ≤ n)) (by simpa using (by omega : n < 2147483648))]
theorem xs_sipush {n : Int} {r : Nat × xLo × List Value × xM} (hC : xCtx G b th B L xs hold y p R s m args meth c) (hd : decode (xBy y) pc = .ok (raw, len)) (hln : xlenok raw len = true) (hlo : xLR b th B ls (xMl y) lo) (hH : xHR G b th B L xs hold μ H) (hS : va_S (xA B) s.heap H locs) (hr1 : cells + xS r.2.2.2 ≤ R.cells + xS μ) (hr2 : slots + xU r.2.2.2 ≤ R.slots + xU μ) (hlk : xlink y pc raw (.sipush n) = true) (hst : xstep (.sipush n) len pc lo st μ = some r) (kk : xK1 G b th B L xs hold y p l e R s m args below meth c cells slots Q μ r) : W p l e R s m args below meth c H locs cells slots Q (F0 m pc ls (st.map (xcv b th B))) := by
  simp only [xstep] at hst
  cases hst
  simp only [xlink] at hlk
  split at hlk
  · obtain ⟨rfl, h1, h2⟩ := of_decide_eq_true hlk
    have e1 : len = 2 := xlenok_1 hln rfl
    subst e1
    exact lv_bipush hC.1 hC.2.1 hd (xc_8 h1 h2) (kk ls H locs cells slots rfl rfl hlo hH hS)
  · obtain ⟨rfl, h1, h2⟩ := of_decide_eq_true hlk
    have e1 : len = 3 := xlenok_1 hln rfl
    subst e1
    exact lv_sipush hC.1 hC.2.1 hd (xc_16 h1 h2) (kk ls H locs cells slots rfl rfl hlo hH hS)
  · have h1 := of_decide_eq_true hlk
    have e1 : len = 2 := xlenok_1 hln rfl
    subst e1
    exact lv_ldc hC.1 hC.2.1 hC.2.2.2.1 (hC.2.2.2.2.1 _ (xw_ki h1)) hd (kk ls H locs cells slots rfl rfl hlo hH hS)
  · have h1 := of_decide_eq_true hlk
    have e1 : len = 3 := xlenok_1 hln rfl
    subst e1
    exact lv_ldcw hC.1 hC.2.1 hC.2.2.2.1 (hC.2.2.2.2.1 _ (xw_ki h1)) hd (kk ls H locs cells slots rfl rfl hlo hH hS)
  · cases hlk
theorem xs_ldc2 {n : Nat} {r : Nat × xLo × List Value × xM} (hC : xCtx G b th B L xs hold y p R s m args meth c) (hd : decode (xBy y) pc = .ok (raw, len)) (hln : xlenok raw len = true) (hlo : xLR b th B ls (xMl y) lo) (hH : xHR G b th B L xs hold μ H) (hS : va_S (xA B) s.heap H locs) (hr1 : cells + xS r.2.2.2 ≤ R.cells + xS μ) (hr2 : slots + xU r.2.2.2 ≤ R.slots + xU μ) (hlk : xlink y pc raw (.ldc2_w n) = true) (hst : xstep (.ldc2_w n) len pc lo st μ = some r) (kk : xK1 G b th B L xs hold y p l e R s m args below meth c cells slots Q μ r) : W p l e R s m args below meth c H locs cells slots Q (F0 m pc ls (st.map (xcv b th B))) := by
  simp only [xstep] at hst
  cases hst
  simp only [xlink] at hlk
  split at hlk
  · have h1 := of_decide_eq_true hlk
    have e1 : len = 3 := xlenok_1 hln rfl
    subst e1
    exact lv_ldc2 hC.1 hC.2.1 hC.2.2.2.1 (hC.2.2.2.2.1 _ (xw_kl h1)) hd (kk ls H locs cells slots rfl rfl hlo hH hS)
  · cases hlk
theorem xs_iload {i : Nat} {r : Nat × xLo × List Value × xM} (hC : xCtx G b th B L xs hold y p R s m args meth c) (hd : decode (xBy y) pc = .ok (raw, len)) (hln : xlenok raw len = true) (hlo : xLR b th B ls (xMl y) lo) (hH : xHR G b th B L xs hold μ H) (hS : va_S (xA B) s.heap H locs) (hr1 : cells + xS r.2.2.2 ≤ R.cells + xS μ) (hr2 : slots + xU r.2.2.2 ≤ R.slots + xU μ) (hlk : xlink y pc raw (.iload i) = true) (hst : xstep (.iload i) len pc lo st μ = some r) (kk : xK1 G b th B L xs hold y p l e R s m args below meth c cells slots Q μ r) : W p l e R s m args below meth c H locs cells slots Q (F0 m pc ls (st.map (xcv b th B))) := by
  simp only [xlink] at hlk
  simp only [xstep] at hst
  split at hlk
  · have e2 := Nat.eq_of_beq_eq_true hlk
    have e1 : len = 2 := xlenok_1 hln rfl
    subst e1
    subst e2
    split at hst
    · rename_i x hx
      cases hst
      exact lv_iload hC.1 hC.2.1 hd (hlo.2.2.2 _ _ hx) (kk ls H locs cells slots rfl rfl hlo hH hS)
    · cases hst
  · have e2 := Nat.eq_of_beq_eq_true hlk
    have e1 : len = 1 := xlenok_1 hln rfl
    subst e1
    split at hst
    · rename_i x hx
      cases hst
      exact lv_iload_n hC.1 hC.2.1 hd e2 (hlo.2.2.2 _ _ hx) (kk ls H locs cells slots rfl rfl hlo hH hS)
    · cases hst
  · cases hlk
theorem xs_lload {i : Nat} {r : Nat × xLo × List Value × xM} (hC : xCtx G b th B L xs hold y p R s m args meth c) (hd : decode (xBy y) pc = .ok (raw, len)) (hln : xlenok raw len = true) (hlo : xLR b th B ls (xMl y) lo) (hH : xHR G b th B L xs hold μ H) (hS : va_S (xA B) s.heap H locs) (hr1 : cells + xS r.2.2.2 ≤ R.cells + xS μ) (hr2 : slots + xU r.2.2.2 ≤ R.slots + xU μ) (hlk : xlink y pc raw (.lload i) = true) (hst : xstep (.lload i) len pc lo st μ = some r) (kk : xK1 G b th B L xs hold y p l e R s m args below meth c cells slots Q μ r) : W p l e R s m args below meth c H locs cells slots Q (F0 m pc ls (st.map (xcv b th B))) := by
  simp only [xlink] at hlk
  simp only [xstep] at hst
  split at hlk
  · have e2 := Nat.eq_of_beq_eq_true hlk
    have e1 : len = 2 := xlenok_1 hln rfl
    subst e1
    subst e2
    split at hst
    · rename_i x hx
      cases hst
      exact lv_lload hC.1 hC.2.1 hd (hlo.2.2.2 _ _ hx) (kk ls H locs cells slots rfl rfl hlo hH hS)
    · cases hst
  · have e2 := Nat.eq_of_beq_eq_true hlk
    have e1 : len = 1 := xlenok_1 hln rfl
    subst e1
    split at hst
    · rename_i x hx
      cases hst
      exact lv_lload_n hC.1 hC.2.1 hd e2 (hlo.2.2.2 _ _ hx) (kk ls H locs cells slots rfl rfl hlo hH hS)
    · cases hst
  · cases hlk
theorem xs_aload {i : Nat} {r : Nat × xLo × List Value × xM} (hC : xCtx G b th B L xs hold y p R s m args meth c) (hd : decode (xBy y) pc = .ok (raw, len)) (hln : xlenok raw len = true) (hlo : xLR b th B ls (xMl y) lo) (hH : xHR G b th B L xs hold μ H) (hS : va_S (xA B) s.heap H locs) (hr1 : cells + xS r.2.2.2 ≤ R.cells + xS μ) (hr2 : slots + xU r.2.2.2 ≤ R.slots + xU μ) (hlk : xlink y pc raw (.aload i) = true) (hst : xstep (.aload i) len pc lo st μ = some r) (kk : xK1 G b th B L xs hold y p l e R s m args below meth c cells slots Q μ r) : W p l e R s m args below meth c H locs cells slots Q (F0 m pc ls (st.map (xcv b th B))) := by
  simp only [xlink] at hlk
  simp only [xstep] at hst
  split at hlk
  · have e2 := Nat.eq_of_beq_eq_true hlk
    have e1 : len = 2 := xlenok_1 hln rfl
    subst e1
    subst e2
    split at hst
    · rename_i x hx
      cases hst
      exact lv_aload hC.1 hC.2.1 hd (hlo.2.2.2 _ _ hx) (kk ls H locs cells slots rfl rfl hlo hH hS)
    · rename_i hx
      cases hst
      exact lv_aloadN hC.1 hC.2.1 hd (hlo.2.2.2 _ _ hx) (kk ls H locs cells slots rfl rfl hlo hH hS)
    · cases hst
  · have e2 := Nat.eq_of_beq_eq_true hlk
    have e1 : len = 1 := xlenok_1 hln rfl
    subst e1
    split at hst
    · rename_i x hx
      cases hst
      exact lv_aload_n hC.1 hC.2.1 hd e2 (hlo.2.2.2 _ _ hx) (kk ls H locs cells slots rfl rfl hlo hH hS)
    · rename_i hx
      cases hst
      exact lv_aload_nN hC.1 hC.2.1 hd e2 (hlo.2.2.2 _ _ hx) (kk ls H locs cells slots rfl rfl hlo hH hS)
    · cases hst
  · cases hlk
theorem xs_istore {i : Nat} {r : Nat × xLo × List Value × xM} (hC : xCtx G b th B L xs hold y p R s m args meth c) (hd : decode (xBy y) pc = .ok (raw, len)) (hln : xlenok raw len = true) (hlo : xLR b th B ls (xMl y) lo) (hH : xHR G b th B L xs hold μ H) (hS : va_S (xA B) s.heap H locs) (hr1 : cells + xS r.2.2.2 ≤ R.cells + xS μ) (hr2 : slots + xU r.2.2.2 ≤ R.slots + xU μ) (hlk : xlink y pc raw (.istore i) = true) (hst : xstep (.istore i) len pc lo st μ = some r) (kk : xK1 G b th B L xs hold y p l e R s m args below meth c cells slots Q μ r) : W p l e R s m args below meth c H locs cells slots Q (F0 m pc ls (st.map (xcv b th B))) := by
  simp only [xlink] at hlk
  simp only [xstep] at hst
  split at hlk
  · have e2 := Nat.eq_of_beq_eq_true hlk
    have e1 : len = 2 := xlenok_1 hln rfl
    subst e1
    subst e2
    split at hst
    · split at hst
      · rename_i hi
        cases hst
        refine lv_istore hC.1 hC.2.1 hd hlo.has (by rw [← hlo.2.2.1]; exact hi) rfl (fun ls' h' => ?_)
        exact kk ls' H locs cells slots rfl rfl (hlo.of1 hi rfl h') hH hS
      · cases hst
    · cases hst
  · have e2 := Nat.eq_of_beq_eq_true hlk
    have e1 : len = 1 := xlenok_1 hln rfl
    subst e1
    split at hst
    · split at hst
      · rename_i hi
        cases hst
        refine lv_istore_n hC.1 hC.2.1 hd e2 hlo.has (by rw [← hlo.2.2.1]; exact hi) rfl (fun ls' h' => ?_)
        exact kk ls' H locs cells slots rfl rfl (hlo.of1 hi rfl h') hH hS
      · cases hst
    · cases hst
  · cases hlk
theorem xs_lstore {i : Nat} {r : Nat × xLo × List Value × xM} (hC : xCtx G b th B L xs hold y p R s m args meth c) (hd : decode (xBy y) pc = .ok (raw, len)) (hln : xlenok raw len = true) (hlo : xLR b th B ls (xMl y) lo) (hH : xHR G b th B L xs hold μ H) (hS : va_S (xA B) s.heap H locs) (hr1 : cells + xS r.2.2.2 ≤ R.cells + xS μ) (hr2 : slots + xU r.2.2.2 ≤ R.slots + xU μ) (hlk : xlink y pc raw (.lstore i) = true) (hst : xstep (.lstore i) len pc lo st μ = some r) (kk : xK1 G b th B L xs hold y p l e R s m args below meth c cells slots Q μ r) : W p l e R s m args below meth c H locs cells slots Q (F0 m pc ls (st.map (xcv b th B))) := by
  simp only [xlink] at hlk
  simp only [xstep] at hst
  split at hlk
  · have e2 := Nat.eq_of_beq_eq_true hlk
    have e1 : len = 2 := xlenok_1 hln rfl
    subst e1
    subst e2
    split at hst
    · split at hst
      · rename_i hi
        cases hst
        refine lv_lstore hC.1 hC.2.1 hd hlo.has (by rw [← hlo.2.2.1]; exact hi) rfl (fun ls' h' => ?_)
        exact kk ls' H locs cells slots rfl rfl (hlo.of2 hi rfl h') hH hS
      · cases hst
    · cases hst
  · have e2 := Nat.eq_of_beq_eq_true hlk
    have e1 : len = 1 := xlenok_1 hln rfl
    subst e1
    split at hst
    · split at hst
      · rename_i hi
        cases hst
        refine lv_lstore_n hC.1 hC.2.1 hd e2 hlo.has (by rw [← hlo.2.2.1]; exact hi) rfl (fun ls' h' => ?_)
        exact kk ls' H locs cells slots rfl rfl (hlo.of2 hi rfl h') hH hS
      · cases hst
    · cases hst
  · cases hlk
theorem xs_astore {i : Nat} {r : Nat × xLo × List Value × xM} (hC : xCtx G b th B L xs hold y p R s m args meth c) (hd : decode (xBy y) pc = .ok (raw, len)) (hln : xlenok raw len = true) (hlo : xLR b th B ls (xMl y) lo) (hH : xHR G b th B L xs hold μ H) (hS : va_S (xA B) s.heap H locs) (hr1 : cells + xS r.2.2.2 ≤ R.cells + xS μ) (hr2 : slots + xU r.2.2.2 ≤ R.slots + xU μ) (hlk : xlink y pc raw (.astore i) = true) (hst : xstep (.astore i) len pc lo st μ = some r) (kk : xK1 G b th B L xs hold y p l e R s m args below meth c cells slots Q μ r) : W p l e R s m args below meth c H locs cells slots Q (F0 m pc ls (st.map (xcv b th B))) := by
  simp only [xlink] at hlk
  simp only [xstep] at hst
  split at hlk
  · have e2 := Nat.eq_of_beq_eq_true hlk
    have e1 : len = 2 := xlenok_1 hln rfl
    subst e1
    subst e2
    split at hst
    · split at hst
      · rename_i hi
        cases hst
        refine lv_astore hC.1 hC.2.1 hd hlo.has (by rw [← hlo.2.2.1]; exact hi) rfl (fun ls' h' => ?_)
        exact kk ls' H locs cells slots rfl rfl (hlo.of1 hi rfl h') hH hS
      · cases hst
    · cases hst
  · have e2 := Nat.eq_of_beq_eq_true hlk
    have e1 : len = 1 := xlenok_1 hln rfl
    subst e1
    split at hst
    · split at hst
      · rename_i hi
        cases hst
        refine lv_astore_n hC.1 hC.2.1 hd e2 hlo.has (by rw [← hlo.2.2.1]; exact hi) rfl (fun ls' h' => ?_)
        exact kk ls' H locs cells slots rfl rfl (hlo.of1 hi rfl h') hH hS
      · cases hst
    · cases hst
  · cases hlk
theorem xs_iinc {i : Nat} {n : Int} {r : Nat × xLo × List Value × xM} (hC : xCtx G b th B L xs hold y p R s m args meth c) (hd : decode (xBy y) pc = .ok (raw, len)) (hln : xlenok raw len = true) (hlo : xLR b th B ls (xMl y) lo) (hH : xHR G b th B L xs hold μ H) (hS : va_S (xA B) s.heap H locs) (hr1 : cells + xS r.2.2.2 ≤ R.cells + xS μ) (hr2 : slots + xU r.2.2.2 ≤ R.slots + xU μ) (hlk : xlink y pc raw (.iinc i n) = true) (hst : xstep (.iinc i n) len pc lo st μ = some r) (kk : xK1 G b th B L xs hold y p l e R s m args below meth c cells slots Q μ r) : W p l e R s m args below meth c H locs cells slots Q (F0 m pc ls (st.map (xcv b th B))) := by
  have hr : raw = .iinc i n := of_decide_eq_true hlk
  subst hr
  have e1 : len = 3 := xlenok_1 hln rfl
  subst e1
  simp only [xstep] at hst
  split at hst
  · rename_i x hx
    cases hst
    obtain ⟨k, hk⟩ := List.mem_iff_getElem?.mp (xprs_mem (b := b) (th := th) (B := B) hx)
    have hi : i < lo.length := (List.getElem?_eq_some_iff.mp hx).1
    refine lv_iinc hC.1 hC.2.1 hd hlo.has hk rfl (by rw [← hlo.2.2.1]; exact hi) rfl (fun ls' h' => ?_)
    exact kk ls' H locs cells slots rfl rfl (hlo.of1 (v := .int (x + xc n)) hi rfl h') hH hS
  · cases hst
theorem xto_eq {pc : Nat} {off : Int} (h : 0 ≤ (pc : Int) + off) : (pc : Int) + off = ((xto pc off : Nat) : Int) := (Int.toNat_of_nonneg h).symm
theorem xs_goto {off : Int} {r : Nat × xLo × List Value × xM} (hC : xCtx G b th B L xs hold y p R s m args meth c) (hd : decode (xBy y) pc = .ok (raw, len)) (hln : xlenok raw len = true) (hlo : xLR b th B ls (xMl y) lo) (hH : xHR G b th B L xs hold μ H) (hS : va_S (xA B) s.heap H locs) (hr1 : cells + xS r.2.2.2 ≤ R.cells + xS μ) (hr2 : slots + xU r.2.2.2 ≤ R.slots + xU μ) (hlk : xlink y pc raw (.goto off) = true) (hst : xstep (.goto off) len pc lo st μ = some r) (kk : xK1 G b th B L xs hold y p l e R s m args below meth c cells slots Q μ r) : W p l e R s m args below meth c H locs cells slots Q (F0 m pc ls (st.map (xcv b th B))) := by
  have hr : raw = .goto off := of_decide_eq_true hlk
  subst hr
  have e1 : len = 3 := xlenok_1 hln rfl
  subst e1
  simp only [xstep] at hst
  split at hst
  · rename_i h0
    cases hst
    exact lv_goto hC.1 hC.2.1 hd (xto_eq h0) (kk ls H locs cells slots rfl rfl hlo hH hS)
  · cases hst
theorem xs_ifc {q : Jvm.ClassFile.Cond} {off : Int} {r : Nat × xLo × List Value × xM} (hC : xCtx G b th B L xs hold y p R s m args meth c) (hd : decode (xBy y) pc = .ok (raw, len)) (hln : xlenok raw len = true) (hlo : xLR b th B ls (xMl y) lo) (hH : xHR G b th B L xs hold μ H) (hS : va_S (xA B) s.heap H locs) (hr1 : cells + xS r.2.2.2 ≤ R.cells + xS μ) (hr2 : slots + xU r.2.2.2 ≤ R.slots + xU μ) (hlk : xlink y pc raw (.ifCond q off) = true) (hst : xstep (.ifCond q off) len pc lo st μ = some r) (kk : xK1 G b th B L xs hold y p l e R s m args below meth c cells slots Q μ r) : W p l e R s m args below meth c H locs cells slots Q (F0 m pc ls (st.map (xcv b th B))) := by
  have hr : raw = .ifCond q off := of_decide_eq_true hlk
  subst hr
  have e1 : len = 3 := xlenok_1 hln rfl
  subst e1
  simp only [xstep] at hst
  split at hst
  · split at hst
    · rename_i x h0
      cases hst
      have kt : ∀ h : xcb q _ 0 = true, W p l e R s m args below meth c H locs cells slots Q (F0 m (xto pc off) ls _) := fun h => by
        have k1 := kk ls H locs cells slots rfl rfl hlo hH hS
        rw [if_pos h] at k1
        exact k1
      have kf : ∀ h : ¬ xcb q _ 0 = true, W p l e R s m args below meth c H locs cells slots Q (F0 m (pc + 3) ls _) := fun h => by
        have k1 := kk ls H locs cells slots rfl rfl hlo hH hS
        rw [if_neg h] at k1
        exact k1
      cases q
      · exact lv_if_eq hC.1 hC.2.1 hd (xto_eq h0) (fun h => kt (decide_eq_true h)) (fun h => kf (fun z => h (of_decide_eq_true z)))
      · exact lv_if_ne hC.1 hC.2.1 hd (xto_eq h0) (fun h => kt (decide_eq_true h)) (fun h => kf (fun z => (of_decide_eq_true z) h))
      · exact lv_if_lt hC.1 hC.2.1 hd (xto_eq h0) (fun h => kt (decide_eq_true h)) (fun h => kf (fun z => h (of_decide_eq_true z)))
      · exact lv_if_ge hC.1 hC.2.1 hd (xto_eq h0) (fun h => kt (decide_eq_true h)) (fun h => kf (fun z => h (of_decide_eq_true z)))
      · exact lv_if_gt hC.1 hC.2.1 hd (xto_eq h0) (fun h => kt (decide_eq_true h)) (fun h => kf (fun z => h (of_decide_eq_true z)))
      · exact lv_if_le hC.1 hC.2.1 hd (xto_eq h0) (fun h => kt (decide_eq_true h)) (fun h => kf (fun z => h (of_decide_eq_true z)))
    · cases hst
  · cases hst
theorem xs_icmp {q : Jvm.ClassFile.Cond} {off : Int} {r : Nat × xLo × List Value × xM} (hC : xCtx G b th B L xs hold y p R s m args meth c) (hd : decode (xBy y) pc = .ok (raw, len)) (hln : xlenok raw len = true) (hlo : xLR b th B ls (xMl y) lo) (hH : xHR G b th B L xs hold μ H) (hS : va_S (xA B) s.heap H locs) (hr1 : cells + xS r.2.2.2 ≤ R.cells + xS μ) (hr2 : slots + xU r.2.2.2 ≤ R.slots + xU μ) (hlk : xlink y pc raw (.if_icmp q off) = true) (hst : xstep (.if_icmp q off) len pc lo st μ = some r) (kk : xK1 G b th B L xs hold y p l e R s m args below meth c cells slots Q μ r) : W p l e R s m args below meth c H locs cells slots Q (F0 m pc ls (st.map (xcv b th B))) := by
  have hr : raw = .if_icmp q off := of_decide_eq_true hlk
  subst hr
  have e1 : len = 3 := xlenok_1 hln rfl
  subst e1
  simp only [xstep] at hst
  split at hst
  · split at hst
    · rename_i x h0
      cases hst
      have kt : ∀ h : xcb q _ _ = true, W p l e R s m args below meth c H locs cells slots Q (F0 m (xto pc off) ls _) := fun h => by
        have k1 := kk ls H locs cells slots rfl rfl hlo hH hS
        rw [if_pos h] at k1
        exact k1
      have kf : ∀ h : ¬ xcb q _ _ = true, W p l e R s m args below meth c H locs cells slots Q (F0 m (pc + 3) ls _) := fun h => by
        have k1 := kk ls H locs cells slots rfl rfl hlo hH hS
        rw [if_neg h] at k1
        exact k1
      cases q
      · exact lv_icmp_eq hC.1 hC.2.1 hd (xto_eq h0) (fun h => kt (decide_eq_true h)) (fun h => kf (fun z => h (of_decide_eq_true z)))
      · exact lv_icmp_ne hC.1 hC.2.1 hd (xto_eq h0) (fun h => kt (decide_eq_true h)) (fun h => kf (fun z => (of_decide_eq_true z) h))
      · exact lv_icmp_lt hC.1 hC.2.1 hd (xto_eq h0) (fun h => kt (decide_eq_true h)) (fun h => kf (fun z => h (of_decide_eq_true z)))
      · exact lv_icmp_ge hC.1 hC.2.1 hd (xto_eq h0) (fun h => kt (decide_eq_true h)) (fun h => kf (fun z => h (of_decide_eq_true z)))
      · exact lv_icmp_gt hC.1 hC.2.1 hd (xto_eq h0) (fun h => kt (decide_eq_true h)) (fun h => kf (fun z => h (of_decide_eq_true z)))
      · exact lv_icmp_le hC.1 hC.2.1 hd (xto_eq h0) (fun h => kt (decide_eq_true h)) (fun h => kf (fun z => h (of_decide_eq_true z)))
    · cases hst
  · cases hst
theorem xs_ifnull {off : Int} {r : Nat × xLo × List Value × xM} (hC : xCtx G b th B L xs hold y p R s m args meth c) (hd : decode (xBy y) pc = .ok (raw, len)) (hln : xlenok raw len = true) (hlo : xLR b th B ls (xMl y) lo) (hH : xHR G b th B L xs hold μ H) (hS : va_S (xA B) s.heap H locs) (hr1 : cells + xS r.2.2.2 ≤ R.cells + xS μ) (hr2 : slots + xU r.2.2.2 ≤ R.slots + xU μ) (hlk : xlink y pc raw (.ifnull off) = true) (hst : xstep (.ifnull off) len pc lo st μ = some r) (kk : xK1 G b th B L xs hold y p l e R s m args below meth c cells slots Q μ r) : W p l e R s m args below meth c H locs cells slots Q (F0 m pc ls (st.map (xcv b th B))) := by
  have hr : raw = .ifnull off := of_decide_eq_true hlk
  subst hr
  have e1 : len = 3 := xlenok_1 hln rfl
  subst e1
  simp only [xstep] at hst
  split at hst
  · cases hst
    exact lv_ifnull hC.1 hC.2.1 hd (kk ls H locs cells slots rfl rfl hlo hH hS)
  · split at hst
    · rename_i h0
      cases hst
      exact lv_ifnullN hC.1 hC.2.1 hd (xto_eq h0) (kk ls H locs cells slots rfl rfl hlo hH hS)
    · cases hst
  · cases hst
theorem xs_tsw {dflt low high : Int} {offs : Array Int} {r : Nat × xLo × List Value × xM} (hC : xCtx G b th B L xs hold y p R s m args meth c) (hd : decode (xBy y) pc = .ok (raw, len)) (hln : xlenok raw len = true) (hlo : xLR b th B ls (xMl y) lo) (hH : xHR G b th B L xs hold μ H) (hS : va_S (xA B) s.heap H locs) (hr1 : cells + xS r.2.2.2 ≤ R.cells + xS μ) (hr2 : slots + xU r.2.2.2 ≤ R.slots + xU μ) (hlk : xlink y pc raw (.tableswitch dflt low high offs) = true) (hst : xstep (.tableswitch dflt low high offs) len pc lo st μ = some r) (kk : xK1 G b th B L xs hold y p l e R s m args below meth c cells slots Q μ r) : W p l e R s m args below meth c H locs cells slots Q (F0 m pc ls (st.map (xcv b th B))) := by
  have hr : raw = .tableswitch dflt low high offs := of_decide_eq_true hlk
  subst hr
  simp only [xstep] at hst
  split at hst
  · split at hst
    · rename_i h
      split at hst
      · rename_i h0
        cases hst
        exact lv_tableOut hC.1 hC.2.1 hd h (xto_eq h0) (kk ls H locs cells slots rfl rfl hlo hH hS)
      · cases hst
    · rename_i h
      split at hst
      · rename_i off ho
        split at hst
        · rename_i h0
          cases hst
          exact lv_tableIn hC.1 hC.2.1 hd (fun z => h (Or.inl z)) (fun z => h (Or.inr z)) ho (xto_eq h0) (kk ls H locs cells slots rfl rfl hlo hH hS)
        · cases hst
      · cases hst
  · cases hst
theorem xs_lsw {dflt : Int} {ps : Array (Int × Int)} {r : Nat × xLo × List Value × xM} (hC : xCtx G b th B L xs hold y p R s m args meth c) (hd : decode (xBy y) pc = .ok (raw, len)) (hln : xlenok raw len = true) (hlo : xLR b th B ls (xMl y) lo) (hH : xHR G b th B L xs hold μ H) (hS : va_S (xA B) s.heap H locs) (hr1 : cells + xS r.2.2.2 ≤ R.cells + xS μ) (hr2 : slots + xU r.2.2.2 ≤ R.slots + xU μ) (hlk : xlink y pc raw (.lookupswitch dflt ps) = true) (hst : xstep (.lookupswitch dflt ps) len pc lo st μ = some r) (kk : xK1 G b th B L xs hold y p l e R s m args below meth c cells slots Q μ r) : W p l e R s m args below meth c H locs cells slots Q (F0 m pc ls (st.map (xcv b th B))) := by
  have hr : raw = .lookupswitch dflt ps := of_decide_eq_true hlk
  subst hr
  simp only [xstep] at hst
  split at hst
  · split at hst
    · rename_i h
      cases hst
      exact lv_lookup hC.1 hC.2.1 hd h.1 rfl (xto_eq h.2) (kk ls H locs cells slots rfl rfl hlo hH hS)
    · cases hst
  · cases hst
end XS
