/-! THE CLAIM OUT OF ONE WALK OF THE LAW'S BODY. Your part is whole_start (and what it stands on); all else here is the same for every law, but numbers. -/
def R_law : String := "KeptAnswersLaw"
def lw_P (b : Addr) (xs : List Int32) (args : Array Value) (s : State) : Prop := args = #[.ref b] ∧ s.IntsAt b xs ∧ xs.length ≤ 2048 ∧ (Jvm.Cond.and given_1 narrow_1).before args s = true
def lw_Q (_ : Array Value) (s : State) (o : Outcome) (t : State) : Prop := o = .returned (some (.int 1)) ∧ Framed s o t [] 600000 7302250
def lw_Z (below : List Frame) (a : Array Value) (s : State) : State → Prop := fun t => ∃ o, t.status = .running ∧ Ended t below o ∧ lw_Q a s o t
/-- the law's own end, with 1 on the stack, nothing written that was there before, its room as the claim has it -/
theorem lw_ret {p : Program} {l : Launch} {e : Env} {s : State} {m : MethodId} {below : List Frame} {meth : Method} {c : Code} {b : Nat} (hx : p.tables.exec = Jvm.exec) (hb : c.code = code) (hr : meth.sig.returnType = ret) (hlocks : meth.locks = false) {pc : Nat} {H : Heap} {ls : Array Slot} (hdg : decode code pc = .ok (.ireturn, 1)) : W p l e room_1 s m #[Value.ref b] below meth c H [] 600000 7302250 (lw_Z below #[Value.ref b] s) (F0 m pc ls [.int 1]) := by
  intro T hT X
  obtain ⟨fs, hret, hrun, hended, hW, hframe⟩ := X.leave (v := some (.int 1)) (hlocks := hlocks) (fun h => by rw [hr] at h; cases h)
  have hmeth' : T.vm.method? m = some meth := X.method'
  refine ⟨T.setFrames fs, ?_, .returned (some (.int 1)), hrun, hended, rfl, ⟨_, rfl⟩, hW, hframe⟩
  jvm_step X.here [X.here.top, hx, hb, hdg, hmeth', hr, ret, narrow_b1]
  (try refine ⟨rfl, ?_⟩); (try refine ⟨rfl, ?_⟩)
  first | (intro acts; rw [hret _ acts rfl rfl rfl]) | rw [hret _ _ rfl rfl rfl]
  exact Steps.refl _
/-- what holds at the law's entry: the machine, the code, the tables' words (any of lw_tbl by 'hts w (by decide +kernel)'), the script of L ints xs at the cell b, what the Statement gives of the start (any of its parts by flat_of_before) -/
def lw_At (p : Program) (s : State) (m : MethodId) (meth : Method) (c : Code) (b L : Nat) (xs : Nat → Int32) : Prop :=
  p.tables.exec = Jvm.exec ∧ c.code = code ∧ meth.sig.returnType = ret ∧ c.maxLocals = 4 ∧ s.vm.findClass R_law = some m.cls ∧ (∀ w ∈ lw_tbl, w.before #[Value.ref b] s = true) ∧ va_X b L xs s s.heap ∧ b < s.heap.size ∧ meth.locks = false ∧ (Jvm.Cond.and given_1 narrow_1).before #[Value.ref b] s = true
/-! the law's start: what the Statement gives is a start of the abstract machine -/
def xhold (j : Nat) : Int64 := ([-6148914691236517206, -3689348814741910324, -1085102592571150096, -71777214294589696, -281470681808896, -4294967296] : List Int64).getD j 0
/-- the memory at the start: the script, the constant table -/
def xM0 (L : Nat) (xs : Nat → Int32) : xM := ((2, 0), fun a => if a = 0 then (1, L) else if a = 1 then (3, 6) else (0, 0), fun _ _ => none, fun a j => if a = 0 then xs j else 0, fun a j => if a = 1 then xhold j else 0)
/-- what is left to show, of the abstract machine alone -/
def xGoal : Prop := ∀ (L : Nat) (xs : Nat → Int32), L ≤ 2048 → ∃ (n d : Nat) (μf : xM), d ≤ 1000 ∧ xrun PG n d 226 0 (xentry 4 [.ref 0]) [] (xM0 L xs) = some (some (.int 1), μf) ∧ xS μf ≤ 600002 ∧ xU μf ≤ 7302250
theorem xarrKn {s : State} {args : Array Value} {ty : FieldType} (h : (Cond.arrayClass ty).before args s = true) (hnr : ∀ C, ty ≠ .object C) : ∃ cA : ClassId, ArrOfT s cA ty ∧ va_RA s cA ty := by
  obtain ⟨cA, k, comp, h1, h2, h3⟩ := Cond.arrayClass_spec h
  refine ⟨cA, fun n z => ⟨fun k h => (by cases h), k, h2, comp, h3⟩, ?_⟩
  cases ty with
  | object C => exact absurd rfl (hnr C)
  | _ => exact h1
theorem xobjKn {s : State} {args : Array Value} {C : String} (h : (Cond.arrayOver (.object C)).before args s = true) : ∃ cA : ClassId, ArrOfT s cA (.object C) ∧ va_RA s cA (.object C) := by
  obtain ⟨comp, c, k, h1, h2, h3, h4, h5⟩ := Cond.arrayOver_spec h
  exact ⟨c, fun n z => ⟨fun k h => (by cases h), k, h3, comp, h4⟩, k, comp, h3, h4, h1, h5⟩
theorem xlongKn {s : State} {args : Array Value} (h : (Cond.arrayOver (.array .long)).before args s = true) : ∃ cA : ClassId, ArrOfT s cA (.array .long) ∧ va_RA s cA (.array .long) := by
  obtain ⟨comp, c, k, h1, h3, h4, h5⟩ := Cond.arrayOver_specA h
  exact ⟨c, fun n z => ⟨fun k h => (by cases h), k, h3, comp, h4⟩, h5⟩
theorem xKn_start {s : State} {args : Array Value} (hts : ∀ w ∈ lw_tbl, w.before args s = true) : ∃ G : xG, xKn G s := by
  have htb : ∀ w ∈ xtb, w.before args s = true := fun w hw => hts w (xtb_in hw)
  have hcl : ∀ ci, ∃ (c : ClassId) (iS : Nat → Nat), ci < 10 → ci ≠ 4 → u_Kn s (xCn ci) (xTf ci) (xN ci) c iS := fun ci => by
    by_cases h : ci < 10 ∧ ci ≠ 4
    · obtain ⟨c, iS, hk⟩ := u_known (C := xCn ci) (T := xTf ci) (N := xN ci) (n := xN ci) htb (xw_lay ci h.1 h.2) (htb _ (xw_inst ci h.1 h.2))
      exact ⟨c, iS, fun _ _ => hk⟩
    · exact ⟨0, fun _ => 0, fun h1 h2 => absurd ⟨h1, h2⟩ h⟩
  have har : ∀ t, ∃ cA : ClassId, 1 ≤ t → t ≤ 6 → ArrOfT s cA (xAT t) ∧ va_RA s cA (xAT t) := fun t => by
    match t with
    | 0 => exact ⟨0, fun h => absurd h (by decide)⟩
    | 1 => exact (xarrKn (htb _ xw_arrI) (fun C h => by cases h)).imp fun _ h _ _ => h
    | 2 => exact (xarrKn (htb _ xw_arrZ) (fun C h => by cases h)).imp fun _ h _ _ => h
    | 3 => exact (xarrKn (htb _ xw_arrJ) (fun C h => by cases h)).imp fun _ h _ _ => h
    | 4 => exact (xobjKn (hts _ xw_ov4)).imp fun _ h _ _ => h
    | 5 => exact (xobjKn (hts _ xw_ov5)).imp fun _ h _ _ => h
    | 6 => exact (xlongKn (hts _ xw_ov6)).imp fun _ h _ _ => h
    | n + 7 => exact ⟨0, fun _ h => absurd h (by omega)⟩
  refine ⟨(fun ci => (hcl ci).choose, fun ci => (hcl ci).choose_spec.choose, fun t => (har t).choose), fun ci h1 h2 => (hcl ci).choose_spec.choose_spec h1 h2, fun t h1 h2 => ((har t).choose_spec h1 h2).1, fun t h1 h2 => ((har t).choose_spec h1 h2).2, fun w hw => ?_, fun w hw => ?_, va_AO.of (hts _ xw_ov4), va_AO.of (hts _ xw_ov5), hts _ xw_ov6⟩
  · obtain ⟨q, hq, rfl⟩ := List.mem_map.mp hw
    exact va_Nw.of rfl (hts _ (xmem_of xw_NL _ hw))
  · obtain ⟨q, hq, rfl⟩ := List.mem_map.mp hw
    exact va_Nw.of rfl (hts _ (xmem_of xw_HL _ hw))
set_option maxHeartbeats 1000000 in
theorem xOld_start {s : State} {b L : Nat} {xs : Nat → Int32} (hts : ∀ w ∈ lw_tbl, w.before #[Value.ref b] s = true) (hgv : (Jvm.Cond.and given_1 narrow_1).before #[Value.ref b] s = true) (hX : va_X b L xs s s.heap) (hb : b < s.heap.size) : ∃ th : Nat, xOld b th s.heap.size L xs xhold s s.heap := by
  have hs := flat_of_before _ hgv
  have hA : ∀ a : Nat, a < s.heap.size → ¬ xA s.heap.size a := fun a h => Nat.not_le.mpr h
  obtain ⟨th, h1, h2⟩ := va_Tof (tm := .static "KeptAnswers" "HOLDING" "[J") (ty := .long) (N := 6) (f := fun j => .long (xhold j)) (by decide) (hs _ (by decide +kernel)) (va_eqt (hs (.eq (.length (.static "KeptAnswers" "HOLDING" "[J")) (.int 6)) (by decide +kernel))) (fun j hj => by
    match j, hj with
    | 0, _ => exact va_eqtl (hs (.eq (.elem (.static "KeptAnswers" "HOLDING" "[J") (.int 0)) (.long (-6148914691236517206))) (by decide +kernel))
    | 1, _ => exact va_eqtl (hs (.eq (.elem (.static "KeptAnswers" "HOLDING" "[J") (.int 1)) (.long (-3689348814741910324))) (by decide +kernel))
    | 2, _ => exact va_eqtl (hs (.eq (.elem (.static "KeptAnswers" "HOLDING" "[J") (.int 2)) (.long (-1085102592571150096))) (by decide +kernel))
    | 3, _ => exact va_eqtl (hs (.eq (.elem (.static "KeptAnswers" "HOLDING" "[J") (.int 3)) (.long (-71777214294589696))) (by decide +kernel))
    | 4, _ => exact va_eqtl (hs (.eq (.elem (.static "KeptAnswers" "HOLDING" "[J") (.int 4)) (.long (-281470681808896))) (by decide +kernel))
    | 5, _ => exact va_eqtl (hs (.eq (.elem (.static "KeptAnswers" "HOLDING" "[J") (.int 5)) (.long (-4294967296))) (by decide +kernel))
    | n + 6, h => exact absurd h (by omega)) hA
  exact ⟨th, hX, h2, va_Zref (hts _ xw_ls) (hts _ (xtb_in (xw_in (c := 0) (by decide)))) h1 hA, hb, hb⟩
theorem xlaw_fact : xMn 226 = x ∧ xBy 226 = code ∧ xMl 226 = 4 ∧ xRt 226 = ret ∧ xCn (xOw 226) = R_law := by
  refine ⟨rfl, rfl, rfl, rfl, rfl⟩
theorem xlaw_name : ¬ (xMn 226).name = "<init>" := by decide +kernel
/-- from the entry, for every script of at most 2048 ints, the law comes to its end with true: by the abstract machine's run -/
theorem whole_start_of (hG : xGoal) {p : Program} {e : Env} {s : State} {m : MethodId} {below : List Frame} {meth : Method} {c : Code} (l : Launch) (hflags : l.flags = flags0) {b L : Nat} {xs : Nat → Int32} (hL : L ≤ 2048) (C0 : lw_At p s m meth c b L xs) : W p l e room_1 s m #[Value.ref b] below meth c s.heap [] 0 0 (lw_Z below #[Value.ref b] s) (entryFrame m ([Value.ref b] : List Value).toArray 4) := by
  obtain ⟨hx, hb, hr, hml, hown, hts, hX, hbl, hlocks, hgv⟩ := id C0
  obtain ⟨G, hK⟩ := xKn_start hts
  obtain ⟨th, hO⟩ := xOld_start hts hgv hX hbl
  obtain ⟨n, d, μf, hd, hrun, hS1, hU1⟩ := hG L xs hL
  obtain ⟨f1, f2, f3, f4, f5⟩ := xlaw_fact
  have hC : xCtx G b th s.heap.size L xs xhold 226 p room_1 s m #[Value.ref b] meth c :=
    ⟨hx, by rw [f2]; exact hb, by rw [f3]; exact hml, by rw [f5]; exact hown, fun w hw => hts w (xtb_in hw), hK, hO, Nat.le_refl _, fun h => absurd h xlaw_name, by decide, Nat.le_of_ble_eq_true rfl⟩
  have hH : xHR G b th s.heap.size L xs xhold (xM0 L xs) s.heap := by
    refine ⟨Nat.le_refl 2, rfl, fun k k2 kl => ?_, ⟨rfl, fun j _ => rfl⟩, rfl, fun j _ => rfl⟩
    have kl : k < 2 := kl
    omega
  rw [lg_entry_eq]
  have hls := xentry_LR (b := b) (th := th) (B := s.heap.size) (n := 4) (av := [.ref 0]) (by decide)
  refine xbody (G := G) (b := b) (th := th) (B := s.heap.size) (L := L) (xs := xs) (hold := xhold) PG_ok n d 226 0 _ [] (xM0 L xs) (some (.int 1)) μf (Nat.le_refl _) hrun p e room_1 s m #[Value.ref b] below meth c s.heap [] 0 0 _ _ hC (by show d + 1 ≤ 2048; omega) (by show 64 * (d + 1) ≤ 84000; omega) (by rw [f3]; exact hls) hH va_S.rf (by show 0 + xS μf ≤ 600000 + 2; omega) (by show 0 + xU μf ≤ 7302250 + 0; omega) ?_
  intro pc' ls' H' locs' cells' slots' e1 e2 hH' hS' hdd hrk
  have e1 : cells' + 2 = 0 + xS μf := e1
  have e2 : slots' + 0 = 0 + xU μf := e2
  refine va_forget (fun q hq => hS'.2.2 q hq) ?_
  refine W.widen (k := 600000) (n := 7302250) (by omega) (by omega) ?_
  rw [f2] at hdd
  exact lw_ret hx hb hr hlocks hdd
