/-! whole runs: each method of a sound program meets its contract, by the runs' fuel -/
def xRc : Option FieldType → Nat
  | none => 0
  | some .int => 1
  | some .boolean => 2
  | some .long => 3
  | some (.object _) => 4
  | some (.array _) => 4
  | _ => 9
/-- the abstract program is the code's: every instruction by its bytes and links -/
def xPok (P : xP) : Prop := (∀ y, y ≤ xnM → P.2 y = (xNa y, xMl y, xRc (xRt y), xOw y)) ∧ ∀ y pc ins len, y ≤ xnM → P.1 y pc = some (ins, len) → ∃ raw, decode (xBy y) pc = .ok (raw, len) ∧ xlenok raw len = true ∧ xlink y pc raw ins = true
def xBody (P : xP) (G : xG) (b th B L : Nat) (xs : Nat → Int32) (hold : Nat → Int64) (l : Launch) (n : Nat) : Prop :=
  ∀ (d y pc : Nat) (lo : xLo) (st : List Value) (μ : xM) (rv : Option Value) (μf : xM), y ≤ xnM → xrun P n d y pc lo st μ = some (rv, μf) →
  ∀ (p : Program) (e : Env) (R : Room) (s : State) (m : MethodId) (args : Array Value) (below : List Frame) (meth : Method) (c : Code) (H : Heap) (locs : List Loc) (cells slots : Nat) (Q : State → Prop) (ls : Array Slot),
  xCtx G b th B L xs hold y p R s m args meth c → d + 1 ≤ R.frames → 64 * (d + 1) ≤ R.locals → xLR b th B ls (xMl y) lo → xHR G b th B L xs hold μ H → va_S (xA B) s.heap H locs → cells + xS μf ≤ R.cells + xS μ → slots + xU μf ≤ R.slots + xU μ →
  (∀ (pc' : Nat) (ls' : Array Slot) (H' : Heap) (locs' : List Loc) (cells' slots' : Nat), cells' + xS μ = cells + xS μf → slots' + xU μ = slots + xU μf → xHR G b th B L xs hold μf H' → va_S (xA B) s.heap H' locs' → decode (xBy y) pc' = .ok (xretI rv, 1) → xrok (xRc (xRt y)) rv →
    W p l e R s m args below meth c H' locs' cells' slots' Q (F0 m pc' ls' (rv.toList.map (xcv b th B)))) →
  W p l e R s m args below meth c H locs cells slots Q (F0 m pc ls (st.map (xcv b th B)))
theorem xargs_sl {b th B : Nat} : ∀ (av : List Value), (lg_sl (av.map (xcv b th B))).length = (xargs av).length ∧ ∀ (i : Nat) (v : Value), (xargs av)[i]? = some (some v) → (lg_sl (av.map (xcv b th B)))[i]? = some (.val (xcv b th B v))
  | [] => ⟨rfl, fun i v h => by cases h⟩
  | w :: av => by
    obtain ⟨h1, h2⟩ := xargs_sl (b := b) (th := th) (B := B) av
    have e : lg_sl ((w :: av).map (xcv b th B)) = (if (xcv b th B w).category = 2 then [.val (xcv b th B w), .second] else [.val (xcv b th B w)]) ++ lg_sl (av.map (xcv b th B)) := rfl
    rw [e, xcv_cat]
    unfold xargs
    by_cases q : w.category = 2
    · rw [if_pos q, if_pos (by rw [q]; rfl)]
      refine ⟨by simp [h1], fun i v hi => ?_⟩
      match i, hi with
      | 0, hi =>
        cases hi
        rfl
      | 1, hi => cases hi
      | i + 2, hi => exact h2 i v hi
    · rw [if_neg q, if_neg (fun z => q (Nat.eq_of_beq_eq_true z))]
      refine ⟨by simp [h1], fun i v hi => ?_⟩
      match i, hi with
      | 0, hi =>
        cases hi
        rfl
      | i + 1, hi => exact h2 i v hi
theorem xentry_LR {b th B n : Nat} {av : List Value} (hn : (xargs av).length ≤ n) : xLR b th B ((lg_sl (av.map (xcv b th B)) ++ List.replicate (n - (lg_sl (av.map (xcv b th B))).length) Slot.unset).toArray) n (xentry n av) := by
  obtain ⟨h1, h2⟩ := xargs_sl (b := b) (th := th) (B := B) av
  have hl := lv_entry (av.map (xcv b th B)) (n := n) (by rw [h1]; exact hn)
  refine ⟨hl.1, hl.2.1, ?_, fun i v hi => ?_⟩
  · unfold xentry
    rw [List.length_append, List.length_replicate]
    omega
  · unfold xentry at hi
    rw [List.getElem?_toArray]
    by_cases q : i < (xargs av).length
    · rw [List.getElem?_append_left q] at hi
      rw [List.getElem?_append_left (by rw [h1]; exact q)]
      exact h2 i v hi
    · rw [List.getElem?_append_right (by omega)] at hi
      rw [List.getElem?_replicate] at hi
      split at hi <;> cases hi
section XB
variable {P : xP} {G : xG} {b th B L : Nat} {xs : Nat → Int32} {hold : Nat → Int64} {l : Launch}
def xPre (G : xG) (b th B L : Nat) (xs : Nat → Int32) (hold : Nat → Int64) (μ : xM) (av : List Value) : Array Value → State → Prop :=
  va_Pc (av.map (xcv b th B)) (fun U => xHR G b th B L xs hold μ U.heap ∧ xKn G U ∧ xOld b th B L xs hold U U.heap ∧ B ≤ U.heap.size)
def xPost (G : xG) (b th B L : Nat) (xs : Nat → Int32) (hold : Nat → Int64) (μ : xM) (rv : Option Value) : Array Value → State → Outcome → State → Prop :=
  fun _ st o t => (o = .returned (rv.map (xcv b th B)) ∧ xHR G b th B L xs hold μ t.heap) ∧ va_F (xA B) st t
theorem xPre_blind {μ : xM} {av : List Value} : FrameBlind (xPre G b th B L xs hold μ av) := fun a U g mk q => by
  obtain ⟨q1, q2, q3, q4, q5⟩ := q
  exact ⟨q1, q2, xKn.same (s := U) (U := U.calling g mk a) rfl q3, q4.moved (U := U.calling g mk a) (Vm.Alike.refl U.vm), q5⟩
theorem xmet (hP : xPok P) {n d j : Nat} {av : List Value} {μ μ1 : xM} {rv : Option Value} (hn : xBody P G b th B L xs hold l n) (hj : j < xnM) (h13 : xOw j ≠ 13) (hlen : (xargs av).length ≤ xMl j) (hrun : xrun P n d j 0 (xentry (xMl j) av) [] μ = some (rv, μ1)) :
    Met l (xMn j) (Cond.code (xMn j) (xBy j) (xMl j) (xRt j) :: xtb) ({ frames := d + 1, cells := xS μ1 - xS μ, slots := xU μ1 - xU μ, locals := 64 * (d + 1) }) (xPre G b th B L xs hold μ av) (xPost G b th B L xs hold μ1 rv) (xS μ1 - xS μ) (xU μ1 - xU μ) (xA B) := by
  refine Met.ofW (cc := xBy j) (maxL := xMl j) (ret := xRt j) ((xml_ok j hj).2 h13) rfl ?_
  intro p e s m args below meth c s₁ B0 hml hv
  obtain ⟨rfl, hH, hK, hO, hB⟩ := hv
  have hts := atoms_spec (ws := Cond.code (xMn j) (xBy j) (xMl j) (xRt j) :: xtb) B0.pre
  have hown : s.vm.findClass (xMn j).cls = some m.cls := findClass_of_methodNamed B0.named
  have hr := B0.returns
  have hlocks := B0.notSynchronized
  have hg := xrun_grows P _ _ _ _ _ _ _ _ hrun
  have hC : xCtx G b th B L xs hold j p ({ frames := d + 1, cells := xS μ1 - xS μ, slots := xU μ1 - xU μ, locals := 64 * (d + 1) } : Room) s m (av.map (xcv b th B)).toArray meth c :=
    ⟨B0.exec, B0.bytes, hml, by rw [← (xnd_ok j hj).1.1]; exact hown, fun w hw => hts w (List.mem_cons_of_mem _ hw), hK, hO, hB, fun h => by rw [← h]; exact (name_of_methodNamed B0.named B0.method).1, by show 1 ≤ d + 1; omega, by show 64 ≤ 64 * (d + 1); omega⟩
  rw [lg_entry_eq]
  have hl := xentry_LR (b := b) (th := th) (B := B) hlen
  refine hn d j 0 _ [] μ rv μ1 (Nat.le_of_lt hj) hrun p e _ s m _ below meth c s.heap [] 0 0 _ _ hC (Nat.le_refl _) (Nat.le_refl _) hl hH va_S.rf (by show 0 + xS μ1 ≤ xS μ1 - xS μ + xS μ; have := hg.1; dsimp only at this; omega) (by show 0 + xU μ1 ≤ xU μ1 - xU μ + xU μ; have := hg.2; dsimp only at this; omega) ?_
  intro pc' ls' H' locs' cells' slots' e1 e2 hH' hS' hd hrk
  have e1' : cells' = xS μ1 - xS μ := by omega
  have e2' : slots' = xU μ1 - xU μ := by omega
  subst e1'
  subst e2'
  have hfin : ∀ (v : Option Value), v = rv.map (xcv b th B) → ∀ t : State, t.heap = H' → s.WarmedH t.vm → xPost G b th B L xs hold μ1 rv (av.map (xcv b th B)).toArray s (.returned v) t := fun v hv t ht _ =>
    ⟨⟨by rw [hv], by rw [ht]; exact hH'⟩, hS'.F ht⟩
  match rv, hrk, hd, hfin with
  | none, hrk, hd, hfin =>
    have hrt : xRt j = none := by
      revert hrk
      show xRc (xRt j) = 0 → _
      cases xRt j with
      | none => intro _; rfl
      | some t => cases t <;> intro h <;> first | exact absurd h (by decide) | exact absurd h (by show ¬ 4 = 0; decide)
    exact W.vret B0.exec B0.bytes (hr.trans hrt) (hfin none rfl) hS'.2.2 hd
  | some (.int v), hrk, hd, hfin =>
    have hrt : ∃ ty, xRt j = some ty ∧ narrow ty (.int v) = .int v := by
      revert hrk
      show (xRc (xRt j) = 1 ∨ xRc (xRt j) = 2 ∧ (v = 0 ∨ v = 1)) → _
      cases xRt j with
      | none => intro h; rcases h with h | ⟨h, -⟩ <;> exact absurd h (by decide)
      | some t =>
        cases t <;> intro h <;> first
          | exact ⟨_, rfl, rfl⟩
          | (rcases h with h | ⟨h, q⟩ <;> first | exact absurd h (by decide) | exact ⟨_, rfl, (xbool q).1⟩)
    obtain ⟨ty, hty, hnar⟩ := hrt
    exact W.zret B0.exec B0.bytes (hr.trans hty) hnar (hfin (some (.int v)) rfl) hS'.2.2 hd
  | some (.long v), hrk, hd, hfin =>
    have hrt : xRt j = some .long := by
      revert hrk
      show xRc (xRt j) = 3 → _
      cases xRt j with
      | none => intro h; exact absurd h (by decide)
      | some t => cases t <;> intro h <;> first | rfl | exact absurd h (by decide) | exact absurd h (by show ¬ 4 = 3; decide)
    exact W.lret B0.exec B0.bytes (hr.trans hrt) (hfin (some (.long v)) rfl) hS'.2.2 hd
  | some (.ref v), hrk, hd, hfin =>
    have hrt : ∃ rt, xRt j = some rt ∧ ((∃ n, rt = .object n) ∨ ∃ t, rt = .array t) := by
      revert hrk
      show xRc (xRt j) = 4 → _
      cases xRt j with
      | none => intro h; exact absurd h (by decide)
      | some t => cases t <;> intro h <;> first | exact ⟨_, rfl, Or.inl ⟨_, rfl⟩⟩ | exact ⟨_, rfl, Or.inr ⟨_, rfl⟩⟩ | exact absurd h (by decide)
    obtain ⟨rt, hrt, hk⟩ := hrt
    exact W.aret B0.exec B0.bytes (hr.trans hrt) hk (Or.inr ⟨_, rfl⟩) (hfin (some (.ref (xad b th B v))) rfl) hS'.2.2 hd
  | some (.float v), hrk, _, _ => exact hrk.elim
  | some (.double v), hrk, _, _ => exact hrk.elim
  | some .null, hrk, _, _ => exact hrk.elim
  | some (.retAddr v), hrk, _, _ => exact hrk.elim
/-- behind a call -/
theorem xcall_go {p : Program} {e : Env} {R : Room} {s : State} {m : MethodId} {args : Array Value} {below : List Frame} {meth : Method} {c : Code} {H : Heap} {locs : List Loc} {cells slots mc ms pc : Nat} {Q : State → Prop} {ls : Array Slot} {st0 rest : List Value} {a : Array Value} {μ1 : xM} {rv : Option Value}
    (hr : va_Run p l e R s m args below meth c H locs cells slots mc ms (F0 m pc ls st0) (rest.map (xcv b th B)) (xPost G b th B L xs hold μ1 rv a) (xA B)) (hS : va_S (xA B) s.heap H locs)
    (kk : ∀ (H1 : Heap) (locs1 : List Loc), xHR G b th B L xs hold μ1 H1 → va_S (xA B) s.heap H1 locs1 → W p l e R s m args below meth c H1 locs1 (cells + mc) (slots + ms) Q (F0 m (pc + 3) ls ((rv.toList ++ rest).map (xcv b th B)))) :
    W p l e R s m args below meth c H locs cells slots Q (F0 m pc ls st0) := by
  intro T hT X
  obtain ⟨v, st₀, t, T', L1, h0, X', hL, e1, e2, ⟨⟨hv, hH1⟩, hz, hk⟩, st⟩ := hr T hT X
  have hv : v = rv.map (xcv b th B) := Outcome.returned.inj hv
  subst hv
  rw [h0] at hz hk
  obtain ⟨t2, a1, b1⟩ := kk T'.heap (locs ++ L1) (by rw [e1]; exact hH1)
    ⟨Nat.le_trans hS.1 (by rw [e1]; exact hz), fun q h1 h2 => by rw [e1, hk q (Nat.lt_of_lt_of_le h1 hS.1) h2]; exact hS.2.1 q h1 h2, fun q hq => by
      rcases List.mem_append.mp hq with h | h
      · exact hS.2.2 q h
      · exact hL q h⟩ T' rfl X'
  refine ⟨t2, st t2 ?_, b1⟩
  have es : ((rv.toList ++ rest).map (xcv b th B)) = (rv.map (xcv b th B)).toList ++ rest.map (xcv b th B) := by
    rw [List.map_append]
    cases rv <;> rfl
  rw [es] at a1
  exact a1
theorem xgoodL {ws : List Cond} (h : ∀ w ∈ ws, w ∈ xtb) : GoodIn xtb ws := fun w hw => ⟨h w hw, xtb_good (h w hw)⟩
theorem xgoodJ {j : Nat} (hj : j < xnM) : GoodIn xtb (Cond.code (xMn j) (xBy j) (xMl j) (xRt j) :: xtb) := xgoodL (fun w hw => by
  rcases List.mem_cons.mp hw with h | h
  · rw [h]; exact xw_code hj
  · exact h)
theorem xbody (hP : xPok P) : ∀ n, xBody P G b th B L xs hold l n := by
  intro n
  induction n with
  | zero => intro d y pc lo st μ rv μf hy h; cases h
  | succ n ih =>
    intro d y pc lo st μ rv μf hy hrun p e R s m args below meth c H locs cells slots Q ls hC hfr hlo hls hH hS hr1 hr2 hret
    obtain ⟨n', en, ins, len, hf, hcase⟩ := xrun_inv hrun
    cases en
    obtain ⟨raw, hd, hln, hlk⟩ := hP.2 _ _ _ _ hy hf
    rcases hcase with ⟨e1, e2, e3, e4⟩ | ⟨j, d', rv1, μ1, hins, hdd, h1, h2, h3, hr1', hr2'⟩ | ⟨r1, hst, hr'⟩
    · dsimp only at e1 e2 e3 e4
      subst e1
      subst e2
      subst e3
      have hraw : raw = xretI rv ∧ len = 1 := by
        rcases rv with _ | v
        · exact ⟨of_decide_eq_true hlk, by have h9 : raw = .return_ := of_decide_eq_true hlk; subst h9; exact xlenok_1 hln rfl⟩
        · cases v <;> first
            | exact ⟨of_decide_eq_true hlk, by have h9 : raw = .ireturn := of_decide_eq_true hlk; subst h9; exact xlenok_1 hln rfl⟩
            | exact ⟨of_decide_eq_true hlk, by have h9 : raw = .lreturn := of_decide_eq_true hlk; subst h9; exact xlenok_1 hln rfl⟩
            | exact ⟨of_decide_eq_true hlk, by have h9 : raw = .areturn := of_decide_eq_true hlk; subst h9; exact xlenok_1 hln rfl⟩
      obtain ⟨e5, e6⟩ := hraw
      subst e5
      subst e6
      rw [hP.1 y hy] at e4
      exact hret pc ls H locs cells slots rfl rfl hH hS hd e4
    · subst hdd
      have hg1 := xrun_grows P _ _ _ _ _ _ _ _ hr1'
      have hg2 := xrun_grows P _ _ _ _ _ _ _ _ hr2'
      dsimp only at hg1 hg2
      have kkgo : ∀ (H1 : Heap) (locs1 : List Loc), xHR G b th B L xs hold μ1 H1 → va_S (xA B) s.heap H1 locs1 → W p l e R s m args below meth c H1 locs1 (cells + (xS μ1 - xS μ)) (slots + (xU μ1 - xU μ)) Q (F0 m (pc + 3) ls ((rv1.toList ++ st.drop (P.2 j).1).map (xcv b th B))) := by
        intro H1 locs1 hH1 hS1
        refine ih (d' + 1) y (pc + 3) lo _ μ1 rv μf hy hr2' p e R s m args below meth c H1 locs1 _ _ Q ls hC hfr hlo hls hH1 hS1 (by omega) (by omega) ?_
        intro pc' ls' H' locs' cells' slots' q1 q2 q3 q4 q5 q6
        exact hret pc' ls' H' locs' cells' slots' (by omega) (by omega) q3 q4 q5 q6
      have hts := hC.2.2.2.2.1
      have hmem : ∀ U : State, U.heap = H → s.WarmedH U.vm → xHR G b th B L xs hold μ U.heap ∧ xKn G U ∧ xOld b th B L xs hold U U.heap ∧ B ≤ U.heap.size := fun U hU hW => by
        rw [hU]
        exact ⟨hH, hC.2.2.2.2.2.1.warm hW, (hC.2.2.2.2.2.2.1.kept hS.1 (fun a h1 h2 => hS.2.1 a h1 h2)).moved hW.alike, Nat.le_trans hC.2.2.2.2.2.2.2.1 hS.1⟩
      have hsumr : ((((st.drop (P.2 j).1).map (xcv b th B))).map fun v => v.category).sum ≤ 8 := by rw [xcv_sum]; exact h2
      have hsplit : st.map (xcv b th B) = ((st.take (P.2 j).1).map (xcv b th B)) ++ ((st.drop (P.2 j).1).map (xcv b th B)) := by rw [← List.map_append, List.take_append_drop]
      have hlenst : (st.take (P.2 j).1).length = (P.2 j).1 := List.length_take_of_le h1
      have hgo : ∀ (k : Nat), k = (P.2 j).1 → (j < xnM → k = xNa j ∧ (P.2 j).2.1 = xMl j ∧ (P.2 j).2.2.2 = xOw j) := fun k hk hj => by
        rw [hk, hP.1 j (Nat.le_of_lt hj)]
        exact ⟨rfl, rfl, rfl⟩
      have h13_of : (!(Nat.beq (xOw j) 13)) = true → xOw j ≠ 13 := fun h13 q => by rw [q] at h13; exact absurd h13 (by decide)
      rcases hins with rfl | rfl | rfl
      · simp only [xlink] at hlk
        split at hlk
        · rename_i i
          simp only [Bool.and_eq_true, decide_eq_true_eq] at hlk
          obtain ⟨⟨⟨⟨⟨⟨⟨hm, hvm⟩, hjl⟩, hna⟩, hpd⟩, h13⟩, h10⟩, h4⟩ := hlk
          have hj : j < xnM := Nat.blt_eq.mp hjl
          have h13' := h13_of h13
          have e1 : len = 3 := xlenok_1 hln rfl
          subst e1
          obtain ⟨g1, g2, g3⟩ := hgo _ rfl hj
          rw [g1, g2] at hr1'
          rw [g1] at h1 h2 hr2' kkgo hsumr hsplit hlenst
          rw [g1, g2, g3] at h3
          unfold xrc at h3
          rw [Bool.and_eq_true] at h3
          obtain ⟨h31, h32⟩ := h3
          have hlen := Nat.le_of_ble_eq_true h31
          dsimp only at h32
          split at h32
          · rename_i a As hav
            have hk : (xK μ a).1 = 10 + xOw j := Nat.eq_of_beq_eq_true h32
            rw [hav] at hr1' hlen
            have hMet := xmet hP ih hj h13' hlen hr1'
            obtain ⟨-, cell, c1, c2, c3, -⟩ := xobj hH hk
            have hfc := (hC.2.2.2.2.2.1.1 (xOw j) (Nat.blt_eq.mp h10) (fun q => by rw [q] at h4; exact absurd h4 (by decide))).2.1
            have htk : st.take (xNa j) = As.reverse ++ [.ref a] := by
              have := congrArg List.reverse hav
              rwa [List.reverse_reverse, List.reverse_cons] at this
            have hAl : As.length = xNa j - 1 := by
              have := congrArg List.length hav
              rw [List.length_reverse, hlenst, List.length_cons] at this
              omega
            have hst' : st.map (xcv b th B) = (As.map (xcv b th B)).reverse ++ .ref (xad b th B a) :: (st.drop (xNa j)).map (xcv b th B) := by
              rw [hsplit, htk, List.map_append, List.map_reverse, List.append_assoc]
              rfl
            have hmx := (xml_ok j hj).1
            have hrun := va_runV (e := e) (below := below) (meth := meth) (g := F0 m pc ls (st.map (xcv b th B))) (R := R) (cells := cells) (slots := slots) (locs := locs) (H := H) ⟨hC.1, hC.2.1, hC.2.2.1, hC.2.2.2.1, hts⟩ hMet
              (cwV (xNa j - 1) hts (xgoodL (fun w hw => by
                unfold wsV at hw
                rcases List.mem_append.mp hw with h | h
                · simp only [List.mem_cons, List.not_mem_nil, or_false] at h
                  rcases h with rfl | rfl | rfl | rfl
                  · exact xw_ml hm
                  · exact xw_vm2 hvm
                  · exact xw_vm hvm
                  · exact xw_in (xnd_ok j hj).1.2
                · exact ((xgoodJ hj) w h).1)) rfl rfl rfl ⟨(xnd_ok j hj).1.1, (xnd_ok j hj).2.1, (xnd_ok j hj).2.2, hpd⟩ ⟨by show d' + 1 + 1 ≤ R.frames; omega, by show 8 + (xMl j + 11) + 64 * (d' + 1) ≤ R.locals; omega⟩)
              ⟨xPre_blind, ⟨cell, c1, by rw [c3]; rfl, by rw [c2]; exact hfc⟩, fun U hU hW => ⟨rfl, hmem U hU hW⟩⟩ rfl (by rw [List.length_map]; exact hAl) hls.1 hst' (by show 2 * 0 + _ ≤ 8; omega) hd ⟨by omega, by omega⟩
            exact xcall_go hrun hS kkgo
          · cases h32
        · cases hlk
      · simp only [xlink] at hlk
        split at hlk
        · rename_i i
          simp only [Bool.and_eq_true, Bool.or_eq_true, decide_eq_true_eq] at hlk
          obtain ⟨⟨⟨⟨hm, hsm⟩, hjl⟩, hpd⟩, h13⟩ := hlk
          have hj : j < xnM := Nat.blt_eq.mp hjl
          have h13' := h13_of h13
          have e1 : len = 3 := xlenok_1 hln rfl
          subst e1
          obtain ⟨g1, g2, g3⟩ := hgo _ rfl hj
          rw [g1, g2] at hr1'
          rw [g1] at h1 h2 hr2' kkgo hsumr hsplit hlenst
          rw [g1, g2, g3] at h3
          unfold xrc at h3
          rw [Bool.and_eq_true] at h3
          have hlen := Nat.le_of_ble_eq_true h3.1
          generalize hav : (st.take (xNa j)).reverse = av at hr1' hlen
          have hMet := xmet hP ih hj h13' hlen hr1'
          have htk : st.take (xNa j) = av.reverse := by rw [← hav, List.reverse_reverse]
          have hAl : av.length = xNa j := by rw [← hav, List.length_reverse, hlenst]
          have hst' : st.map (xcv b th B) = (av.map (xcv b th B)).reverse ++ (st.drop (xNa j)).map (xcv b th B) := by
            rw [hsplit, htk, List.map_reverse]
          have hmx := (xml_ok j hj).1
          have hp : PreS s H (xPre G b th B L xs hold μ av) (av.map (xcv b th B)) := ⟨xPre_blind, fun U hU hW => ⟨rfl, hmem U hU hW⟩⟩
          have hR : d' + 1 + 1 ≤ R.frames ∧ 8 + (xMl j + 11) + 64 * (d' + 1) ≤ R.locals := ⟨by omega, by omega⟩
          rcases hm with hm | hm
          · have hrun := va_runS (e := e) (below := below) (meth := meth) (g := F0 m pc ls (st.map (xcv b th B))) (R := R) (cells := cells) (slots := slots) (locs := locs) (H := H) ⟨hC.1, hC.2.1, hC.2.2.1, hC.2.2.2.1, hts⟩ hMet
              (va_cwS (xNa j) hts (xgoodL (fun w hw => by
                unfold va_wsS at hw
                rcases List.mem_append.mp hw with h | h
                · simp only [List.mem_cons, List.not_mem_nil, or_false] at h
                  rcases h with rfl | rfl | rfl
                  · exact xw_ml hm
                  · exact xw_sm hsm
                  · rw [(xnd_ok j hj).1.1]; exact xw_in (xnd_ok j hj).1.2
                · exact ((xgoodJ hj) w h).1)) rfl rfl rfl ⟨(xnd_ok j hj).2.1, (xnd_ok j hj).2.2, hpd⟩ hR)
              hp rfl (by rw [List.length_map]; exact hAl) hls.1 hst' (by show 2 * 0 + _ ≤ 8; omega) hd ⟨by omega, by omega⟩
            exact xcall_go hrun hS kkgo
          · have hrun := va_runSN (e := e) (below := below) (meth := meth) (g := F0 m pc ls (st.map (xcv b th B))) (R := R) (cells := cells) (slots := slots) (locs := locs) (H := H) ⟨hC.1, hC.2.1, hC.2.2.1, hC.2.2.2.1, hts⟩ hMet
              ⟨va_cnB (xNa j) hts (xgoodJ hj) rfl rfl rfl (hC.2.2.2.2.2.1.2.2.2.1 _ (xw_nl hm)) (hts _ (by rw [(xnd_ok j hj).1.1]; exact xw_in (xnd_ok j hj).1.2)) ⟨(xnd_ok j hj).2.1, (xnd_ok j hj).2.2, hpd⟩ hR, hts _ (xw_sm hsm), trivial⟩
              hp rfl (by rw [List.length_map]; exact hAl) hls.1 hst' (by show 2 * 0 + _ ≤ 8; omega) hd ⟨by omega, by omega⟩
            exact xcall_go hrun hS kkgo
        · cases hlk
      · simp only [xlink] at hlk
        split at hlk
        · rename_i i
          simp only [Bool.and_eq_true, Bool.or_eq_true, decide_eq_true_eq] at hlk
          obtain ⟨⟨⟨⟨⟨⟨⟨hm, hsm⟩, hjl⟩, hna⟩, hin⟩, hrt⟩, hpd⟩, h13⟩ := hlk
          have hj : j < xnM := Nat.blt_eq.mp hjl
          have h13' := h13_of h13
          have e1 : len = 3 := xlenok_1 hln rfl
          subst e1
          obtain ⟨g1, g2, g3⟩ := hgo _ rfl hj
          rw [g1, g2] at hr1'
          rw [g1] at h1 h2 hr2' kkgo hsumr hsplit hlenst
          rw [g1, g2, g3] at h3
          unfold xrc at h3
          rw [Bool.and_eq_true] at h3
          obtain ⟨h31, h32⟩ := h3
          have hlen := Nat.le_of_ble_eq_true h31
          dsimp only at h32
          split at h32
          · rename_i a As hav
            rw [hav] at hr1' hlen
            have hMet := xmet hP ih hj h13' hlen hr1'
            have htk : st.take (xNa j) = As.reverse ++ [.ref a] := by
              have := congrArg List.reverse hav
              rwa [List.reverse_reverse, List.reverse_cons] at this
            have hAl : As.length = xNa j - 1 := by
              have := congrArg List.length hav
              rw [List.length_reverse, hlenst, List.length_cons] at this
              omega
            have hst' : st.map (xcv b th B) = (As.map (xcv b th B)).reverse ++ .ref (xad b th B a) :: (st.drop (xNa j)).map (xcv b th B) := by
              rw [hsplit, htk, List.map_append, List.map_reverse, List.append_assoc]
              rfl
            have hmx := (xml_ok j hj).1
            have hp : PreS s H (xPre G b th B L xs hold μ (.ref a :: As)) (.ref (xad b th B a) :: As.map (xcv b th B)) := ⟨xPre_blind, fun U hU hW => ⟨rfl, hmem U hU hW⟩⟩
            have hR : d' + 1 + 1 ≤ R.frames ∧ 8 + (xMl j + 11) + 64 * (d' + 1) ≤ R.locals := ⟨by omega, by omega⟩
            have hini : (Cond.initialized (xMn j).cls).before args s = true := hts _ (by rw [(xnd_ok j hj).1.1]; exact xw_in (xnd_ok j hj).1.2)
            rcases hm with hm | hm
            · have hrun := va_runI (e := e) (below := below) (meth := meth) (g := F0 m pc ls (st.map (xcv b th B))) (R := R) (cells := cells) (slots := slots) (locs := locs) (H := H) ⟨hC.1, hC.2.1, hC.2.2.1, hC.2.2.2.1, hts⟩ hMet
                (cwI (xNa j - 1) hts (xgoodJ hj) (by rw [hrt]) rfl rfl hini (hts _ (xw_ml hm)) (hts _ (xw_im hsm)) hin ⟨(xnd_ok j hj).2.1, (xnd_ok j hj).2.2, hpd⟩ hR)
                hp rfl (by rw [List.length_map]; exact hAl) hls.1 hst' (by show 2 * 0 + _ ≤ 8; omega) hd ⟨by omega, by omega⟩
              exact xcall_go hrun hS kkgo
            · have hrun := va_runIN (e := e) (below := below) (meth := meth) (g := F0 m pc ls (st.map (xcv b th B))) (R := R) (cells := cells) (slots := slots) (locs := locs) (H := H) ⟨hC.1, hC.2.1, hC.2.2.1, hC.2.2.2.1, hts⟩ hMet
                ⟨va_cnB (xNa j - 1) hts (xgoodJ hj) (by rw [hrt]) rfl rfl (hC.2.2.2.2.2.1.2.2.2.1 _ (xw_nl hm)) hini ⟨(xnd_ok j hj).2.1, (xnd_ok j hj).2.2, hpd⟩ hR, hin, hts _ (xw_im hsm)⟩
                hp rfl (by rw [List.length_map]; exact hAl) hls.1 hst' (by show 2 * 0 + _ ≤ 8; omega) hd ⟨by omega, by omega⟩
              exact xcall_go hrun hS kkgo
          · cases h32
        · cases hlk
    · have hg := xrun_grows P _ _ _ _ _ _ _ _ hr'
      have hg0 := xstep_grows hst
      dsimp only at hg
      refine xstep_ok hC hd hln hls hH hS (by omega) (by omega) hlk hst ?_
      intro ls' H' locs' cells' slots' c1 c2 hls' hH' hS'
      refine ih d y r1.1 r1.2.1 r1.2.2.1 r1.2.2.2 rv μf hy hr' p e R s m args below meth c H' locs' cells' slots' Q ls' hC hfr hlo hls' hH' hS' (by omega) (by omega) ?_
      intro pc' ls'' H'' locs'' cells'' slots'' q1 q2 q3 q4 q5 q6
      exact hret pc' ls'' H'' locs'' cells'' slots'' (by omega) (by omega) q3 q4 q5 q6
end XB
