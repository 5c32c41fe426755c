/-! the abstract machine's runs are the machine's: one step of any instruction; then whole runs, by the runs' fuel -/
section XR
variable {G : xG} {b th B L : Nat} {xs : Nat → Int32} {hold : Nat → Int64} {y : Nat}
variable {p : Program} {l : Launch} {e : Env} {R : Room} {s : State} {m : MethodId} {args : Array Value} {below : List Frame} {meth : Method} {c : Code} {H : Heap} {locs : List Loc} {cells slots : Nat} {Q : State → Prop}
variable {raw : Instr} {len pc pc' : Nat} {lo lo' : xLo} {st st' : List Value} {μ μ' : xM} {ls : Array Slot}
theorem xstep_ok {ins : Instr} {r : Nat × xLo × List Value × xM} (hC : xCtx G b th B L xs hold y p R s m args meth c) (hd : decode (xBy y) pc = .ok (raw, len)) (hln : xlenok raw len = true) (hlo : xLR b th B ls (xMl y) lo) (hH : xHR G b th B L xs hold μ H) (hS : va_S (xA B) s.heap H locs) (hr1 : cells + xS r.2.2.2 ≤ R.cells + xS μ) (hr2 : slots + xU r.2.2.2 ≤ R.slots + xU μ) (hlk : xlink y pc raw ins = true) (hst : xstep ins len pc lo st μ = some r) (kk : xK1 G b th B L xs hold y p l e R s m args below meth c cells slots Q μ r) : W p l e R s m args below meth c H locs cells slots Q (F0 m pc ls (st.map (xcv b th B))) := by
  cases ins with
  | iconst n => exact xs_iconst hC hd hln hlo hH hS hr1 hr2 hlk hst kk
  | sipush n => exact xs_sipush hC hd hln hlo hH hS hr1 hr2 hlk hst kk
  | lconst n => exact xs_lconst hC hd hln hlo hH hS hr1 hr2 hlk hst kk
  | ldc2_w n => exact xs_ldc2 hC hd hln hlo hH hS hr1 hr2 hlk hst kk
  | aconst_null => exact xs_null hC hd hln hlo hH hS hr1 hr2 hlk hst kk
  | iload i => exact xs_iload hC hd hln hlo hH hS hr1 hr2 hlk hst kk
  | lload i => exact xs_lload hC hd hln hlo hH hS hr1 hr2 hlk hst kk
  | aload i => exact xs_aload hC hd hln hlo hH hS hr1 hr2 hlk hst kk
  | istore i => exact xs_istore hC hd hln hlo hH hS hr1 hr2 hlk hst kk
  | lstore i => exact xs_lstore hC hd hln hlo hH hS hr1 hr2 hlk hst kk
  | astore i => exact xs_astore hC hd hln hlo hH hS hr1 hr2 hlk hst kk
  | iinc i n => exact xs_iinc hC hd hln hlo hH hS hr1 hr2 hlk hst kk
  | iadd => exact xs_iadd hC hd hln hlo hH hS hr1 hr2 hlk hst kk
  | isub => exact xs_isub hC hd hln hlo hH hS hr1 hr2 hlk hst kk
  | imul => exact xs_imul hC hd hln hlo hH hS hr1 hr2 hlk hst kk
  | idiv => exact xs_idiv hC hd hln hlo hH hS hr1 hr2 hlk hst kk
  | irem => exact xs_irem hC hd hln hlo hH hS hr1 hr2 hlk hst kk
  | iand => exact xs_iand hC hd hln hlo hH hS hr1 hr2 hlk hst kk
  | ior => exact xs_ior hC hd hln hlo hH hS hr1 hr2 hlk hst kk
  | ixor => exact xs_ixor hC hd hln hlo hH hS hr1 hr2 hlk hst kk
  | fadd => exact xs_mmax hC hd hln hlo hH hS hr1 hr2 hlk hst kk
  | fsub => exact xs_mmin hC hd hln hlo hH hS hr1 hr2 hlk hst kk
  | ineg => exact xs_ineg hC hd hln hlo hH hS hr1 hr2 hlk hst kk
  | ishl => exact xs_ishl hC hd hln hlo hH hS hr1 hr2 hlk hst kk
  | ishr => exact xs_ishr hC hd hln hlo hH hS hr1 hr2 hlk hst kk
  | iushr => exact xs_iushr hC hd hln hlo hH hS hr1 hr2 hlk hst kk
  | ladd => exact xs_ladd hC hd hln hlo hH hS hr1 hr2 hlk hst kk
  | lsub => exact xs_lsub hC hd hln hlo hH hS hr1 hr2 hlk hst kk
  | land => exact xs_land hC hd hln hlo hH hS hr1 hr2 hlk hst kk
  | lor => exact xs_lor hC hd hln hlo hH hS hr1 hr2 hlk hst kk
  | lxor => exact xs_lxor hC hd hln hlo hH hS hr1 hr2 hlk hst kk
  | lshl => exact xs_lshl hC hd hln hlo hH hS hr1 hr2 hlk hst kk
  | lshr => exact xs_lshr hC hd hln hlo hH hS hr1 hr2 hlk hst kk
  | lushr => exact xs_lushr hC hd hln hlo hH hS hr1 hr2 hlk hst kk
  | lcmp => exact xs_lcmp hC hd hln hlo hH hS hr1 hr2 hlk hst kk
  | i2l => exact xs_i2l hC hd hln hlo hH hS hr1 hr2 hlk hst kk
  | l2i => exact xs_l2i hC hd hln hlo hH hS hr1 hr2 hlk hst kk
  | dup => exact xs_dup hC hd hln hlo hH hS hr1 hr2 hlk hst kk
  | dup2 => exact xs_dup2 hC hd hln hlo hH hS hr1 hr2 hlk hst kk
  | pop => exact xs_pop hC hd hln hlo hH hS hr1 hr2 hlk hst kk
  | goto off => exact xs_goto hC hd hln hlo hH hS hr1 hr2 hlk hst kk
  | ifCond q off => exact xs_ifc hC hd hln hlo hH hS hr1 hr2 hlk hst kk
  | if_icmp q off => exact xs_icmp hC hd hln hlo hH hS hr1 hr2 hlk hst kk
  | ifnull off => exact xs_ifnull hC hd hln hlo hH hS hr1 hr2 hlk hst kk
  | tableswitch d lo hi offs => exact xs_tsw hC hd hln hlo hH hS hr1 hr2 hlk hst kk
  | lookupswitch d ps => exact xs_lsw hC hd hln hlo hH hS hr1 hr2 hlk hst kk
  | getfield j => exact xs_getf hC hd hln hlo hH hS hr1 hr2 hlk hst kk
  | putfield j => exact xs_putf hC hd hln hlo hH hS hr1 hr2 hlk hst kk
  | getstatic j => exact xs_gets hC hd hln hlo hH hS hr1 hr2 hlk hst kk
  | iaload => exact xs_iaload hC hd hln hlo hH hS hr1 hr2 hlk hst kk
  | baload => exact xs_baload hC hd hln hlo hH hS hr1 hr2 hlk hst kk
  | laload => exact xs_laload hC hd hln hlo hH hS hr1 hr2 hlk hst kk
  | aaload => exact xs_aaload hC hd hln hlo hH hS hr1 hr2 hlk hst kk
  | iastore => exact xs_iastore hC hd hln hlo hH hS hr1 hr2 hlk hst kk
  | bastore => exact xs_bastore hC hd hln hlo hH hS hr1 hr2 hlk hst kk
  | lastore => exact xs_lastore hC hd hln hlo hH hS hr1 hr2 hlk hst kk
  | aastore => exact xs_aastore hC hd hln hlo hH hS hr1 hr2 hlk hst kk
  | arraylength => exact xs_alen hC hd hln hlo hH hS hr1 hr2 hlk hst kk
  | new ci => exact xs_new hC hd hln hlo hH hS hr1 hr2 hlk hst kk
  | newarray ty => exact xs_newarray hC hd hln hlo hH hS hr1 hr2 hlk hst kk
  | anewarray t => exact xs_anew hC hd hln hlo hH hS hr1 hr2 hlk hst kk
  | multianewarray i j => exact xs_multi hC hd hln hlo hH hS hr1 hr2 hlk hst kk
  | monitorexit => exact xs_objinit hC hd hln hlo hH hS hr1 hr2 hlk hst kk
  | monitorenter => exact xs_copy hC hd hln hlo hH hS hr1 hr2 hlk hst kk
  | athrow => exact xs_copyl hC hd hln hlo hH hS hr1 hr2 hlk hst kk
  | _ => exact absurd hst (by simp only [xstep]; exact fun h => by cases h)
end XR
/-- memory only grows -/
theorem xgrow_of {μ μ' : xM} (h : μ'.1 = μ.1) : xS μ ≤ xS μ' ∧ xU μ ≤ xU μ' := by
  unfold xS xU
  rw [h]
  exact ⟨Nat.le_refl _, Nat.le_refl _⟩
theorem xg_stF {μ μ1 : xM} {a ci k : Nat} {v : Int32} (h : stF μ a ci k v = some μ1) : xS μ ≤ xS μ1 ∧ xU μ ≤ xU μ1 := by
  obtain ⟨-, rfl⟩ := xif h
  exact xgrow_of rfl
theorem xg_stFZ {μ μ1 : xM} {a ci k : Nat} {v : Int32} (h : stFZ μ a ci k v = some μ1) : xS μ ≤ xS μ1 ∧ xU μ ≤ xU μ1 := by
  obtain ⟨-, rfl⟩ := xif h
  exact xgrow_of rfl
theorem xg_stFL {μ μ1 : xM} {a ci k : Nat} {v : Int64} (h : stFL μ a ci k v = some μ1) : xS μ ≤ xS μ1 ∧ xU μ ≤ xU μ1 := by
  obtain ⟨-, rfl⟩ := xif h
  exact xgrow_of rfl
theorem xg_stFR {μ μ1 : xM} {a ci k v : Nat} (h : stFR μ a ci k v = some μ1) : xS μ ≤ xS μ1 ∧ xU μ ≤ xU μ1 := by
  obtain ⟨-, rfl⟩ := xif h
  exact xgrow_of rfl
theorem xg_stA {μ μ1 : xM} {a : Nat} {i v : Int32} (h : stA μ a i v = some μ1) : xS μ ≤ xS μ1 ∧ xU μ ≤ xU μ1 := by
  obtain ⟨-, rfl⟩ := xif h
  exact xgrow_of rfl
theorem xg_stAZ {μ μ1 : xM} {a : Nat} {i v : Int32} (h : stAZ μ a i v = some μ1) : xS μ ≤ xS μ1 ∧ xU μ ≤ xU μ1 := by
  obtain ⟨-, rfl⟩ := xif h
  exact xgrow_of rfl
theorem xg_stAL {μ μ1 : xM} {a : Nat} {i : Int32} {v : Int64} (h : stAL μ a i v = some μ1) : xS μ ≤ xS μ1 ∧ xU μ ≤ xU μ1 := by
  obtain ⟨-, rfl⟩ := xif h
  exact xgrow_of rfl
theorem xg_stAR {μ μ1 : xM} {a v : Nat} {i : Int32} (h : stAR μ a i v = some μ1) : xS μ ≤ xS μ1 ∧ xU μ ≤ xU μ1 := by
  obtain ⟨-, rfl⟩ := xif h
  exact xgrow_of rfl
theorem xg_xcopy {μ μ1 : xM} {a d : Nat} {sp dp n : Int32} (h : xcopy μ a sp d dp n = some μ1) : xS μ ≤ xS μ1 ∧ xU μ ≤ xU μ1 := by
  obtain ⟨-, rfl⟩ := xif h
  exact xgrow_of rfl
theorem xg_xcopyL {μ μ1 : xM} {a d : Nat} {sp dp n : Int32} (h : xcopyL μ a sp d dp n = some μ1) : xS μ ≤ xS μ1 ∧ xU μ ≤ xU μ1 := by
  obtain ⟨-, rfl⟩ := xif h
  exact xgrow_of rfl
set_option maxHeartbeats 4000000 in
theorem xstep_grows {ins : Instr} {len pc : Nat} {lo : xLo} {st : List Value} {μ : xM} {r : Nat × xLo × List Value × xM} (h : xstep ins len pc lo st μ = some r) : xS μ ≤ xS r.2.2.2 ∧ xU μ ≤ xU r.2.2.2 := by
  cases ins <;> simp only [xstep] at h <;> (repeat' split at h) <;>
    first
    | (cases h; done)
    | (cases h; exact ⟨Nat.le_refl _, Nat.le_refl _⟩)
    | (cases h; exact ⟨by rw [xnew_S]; omega, by rw [xnew_U]; omega⟩)
    | (obtain ⟨z, -, rfl⟩ := Option.map_eq_some_iff.mp h; exact ⟨Nat.le_refl _, Nat.le_refl _⟩)
    | (obtain ⟨z, hz, rfl⟩ := Option.map_eq_some_iff.mp h; exact xg_stF hz)
    | (obtain ⟨z, hz, rfl⟩ := Option.map_eq_some_iff.mp h; exact xg_stFZ hz)
    | (obtain ⟨z, hz, rfl⟩ := Option.map_eq_some_iff.mp h; exact xg_stFL hz)
    | (obtain ⟨z, hz, rfl⟩ := Option.map_eq_some_iff.mp h; exact xg_stFR hz)
    | (obtain ⟨z, hz, rfl⟩ := Option.map_eq_some_iff.mp h; exact xg_stA hz)
    | (obtain ⟨z, hz, rfl⟩ := Option.map_eq_some_iff.mp h; exact xg_stAZ hz)
    | (obtain ⟨z, hz, rfl⟩ := Option.map_eq_some_iff.mp h; exact xg_stAL hz)
    | (obtain ⟨z, hz, rfl⟩ := Option.map_eq_some_iff.mp h; exact xg_stAR hz)
    | (obtain ⟨z, hz, rfl⟩ := Option.map_eq_some_iff.mp h; exact xg_xcopy hz)
    | (obtain ⟨z, hz, rfl⟩ := Option.map_eq_some_iff.mp h; exact xg_xcopyL hz)
def xretI : Option Value → Instr
  | none => .return_
  | some (.int _) => .ireturn
  | some (.long _) => .lreturn
  | some _ => .areturn
def xrok (rc : Nat) : Option Value → Prop
  | none => rc = 0
  | some (.int v) => rc = 1 ∨ rc = 2 ∧ (v = 0 ∨ v = 1)
  | some (.long _) => rc = 3
  | some (.ref _) => rc = 4
  | _ => False
/-- a run's first instruction: an answer, a call, or a step -/
theorem xrun_inv {P : xP} {n d y pc : Nat} {lo : xLo} {st : List Value} {μ : xM} {r : Option Value × xM} (h : xrun P n d y pc lo st μ = some r) : ∃ n', n = n' + 1 ∧ ∃ ins len, P.1 y pc = some (ins, len) ∧
    ((r.2 = μ ∧ st = r.1.toList ∧ ins = xretI r.1 ∧ xrok (P.2 y).2.2.1 r.1) ∨
     (∃ j d' rv1 μ1, (ins = .invokevirtual j ∨ ins = .invokestatic j ∨ ins = .invokespecial j) ∧ d = d' + 1 ∧ (P.2 j).1 ≤ st.length ∧ ((st.drop (P.2 j).1).map fun v => v.category).sum ≤ 8 ∧ xrc ins μ (st.take (P.2 j).1).reverse (P.2 j).2.2.2 (P.2 j).2.1 = true ∧ xrun P n' d' j 0 (xentry (P.2 j).2.1 (st.take (P.2 j).1).reverse) [] μ = some (rv1, μ1) ∧ xrun P n' (d' + 1) y (pc + 3) lo (rv1.toList ++ st.drop (P.2 j).1) μ1 = some r) ∨
     (∃ r1, xstep ins len pc lo st μ = some r1 ∧ xrun P n' d y r1.1 r1.2.1 r1.2.2.1 r1.2.2.2 = some r)) := by
  cases n with
  | zero => cases h
  | succ n' =>
    refine ⟨n', rfl, ?_⟩
    unfold xrun at h
    split at h
    · cases h
    · rename_i ins len hf
      refine ⟨ins, len, hf, ?_⟩
      split at h
      · split at h
        · obtain ⟨hc, rfl⟩ := xif h
          exact Or.inl ⟨rfl, rfl, rfl, hc⟩
        · cases h
      · split at h
        · obtain ⟨hc, rfl⟩ := xif h
          exact Or.inl ⟨rfl, rfl, rfl, hc⟩
        · cases h
      · split at h
        · obtain ⟨hc, rfl⟩ := xif h
          exact Or.inl ⟨rfl, rfl, rfl, hc⟩
        · cases h
      · split at h
        · obtain ⟨hc, rfl⟩ := xif h
          exact Or.inl ⟨rfl, rfl, rfl, hc⟩
        · cases h
      · rename_i j
        split at h
        · cases h
        · rename_i d'
          obtain ⟨⟨⟨h1, h2⟩, h3⟩, h⟩ := xifO h
          split at h
          · rename_i rv μ1 hr
            exact Or.inr (Or.inl ⟨j, d', rv, μ1, Or.inl rfl, rfl, h1, h2, h3, hr, h⟩)
          · cases h
      · rename_i j
        split at h
        · cases h
        · rename_i d'
          obtain ⟨⟨⟨h1, h2⟩, h3⟩, h⟩ := xifO h
          split at h
          · rename_i rv μ1 hr
            exact Or.inr (Or.inl ⟨j, d', rv, μ1, Or.inr (Or.inl rfl), rfl, h1, h2, h3, hr, h⟩)
          · cases h
      · rename_i j
        split at h
        · cases h
        · rename_i d'
          obtain ⟨⟨⟨h1, h2⟩, h3⟩, h⟩ := xifO h
          split at h
          · rename_i rv μ1 hr
            exact Or.inr (Or.inl ⟨j, d', rv, μ1, Or.inr (Or.inr rfl), rfl, h1, h2, h3, hr, h⟩)
          · cases h
      · split at h
        · rename_i pc1 lo1 st1 μ1 hs
          exact Or.inr (Or.inr ⟨_, hs, h⟩)
        · cases h
theorem xrun_grows (P : xP) : ∀ (n d y pc : Nat) (lo : xLo) (st : List Value) (μ : xM) (r : Option Value × xM), xrun P n d y pc lo st μ = some r → xS μ ≤ xS r.2 ∧ xU μ ≤ xU r.2 := by
  intro n
  induction n with
  | zero => intro d y pc lo st μ r h; cases h
  | succ n ih =>
    intro d y pc lo st μ r h
    obtain ⟨n', e, ins, len, hf, h⟩ := xrun_inv h
    cases e
    rcases h with ⟨h, -⟩ | ⟨j, d', rv, μ1, -, -, -, -, -, h1, h2⟩ | ⟨r1, h1, h2⟩
    · rw [h]
      exact ⟨Nat.le_refl _, Nat.le_refl _⟩
    · have a := ih _ _ _ _ _ _ _ h1
      have b := ih _ _ _ _ _ _ _ h2
      exact ⟨Nat.le_trans a.1 b.1, Nat.le_trans a.2 b.2⟩
    · have a := xstep_grows h1
      have b := ih _ _ _ _ _ _ _ h2
      exact ⟨Nat.le_trans a.1 b.1, Nat.le_trans a.2 b.2⟩
