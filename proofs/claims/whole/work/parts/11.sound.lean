/-! the abstract machine's runs are the machine's: one step of any instruction; then whole runs, by the runs' fuel -/
section XR
variable {G : xG} {b th B L : Nat} {xs : Nat → Int32} {hold : Nat → Int64} {y : Nat}
variable {p : Program} {l : Launch} {e : Env} {R : Room} {s : State} {m : MethodId} {args : Array Value} {below : List Frame} {meth : Method} {c : Code} {H : Heap} {locs : List Loc} {cells slots : Nat} {Q : State → Prop}
variable {raw : Instr} {len pc pc' : Nat} {lo lo' : xLo} {st st' : List Value} {μ μ' : xM} {ls : Array Slot}
theorem xstep_ok {ins : Instr} {r : Nat × xLo × List Value × xM} (hC : xCtx G b th B L xs hold y p R s m args meth c) (hov : (Cond.arrayOver (.array .long)).before args s = true) (hd : decode (xBy y) pc = .ok (raw, len)) (hln : xlenok raw len = true) (hlo : xLR b th B ls (xMl y) lo) (hH : xHR G b th B L xs hold μ H) (hS : va_S (xA B) s.heap H locs) (hr1 : cells + xS r.2.2.2 ≤ R.cells + xS μ) (hr2 : slots + xU r.2.2.2 ≤ R.slots + xU μ) (hlk : xlink y pc raw ins = true) (hst : xstep ins len pc lo st μ = some r) (kk : xK1 G b th B L xs hold y p l e R s m args below meth c cells slots Q μ r) : W p l e R s m args below meth c H locs cells slots Q (F0 m pc ls (st.map (xcv b th B))) := by
  cases ins with
  | iconst n => exact xs_iconst hC hd hln hlo hH hS hr1 hr2 hlk hst kk
  | sipush n => exact xs_sipush hC hd hln hlo hH hS hr1 hr2 hlk hst kk
  | lconst n => exact xs_lconst hC hd hln hlo hH hS hr1 hr2 hlk hst kk
  | ldc2_w n => exact xs_ldc2 hC hd hln hlo hH hS hr1 hr2 hlk hst kk
  | aconst_null => exact xs_null hC hd hln hlo hH hS hr1 hr2 hlk hst kk
  | iload i => exact xs_iload hC hd hln hlo hH hS hr1 hr2 hlk hst kk
  | lload i => exact xs_lload hC hd hln hlo hH hS hr1 hr2 hlk hst kk
  | aload i => exact xs_aload hC hd hln hlo hH hS hr1 hr2 hlk hst kk
  | istore i => exact xs_istore hC hd hln hlo hH hS hr1 hr2 hlk hst kk
  | lstore i => exact xs_lstore hC hd hln hlo hH hS hr1 hr2 hlk hst kk
  | astore i => exact xs_astore hC hd hln hlo hH hS hr1 hr2 hlk hst kk
  | iinc i n => exact xs_iinc hC hd hln hlo hH hS hr1 hr2 hlk hst kk
  | iadd => exact xs_iadd hC hd hln hlo hH hS hr1 hr2 hlk hst kk
  | isub => exact xs_isub hC hd hln hlo hH hS hr1 hr2 hlk hst kk
  | imul => exact xs_imul hC hd hln hlo hH hS hr1 hr2 hlk hst kk
  | idiv => exact xs_idiv hC hd hln hlo hH hS hr1 hr2 hlk hst kk
  | irem => exact xs_irem hC hd hln hlo hH hS hr1 hr2 hlk hst kk
  | iand => exact xs_iand hC hd hln hlo hH hS hr1 hr2 hlk hst kk
  | ior => exact xs_ior hC hd hln hlo hH hS hr1 hr2 hlk hst kk
  | ixor => exact xs_ixor hC hd hln hlo hH hS hr1 hr2 hlk hst kk
  | fadd => exact xs_mmax hC hd hln hlo hH hS hr1 hr2 hlk hst kk
  | fsub => exact xs_mmin hC hd hln hlo hH hS hr1 hr2 hlk hst kk
  | ineg => exact xs_ineg hC hd hln hlo hH hS hr1 hr2 hlk hst kk
  | ishl => exact xs_ishl hC hd hln hlo hH hS hr1 hr2 hlk hst kk
  | ishr => exact xs_ishr hC hd hln hlo hH hS hr1 hr2 hlk hst kk
  | iushr => exact xs_iushr hC hd hln hlo hH hS hr1 hr2 hlk hst kk
  | ladd => exact xs_ladd hC hd hln hlo hH hS hr1 hr2 hlk hst kk
  | lsub => exact xs_lsub hC hd hln hlo hH hS hr1 hr2 hlk hst kk
  | land => exact xs_land hC hd hln hlo hH hS hr1 hr2 hlk hst kk
  | lor => exact xs_lor hC hd hln hlo hH hS hr1 hr2 hlk hst kk
  | lxor => exact xs_lxor hC hd hln hlo hH hS hr1 hr2 hlk hst kk
  | lshl => exact xs_lshl hC hd hln hlo hH hS hr1 hr2 hlk hst kk
  | lshr => exact xs_lshr hC hd hln hlo hH hS hr1 hr2 hlk hst kk
  | lushr => exact xs_lushr hC hd hln hlo hH hS hr1 hr2 hlk hst kk
  | lcmp => exact xs_lcmp hC hd hln hlo hH hS hr1 hr2 hlk hst kk
  | i2l => exact xs_i2l hC hd hln hlo hH hS hr1 hr2 hlk hst kk
  | l2i => exact xs_l2i hC hd hln hlo hH hS hr1 hr2 hlk hst kk
  | dup => exact xs_dup hC hd hln hlo hH hS hr1 hr2 hlk hst kk
  | dup2 => exact xs_dup2 hC hd hln hlo hH hS hr1 hr2 hlk hst kk
  | pop => exact xs_pop hC hd hln hlo hH hS hr1 hr2 hlk hst kk
  | goto off => exact xs_goto hC hd hln hlo hH hS hr1 hr2 hlk hst kk
  | ifCond q off => exact xs_ifc hC hd hln hlo hH hS hr1 hr2 hlk hst kk
  | if_icmp q off => exact xs_icmp hC hd hln hlo hH hS hr1 hr2 hlk hst kk
  | ifnull off => exact xs_ifnull hC hd hln hlo hH hS hr1 hr2 hlk hst kk
  | tableswitch d lo hi offs => exact xs_tsw hC hd hln hlo hH hS hr1 hr2 hlk hst kk
  | lookupswitch d ps => exact xs_lsw hC hd hln hlo hH hS hr1 hr2 hlk hst kk
  | getfield j => exact xs_getf hC hd hln hlo hH hS hr1 hr2 hlk hst kk
  | putfield j => exact xs_putf hC hd hln hlo hH hS hr1 hr2 hlk hst kk
  | getstatic j => exact xs_gets hC hd hln hlo hH hS hr1 hr2 hlk hst kk
  | iaload => exact xs_iaload hC hd hln hlo hH hS hr1 hr2 hlk hst kk
  | baload => exact xs_baload hC hd hln hlo hH hS hr1 hr2 hlk hst kk
  | laload => exact xs_laload hC hd hln hlo hH hS hr1 hr2 hlk hst kk
  | aaload => exact xs_aaload hC hd hln hlo hH hS hr1 hr2 hlk hst kk
  | iastore => exact xs_iastore hC hd hln hlo hH hS hr1 hr2 hlk hst kk
  | bastore => exact xs_bastore hC hd hln hlo hH hS hr1 hr2 hlk hst kk
  | lastore => exact xs_lastore hC hd hln hlo hH hS hr1 hr2 hlk hst kk
  | aastore => exact xs_aastore hC hd hln hlo hH hS hr1 hr2 hlk hst kk
  | arraylength => exact xs_alen hC hd hln hlo hH hS hr1 hr2 hlk hst kk
  | new ci => exact xs_new hC hd hln hlo hH hS hr1 hr2 hlk hst kk
  | newarray ty => exact xs_newarray hC hd hln hlo hH hS hr1 hr2 hlk hst kk
  | anewarray t => exact xs_anew hC hd hln hlo hH hS hr1 hr2 hlk hst kk
  | multianewarray i j => exact xs_multi hC hd hln hlo hH hS hr1 hr2 hov hlk hst kk
  | monitorexit => exact xs_objinit hC hd hln hlo hH hS hr1 hr2 hlk hst kk
  | monitorenter => exact xs_copy hC hd hln hlo hH hS hr1 hr2 hlk hst kk
  | athrow => exact xs_copyl hC hd hln hlo hH hS hr1 hr2 hlk hst kk
  | _ => exact absurd hst (by simp only [xstep]; exact fun h => by cases h)
end XR
/-- memory only grows -/
theorem xstep_grows {ins : Instr} {len pc : Nat} {lo : xLo} {st : List Value} {μ : xM} {r : Nat × xLo × List Value × xM} (h : xstep ins len pc lo st μ = some r) : xS μ ≤ xS r.2.2.2 ∧ xU μ ≤ xU r.2.2.2 := by
  sorry
