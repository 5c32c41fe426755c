/-! rows of long rows (Worlds makes two) -/
theorem xvr_outer (c : ClassId) (N h0 : Nat) : ∀ i : Nat, Jvm.Free.Multi.outerC c N h0 i = arrV c N (fun j => if j < i then .ref (h0 + 1 + j) else .null)
  | 0 => by
    show ({ cls := c, slots := Array.replicate N .null, vm := .none } : Cell) = _
    rw [arrV_new]
    refine congrArg (arrV c N) (funext fun j => ?_)
    simp
  | i + 1 => by
    show (Jvm.Free.Multi.outerC c N h0 i).setSlot i (.ref (h0 + 1 + i)) = _
    rw [xvr_outer c N h0 i, arrV_store]
    refine congrArg (arrV c N) (funext fun j => ?_)
    unfold updV
    by_cases e : j = i
    · subst e
      rw [if_pos rfl, if_pos (by omega)]
    · rw [if_neg e]
      show (if j < i then Value.ref (h0 + 1 + j) else Value.null) = _
      by_cases h : j < i
      · rw [if_pos h, if_pos (by omega)]
      · rw [if_neg h, if_neg (by omega)]
section XMU
variable {G : xG} {b th B L : Nat} {xs : Nat → Int32} {hold : Nat → Int64} {y : Nat}
variable {p : Program} {l : Launch} {e : Env} {R : Room} {s : State} {m : MethodId} {args : Array Value} {below : List Frame} {meth : Method} {c : Code} {H : Heap} {locs : List Loc} {cells slots : Nat} {Q : State → Prop}
variable {raw : Instr} {len pc pc' : Nat} {lo lo' : xLo} {st st' : List Value} {μ μ' : xM} {ls : Array Slot}
theorem xs_multi {i0 j0 : Nat} {r : Nat × xLo × List Value × xM} (hC : xCtx G b th B L xs hold y p R s m args meth c) (hd : decode (xBy y) pc = .ok (raw, len)) (hln : xlenok raw len = true) (hlo : xLR b th B ls (xMl y) lo) (hH : xHR G b th B L xs hold μ H) (hS : va_S (xA B) s.heap H locs) (hr1 : cells + xS r.2.2.2 ≤ R.cells + xS μ) (hr2 : slots + xU r.2.2.2 ≤ R.slots + xU μ) (hlk : xlink y pc raw (.multianewarray i0 j0) = true) (hst : xstep (.multianewarray i0 j0) len pc lo st μ = some r) (kk : xK1 G b th B L xs hold y p l e R s m args below meth c cells slots Q μ r) : W p l e R s m args below meth c H locs cells slots Q (F0 m pc ls (st.map (xcv b th B))) := by
  simp only [xlink] at hlk
  split at hlk
  · simp only [Bool.and_eq_true, decide_eq_true_eq] at hlk
    obtain ⟨hoi, hjj⟩ := hlk
    subst hjj
    have e1 : len = 4 := xlenok_1 hln rfl
    subst e1
    simp only [xstep] at hst
    split at hst
    · rename_i i1 k n st1
      obtain ⟨⟨⟨hn, hn6⟩, hk, hk6⟩, rfl⟩ := xif hst
      have hts := hC.2.2.2.2.1
      intro T hT X
      have q1 := hr1
      have q2 := hr2
      rw [xnew_S] at q1
      rw [xnew_U] at q2
      obtain ⟨vm₁, cA, comp, -, fA, fC, hO, -, X', step⟩ := X.multianewarray2F (ty := .long) hC.1 hC.2.2.2.1 (hts _ (xw_mul hoi)) (xAOA.use hC.2.2.2.2.2.1.2.2.2.2.2.2.2) (hts _ xw_arrJ) (g := F0 m pc ls (.int k :: .int n :: st1.map (xcv b th B))) rfl (by rw [hC.2.1]; exact hd) rfl hn hk (by omega) (by show _ * 8 ≤ _; omega) (by omega) rfl rfl (by omega) (by omega)
      have eA : cA = G.2.2 6 := Option.some.inj (fA.symm.trans (hC.2.2.2.2.2.1.2.2.1 6 (by decide) (by decide)))
      have eC : comp = G.2.2 3 := Option.some.inj (fC.symm.trans (hC.2.2.2.2.2.1.2.2.1 3 (by decide) (by decide)))
      subst eA
      subst eC
      generalize hF : Jvm.Free.Multi.fill (T.setVm vm₁) (G.2.2 6) (G.2.2 3) n.toNatClampNeg k.toNatClampNeg (defaultValue .long) n.toNatClampNeg = F at X' step
      have hTh : (T.setVm vm₁).heap = H := hT
      obtain ⟨f1, f2, -, -⟩ := Jvm.Free.Multi.fill_facts (T.setVm vm₁) (G.2.2 6) (G.2.2 3) n.toNatClampNeg k.toNatClampNeg (defaultValue .long) n.toNatClampNeg
      rw [hF, hTh] at f1 f2
      have hold' : ∀ x : Nat, x < H.size → F.heap[x]? = H[x]? := fun x hx => by
        have := Jvm.Free.Multi.fill_old (T.setVm vm₁) (G.2.2 6) (G.2.2 3) n.toNatClampNeg k.toNatClampNeg (defaultValue .long) (a := x) (by rw [hTh]; exact hx) n.toNatClampNeg
        rw [hF, hTh] at this
        exact this
      have hrow : ∀ j : Nat, j < n.toNatClampNeg → F.heap[H.size + 1 + j]? = some (arrV (G.2.2 3) k.toNatClampNeg (fun _ => .long 0)) := fun j hj => by
        have := Jvm.Free.Multi.fill_inner (T.setVm vm₁) (G.2.2 6) (G.2.2 3) n.toNatClampNeg k.toNatClampNeg (defaultValue .long) n.toNatClampNeg j hj
        rw [hF, hTh] at this
        rw [this]
        exact congrArg some (arrV_new _ _ _)
      rw [xvr_outer] at f2
      have ha := xad_sz (b := b) (th := th) hH.1 hH.2.1
      obtain ⟨t, a1, b1⟩ := kk ls F.heap locs (cells + 1 + n.toNatClampNeg) (slots + n.toNatClampNeg + n.toNatClampNeg * k.toNatClampNeg) (by rw [xnew_S]; omega) (by rw [xnew_U]; omega) hlo (xHR_new hH f1 hold' (fun a l1 l2 => by
        by_cases ea : a = xS μ
        · subst ea
          refine xarr_new (by decide) ?_
          rw [ha, f2]
          refine congrArg (fun f => some (arrV _ _ f)) (funext fun j => ?_)
          show _ = va_rf ((xR _ _ _).map _)
          rw [xnew_R, if_pos rfl]
          by_cases q : j < n.toNatClampNeg
          · rw [if_pos q, if_pos q]
            show Value.ref _ = Value.ref (xad b th B (xS μ + 1 + j))
            rw [show xS μ + 1 + j = xS μ + (1 + j) by omega, xad_szk hH.1 hH.2.1]
            exact congrArg Value.ref (Nat.add_assoc _ _ _)
          · rw [if_neg q, if_neg q]
            rfl
        · unfold xcell
          rw [xnew_K2 _ _ _ _ _ _ (by omega) l2, if_neg (by show ¬ 10 ≤ 3; decide)]
          obtain ⟨j, rfl⟩ : ∃ j, a = xS μ + (1 + j) := ⟨a - xS μ - 1, by omega⟩
          rw [xad_szk hH.1 hH.2.1, ← Nat.add_assoc, hrow j (by omega)]
          exact congrArg (fun f => some (arrV _ _ f)) (funext fun z => (xval_newL (by omega) (by omega)).symm))) (xS_new hS f1 hold') F rfl X'
      refine ⟨t, step t ?_, b1⟩
      have eh : T.heap.size = xad b th B (xS μ) := by rw [hT]; exact ha.symm
      rw [eh]
      exact a1
    · cases hst
  · cases hlk
end XMU
