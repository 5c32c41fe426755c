/-! steps that make cells; copies of rows -/
theorem xad_sz {b th B z S : Nat} (h2 : 2 ≤ S) (h : z + 2 = B + S) : xad b th B S = z := by
  match S, h2, h with
  | k + 2, _, h =>
    show B + k = z
    omega
theorem xad_szk {b th B z S k : Nat} (h2 : 2 ≤ S) (h : z + 2 = B + S) : xad b th B (S + k) = z + k := by
  match S, h2, h with
  | n + 2, _, h =>
    rw [show n + 2 + k = (n + k) + 2 by omega]
    show B + (n + k) = z + k
    omega
section XN
variable {G : xG} {b th B L : Nat} {xs : Nat → Int32} {hold : Nat → Int64} {y : Nat}
variable {p : Program} {l : Launch} {e : Env} {R : Room} {s : State} {m : MethodId} {args : Array Value} {below : List Frame} {meth : Method} {c : Code} {H : Heap} {locs : List Loc} {cells slots : Nat} {Q : State → Prop}
variable {raw : Instr} {len pc pc' : Nat} {lo lo' : xLo} {st st' : List Value} {μ μ' : xM} {ls : Array Slot}
theorem xnew_S (μ : xM) (t t2 : Nat × Nat) (k sl : Nat) : xS (xnew μ t t2 k sl) = xS μ + 1 + k := rfl
theorem xnew_U (μ : xM) (t t2 : Nat × Nat) (k sl : Nat) : xU (xnew μ t t2 k sl) = xU μ + sl := rfl
theorem xnew_K0 (μ : xM) (t t2 : Nat × Nat) (k sl a : Nat) (h : a < xS μ) : xK (xnew μ t t2 k sl) a = xK μ a := by
  have h : a < μ.1.1 := h
  show (if a < μ.1.1 + 1 + k then (if a = μ.1.1 then t else if μ.1.1 < a ∧ a ≤ μ.1.1 + k then t2 else μ.2.1 a) else (0, 0)) = if a < μ.1.1 then μ.2.1 a else (0, 0)
  rw [if_pos (by omega), if_neg (by omega), if_neg (by omega), if_pos h]
theorem xnew_K1 (μ : xM) (t t2 : Nat × Nat) (k sl : Nat) : xK (xnew μ t t2 k sl) (xS μ) = t := by
  show (if μ.1.1 < μ.1.1 + 1 + k then (if μ.1.1 = μ.1.1 then t else if μ.1.1 < μ.1.1 ∧ μ.1.1 ≤ μ.1.1 + k then t2 else μ.2.1 μ.1.1) else (0, 0)) = t
  rw [if_pos (by omega), if_pos rfl]
theorem xnew_K2 (μ : xM) (t t2 : Nat × Nat) (k sl a : Nat) (h : xS μ < a) (h2 : a ≤ xS μ + k) : xK (xnew μ t t2 k sl) a = t2 := by
  have h : μ.1.1 < a := h
  have h2 : a ≤ μ.1.1 + k := h2
  show (if a < μ.1.1 + 1 + k then (if a = μ.1.1 then t else if μ.1.1 < a ∧ a ≤ μ.1.1 + k then t2 else μ.2.1 a) else (0, 0)) = t2
  rw [if_pos (by omega), if_neg (by omega), if_pos ⟨h, h2⟩]
theorem xnew_I (μ : xM) (t t2 : Nat × Nat) (k sl a j : Nat) : xI (xnew μ t t2 k sl) a j = if xS μ ≤ a ∧ a ≤ xS μ + k then 0 else xI μ a j := rfl
theorem xnew_L (μ : xM) (t t2 : Nat × Nat) (k sl a j : Nat) : xL (xnew μ t t2 k sl) a j = if xS μ ≤ a ∧ a ≤ xS μ + k then 0 else xL μ a j := rfl
theorem xnew_R (μ : xM) (t t2 : Nat × Nat) (k sl a j : Nat) : xR (xnew μ t t2 k sl) a j = if a = xS μ then (if j < k then some (xS μ + 1 + j) else none) else if xS μ < a ∧ a ≤ xS μ + k then none else xR μ a j := rfl
theorem xnew_val (μ : xM) (t t2 : Nat × Nat) (k sl a c j : Nat) (h : a < xS μ) : xval b th B (xnew μ t t2 k sl) a c j = xval b th B μ a c j := by
  unfold xval
  rw [xnew_I, xnew_L, xnew_R, if_neg (by omega), if_neg (by omega), if_neg (by omega), if_neg (by omega)]
theorem xHR_new {H1 : Heap} {t t2 : Nat × Nat} {k sl : Nat} (h : xHR G b th B L xs hold μ H) (hz : H1.size = H.size + 1 + k) (ho : ∀ q : Nat, q < H.size → H1[q]? = H[q]?) (hx : ∀ a, xS μ ≤ a → a ≤ xS μ + k → xcell G b th B (xnew μ t t2 k sl) H1 a) : xHR G b th B L xs hold (xnew μ t t2 k sl) H1 := by
  obtain ⟨g1, g2, g3, ⟨g4, g5⟩, g6, g7⟩ := h
  refine ⟨by rw [xnew_S]; omega, by rw [xnew_S]; omega, fun a a2 al => ?_, ⟨by rw [xnew_K0 _ _ _ _ _ _ (by omega)]; exact g4, fun j hj => by rw [xnew_I, if_neg (by omega)]; exact g5 j hj⟩, by rw [xnew_K0 _ _ _ _ _ _ (by omega)]; exact g6, fun j hj => by rw [xnew_L, if_neg (by omega)]; exact g7 j hj⟩
  rw [xnew_S] at al
  by_cases q : a < xS μ
  · have h0 := g3 a a2 q
    have hlt : xad b th B a < H.size := by
      have := xad_lt (b := b) (th := th) (B := B) q a2
      omega
    unfold xcell at h0 ⊢
    rw [xnew_K0 _ _ _ _ _ _ q]
    by_cases w : 10 ≤ (xK μ a).1
    · rw [if_pos w] at h0 ⊢
      exact (h0.kept (ho _ hlt)).to (fun j _ => (xnew_val _ _ _ _ _ _ _ _ q).symm)
    · rw [if_neg w] at h0 ⊢
      rw [ho _ hlt, h0]
      exact congrArg (fun f => some (arrV _ _ f)) (funext fun j => (xnew_val _ _ _ _ _ _ _ _ q).symm)
  · exact hx a (by omega) (by omega)
theorem xS_new {H1 : Heap} {k : Nat} (h : va_S (xA B) s.heap H locs) (hz : H1.size = H.size + 1 + k) (ho : ∀ q : Nat, q < H.size → H1[q]? = H[q]?) : va_S (xA B) s.heap H1 locs :=
  ⟨Nat.le_trans h.1 (by omega), fun q h1 h2 => (ho q (Nat.lt_of_lt_of_le h1 h.1)).trans (h.2.1 q h1 h2), h.2.2⟩
theorem xval_new0 {t : Nat × Nat} {sl ci j : Nat} (h1 : ci < 10) (hj : j < xN ci) : defaultValue (xTy ci j) = xval b th B (xnew μ t (0, 0) 0 sl) (xS μ) (xFc ci j) j := by
  have hr := xref_ok ci h1 j hj
  unfold xval
  rw [xnew_I, xnew_L, xnew_R]
  simp only [Nat.le_refl, Nat.add_zero, and_self, if_true, Nat.not_lt_zero, if_false]
  unfold xFc at hr ⊢
  cases hq : xTy ci j <;> rw [hq] at hr <;> first | rfl | exact absurd (hr rfl) (by decide)
theorem xarr_new {H1 : Heap} {t n k sl : Nat} {t2 : Nat × Nat} (h6 : t ≤ 6) (he : H1[xad b th B (xS μ)]? = some (arrV (G.2.2 t) n (fun j => xval b th B (xnew μ (t, n) t2 k sl) (xS μ) (xAc t) j))) : xcell G b th B (xnew μ (t, n) t2 k sl) H1 (xS μ) := by
  unfold xcell
  rw [xnew_K1, if_neg (by show ¬ 10 ≤ t; omega)]
  exact he
theorem xval_newI {t : Nat × Nat} {k sl j : Nat} {t2 : Nat × Nat} : xval b th B (xnew μ t t2 k sl) (xS μ) 0 j = .int 0 := by
  show Value.int (xI _ _ _) = _
  rw [xnew_I, if_pos (by omega)]
theorem xval_newL {t : Nat × Nat} {k sl a j : Nat} {t2 : Nat × Nat} (h1 : xS μ ≤ a) (h2 : a ≤ xS μ + k) : xval b th B (xnew μ t t2 k sl) a 1 j = .long 0 := by
  show Value.long (xL _ _ _) = _
  rw [xnew_L, if_pos ⟨h1, h2⟩]
theorem xval_newR {t : Nat × Nat} {sl j : Nat} {t2 : Nat × Nat} : xval b th B (xnew μ t t2 0 sl) (xS μ) 2 j = .null := by
  show va_rf ((xR _ _ _).map _) = _
  rw [xnew_R, if_pos rfl, if_neg (by omega)]
  rfl
theorem xs_new {ci : Nat} {r : Nat × xLo × List Value × xM} (hC : xCtx G b th B L xs hold y p R s m args meth c) (hd : decode (xBy y) pc = .ok (raw, len)) (hln : xlenok raw len = true) (hlo : xLR b th B ls (xMl y) lo) (hH : xHR G b th B L xs hold μ H) (hS : va_S (xA B) s.heap H locs) (hr1 : cells + xS r.2.2.2 ≤ R.cells + xS μ) (hr2 : slots + xU r.2.2.2 ≤ R.slots + xU μ) (hlk : xlink y pc raw (.new ci) = true) (hst : xstep (.new ci) len pc lo st μ = some r) (kk : xK1 G b th B L xs hold y p l e R s m args below meth c cells slots Q μ r) : W p l e R s m args below meth c H locs cells slots Q (F0 m pc ls (st.map (xcv b th B))) := by
  simp only [xlink] at hlk
  split at hlk
  · simp only [Bool.and_eq_true] at hlk
    obtain ⟨⟨hm, hci⟩, h4⟩ := hlk
    have hm := of_decide_eq_true hm
    have hci : ci < 10 := Nat.blt_eq.mp hci
    have h4 : ci ≠ 4 := fun q => by rw [q] at h4; exact absurd h4 (by decide)
    have e1 : len = 3 := xlenok_1 hln rfl
    subst e1
    simp only [xstep] at hst
    cases hst
    have hts := hC.2.2.2.2.1
    have hKn := hC.2.2.2.2.2.1.1 ci hci h4
    refine W.newcK hC.1 hC.2.1 hC.2.2.2.1 (hts _ (xw_cl hm)) (hts _ (xw_inst ci hci h4)) (hts _ (xw_in (by omega))) rfl hd ?_ ?_ hKn.2.1 rfl (fun H1 kC hkC ec z1 o1 => ?_)
    · have := hr1
      rw [xnew_S] at this
      omega
    · have := hr2
      rw [xnew_U] at this
      omega
    · have ha := xad_sz (b := b) (th := th) hH.1 hH.2.1
      have k1 := kk ls H1 locs (cells + 1) (slots + xN ci) (by rw [xnew_S]; omega) (by rw [xnew_U]; omega) hlo (xHR_new hH (by omega) o1 (fun a l1 l2 => ?_)) (xS_new (k := 0) hS (by omega) o1)
      · show W _ _ _ _ _ _ _ _ _ _ _ _ _ _ _ (F0 m (pc + 3) ls (.ref H.size :: st.map (xcv b th B)))
        rw [← ha]
        exact k1
      · have ea : a = xS μ := by omega
        subst ea
        unfold xcell
        rw [xnew_K1, if_pos (by show 10 ≤ 10 + ci; omega), show (10 + ci, xN ci).1 - 10 = ci by show 10 + ci - 10 = ci; omega, ha]
        exact (u_born (xTy ci) hts (xw_lay ci hci h4) hKn hkC ec (xty_ok ci hci)).to (fun j hj => xval_new0 hci hj)
  · cases hlk
theorem xs_newarray {ty : ArrayType} {r : Nat × xLo × List Value × xM} (hC : xCtx G b th B L xs hold y p R s m args meth c) (hd : decode (xBy y) pc = .ok (raw, len)) (hln : xlenok raw len = true) (hlo : xLR b th B ls (xMl y) lo) (hH : xHR G b th B L xs hold μ H) (hS : va_S (xA B) s.heap H locs) (hr1 : cells + xS r.2.2.2 ≤ R.cells + xS μ) (hr2 : slots + xU r.2.2.2 ≤ R.slots + xU μ) (hlk : xlink y pc raw (.newarray ty) = true) (hst : xstep (.newarray ty) len pc lo st μ = some r) (kk : xK1 G b th B L xs hold y p l e R s m args below meth c cells slots Q μ r) : W p l e R s m args below meth c H locs cells slots Q (F0 m pc ls (st.map (xcv b th B))) := by
  have hr : raw = .newarray ty := of_decide_eq_true hlk
  subst hr
  have e1 : len = 2 := xlenok_1 hln rfl
  subst e1
  have hts := hC.2.2.2.2.1
  simp only [xstep] at hst
  split at hst
  · rename_i n st1
    obtain ⟨hn, hst⟩ := xifO hst
    · split at hst
      · cases hst
        refine W.newa (atype := .int) hC.1 hC.2.1 (hts _ xw_arrI) rfl hd rfl hn.1 (by show _ * 4 ≤ _; omega) (by rw [xnew_S] at hr1; omega) (by rw [xnew_U] at hr2; omega) (fun cA kA comp f1 f2 f3 => ?_)
        have ecA : cA = G.2.2 1 := Option.some.inj (f1.symm.trans (hC.2.2.2.2.2.1.2.2.1 1 (by decide) (by decide)))
        subst ecA
        generalize hH1 : H.push ({ cls := G.2.2 1, slots := Array.replicate _ (defaultValue (newarray.typeOf .int)), vm := .none } : Cell) = H1
        have z1 : H1.size = H.size + 1 + 0 := by rw [← hH1, Array.size_push]
        have o1 : ∀ q : Nat, q < H.size → H1[q]? = H[q]? := fun q hq => by rw [← hH1, Array.getElem?_push, if_neg (Nat.ne_of_lt hq)]
        have ha := xad_sz (b := b) (th := th) hH.1 hH.2.1
        have k1 := kk ls H1 locs (cells + 1) (slots + n.toNatClampNeg) (by rw [xnew_S]; omega) (by rw [xnew_U]; omega) hlo (xHR_new hH z1 o1 (fun a l1 l2 => ?_)) (xS_new hS z1 o1)
        · rw [← ha]
          exact k1
        · have ea : a = xS μ := by omega
          subst ea
          refine xarr_new (by decide) ?_
          rw [ha, ← hH1, Array.getElem?_push_size, arrV_new]
          exact congrArg (fun f => some (arrV _ _ f)) (funext fun j => xval_newI.symm)
      · cases hst
        refine W.newa (atype := .boolean) hC.1 hC.2.1 (hts _ xw_arrZ) rfl hd rfl hn.1 (by show _ * 1 ≤ _; omega) (by rw [xnew_S] at hr1; omega) (by rw [xnew_U] at hr2; omega) (fun cA kA comp f1 f2 f3 => ?_)
        have ecA : cA = G.2.2 2 := Option.some.inj (f1.symm.trans (hC.2.2.2.2.2.1.2.2.1 2 (by decide) (by decide)))
        subst ecA
        generalize hH1 : H.push ({ cls := G.2.2 2, slots := Array.replicate _ (defaultValue (newarray.typeOf .boolean)), vm := .none } : Cell) = H1
        have z1 : H1.size = H.size + 1 + 0 := by rw [← hH1, Array.size_push]
        have o1 : ∀ q : Nat, q < H.size → H1[q]? = H[q]? := fun q hq => by rw [← hH1, Array.getElem?_push, if_neg (Nat.ne_of_lt hq)]
        have ha := xad_sz (b := b) (th := th) hH.1 hH.2.1
        have k1 := kk ls H1 locs (cells + 1) (slots + n.toNatClampNeg) (by rw [xnew_S]; omega) (by rw [xnew_U]; omega) hlo (xHR_new hH z1 o1 (fun a l1 l2 => ?_)) (xS_new hS z1 o1)
        · rw [← ha]
          exact k1
        · have ea : a = xS μ := by omega
          subst ea
          refine xarr_new (by decide) ?_
          rw [ha, ← hH1, Array.getElem?_push_size, arrV_new]
          exact congrArg (fun f => some (arrV _ _ f)) (funext fun j => xval_newI.symm)
      · cases hst
        refine W.newa (atype := .long) hC.1 hC.2.1 (hts _ xw_arrJ) rfl hd rfl hn.1 (by show _ * 8 ≤ _; omega) (by rw [xnew_S] at hr1; omega) (by rw [xnew_U] at hr2; omega) (fun cA kA comp f1 f2 f3 => ?_)
        have ecA : cA = G.2.2 3 := Option.some.inj (f1.symm.trans (hC.2.2.2.2.2.1.2.2.1 3 (by decide) (by decide)))
        subst ecA
        generalize hH1 : H.push ({ cls := G.2.2 3, slots := Array.replicate _ (defaultValue (newarray.typeOf .long)), vm := .none } : Cell) = H1
        have z1 : H1.size = H.size + 1 + 0 := by rw [← hH1, Array.size_push]
        have o1 : ∀ q : Nat, q < H.size → H1[q]? = H[q]? := fun q hq => by rw [← hH1, Array.getElem?_push, if_neg (Nat.ne_of_lt hq)]
        have ha := xad_sz (b := b) (th := th) hH.1 hH.2.1
        have k1 := kk ls H1 locs (cells + 1) (slots + n.toNatClampNeg) (by rw [xnew_S]; omega) (by rw [xnew_U]; omega) hlo (xHR_new hH z1 o1 (fun a l1 l2 => ?_)) (xS_new hS z1 o1)
        · rw [← ha]
          exact k1
        · have ea : a = xS μ := by omega
          subst ea
          refine xarr_new (by decide) ?_
          rw [ha, ← hH1, Array.getElem?_push_size, arrV_new]
          exact congrArg (fun f => some (arrV _ _ f)) (funext fun j => (xval_newL (Nat.le_refl _) (by omega)).symm)
      · cases hst
  · cases hst
theorem xs_anew {t : Nat} {r : Nat × xLo × List Value × xM} (hC : xCtx G b th B L xs hold y p R s m args meth c) (hd : decode (xBy y) pc = .ok (raw, len)) (hln : xlenok raw len = true) (hlo : xLR b th B ls (xMl y) lo) (hH : xHR G b th B L xs hold μ H) (hS : va_S (xA B) s.heap H locs) (hr1 : cells + xS r.2.2.2 ≤ R.cells + xS μ) (hr2 : slots + xU r.2.2.2 ≤ R.slots + xU μ) (hlk : xlink y pc raw (.anewarray t) = true) (hst : xstep (.anewarray t) len pc lo st μ = some r) (kk : xK1 G b th B L xs hold y p l e R s m args below meth c cells slots Q μ r) : W p l e R s m args below meth c H locs cells slots Q (F0 m pc ls (st.map (xcv b th B))) := by
  simp only [xlink] at hlk
  split at hlk
  · rename_i i
    simp only [xstep] at hst
    have e1 : len = 3 := xlenok_1 hln rfl
    subst e1
    split at hst
    · rename_i n st1
      obtain ⟨⟨hn, ht⟩, rfl⟩ := xif hst
      have hts := hC.2.2.2.2.1
      obtain ⟨ci, hm, hAO, hAT⟩ : ∃ ci : Nat, (xOw y, i, ci) ∈ xCLk ∧ va_AO (xCn ci) s ∧ xAT t = .object (xCn ci) := by
        simp only [Bool.or_eq_true, Bool.and_eq_true, decide_eq_true_eq] at hlk
        rcases hlk with ⟨q, h⟩ | ⟨q, h⟩ <;> have q := Nat.eq_of_beq_eq_true q <;> subst q
        · exact ⟨5, h, hC.2.2.2.2.2.1.2.2.2.2.2.1, by decide +kernel⟩
        · exact ⟨6, h, hC.2.2.2.2.2.1.2.2.2.2.2.2.1, by decide +kernel⟩
      have h6 : 1 ≤ t ∧ t ≤ 6 := by omega
      have hRA := hC.2.2.2.2.2.1.2.2.1 t h6.1 h6.2
      rw [hAT] at hRA
      obtain ⟨kA', comp', r1, r2, r3, r4⟩ := hRA
      have hac : xAc t = 2 := by rcases ht with q | q <;> rw [q] <;> rfl
      refine W.anew hC.1 hC.2.1 hC.2.2.2.1 (hts _ (xw_cl hm)) (va_AO.use hAO) rfl hd rfl hn.1 (by omega) (by rw [xnew_S] at hr1; omega) (by rw [xnew_U] at hr2; omega) (fun cA kA comp f1 f2 f3 f4 => ?_)
      have ecA : cA = G.2.2 t := Option.some.inj (f1.symm.trans r4)
      subst ecA
      generalize hH1 : H.push ({ cls := G.2.2 t, slots := Array.replicate _ .null, vm := .none } : Cell) = H1
      have z1 : H1.size = H.size + 1 + 0 := by rw [← hH1, Array.size_push]
      have o1 : ∀ q : Nat, q < H.size → H1[q]? = H[q]? := fun q hq => by rw [← hH1, Array.getElem?_push, if_neg (Nat.ne_of_lt hq)]
      have ha := xad_sz (b := b) (th := th) hH.1 hH.2.1
      have k1 := kk ls H1 locs (cells + 1) (slots + n.toNatClampNeg) (by rw [xnew_S]; omega) (by rw [xnew_U]; omega) hlo (xHR_new hH z1 o1 (fun a l1 l2 => ?_)) (xS_new hS z1 o1)
      · rw [← ha]
        exact k1
      · have ea : a = xS μ := by omega
        subst ea
        refine xarr_new h6.2 ?_
        rw [ha, ← hH1, Array.getElem?_push_size, arrV_new, hac]
        exact congrArg (fun f => some (arrV _ _ f)) (funext fun j => xval_newR.symm)
    · cases hst
  · cases hlk
theorem xs_copy {r : Nat × xLo × List Value × xM} (hC : xCtx G b th B L xs hold y p R s m args meth c) (hd : decode (xBy y) pc = .ok (raw, len)) (hln : xlenok raw len = true) (hlo : xLR b th B ls (xMl y) lo) (hH : xHR G b th B L xs hold μ H) (hS : va_S (xA B) s.heap H locs) (hr1 : cells + xS r.2.2.2 ≤ R.cells + xS μ) (hr2 : slots + xU r.2.2.2 ≤ R.slots + xU μ) (hlk : xlink y pc raw (.monitorenter) = true) (hst : xstep (.monitorenter) len pc lo st μ = some r) (kk : xK1 G b th B L xs hold y p l e R s m args below meth c cells slots Q μ r) : W p l e R s m args below meth c H locs cells slots Q (F0 m pc ls (st.map (xcv b th B))) := by
  simp only [xlink] at hlk
  split at hlk
  · rename_i ii
    have hm := of_decide_eq_true hlk
    have e1 : len = 3 := xlenok_1 hln rfl
    subst e1
    simp only [xstep] at hst
    split at hst
    · rename_i n dp d sp a st1
      obtain ⟨hsum, hst⟩ := xifO hst
      obtain ⟨μ1, hz, rfl⟩ := Option.map_eq_some_iff.mp hst
      obtain ⟨⟨⟨⟨ka, a2⟩, kd, d2⟩, h1, h2, h3, h4, h5⟩, rfl⟩ := xif hz
      have hts := hC.2.2.2.2.1
      have nn : ∀ z : Int32, ¬ z < 0 → z.toInt = (z.toNatClampNeg : Int) := by
        intro z hz
        have hz0 : (0 : Int) ≤ z.toInt := by
          have := Int32.not_lt.mp hz
          simpa using Int32.le_iff_toInt_le.mp this
        show z.toInt = ((z.toInt.toNat : Nat) : Int)
        omega
      have hka : xK μ a = (1, (xK μ a).2) := Prod.ext ka rfl
      have hkd : xK μ d = (1, (xK μ d).2) := Prod.ext kd rfl
      have c0 := xarr hH hka (by decide) (by decide) a2
      have c1 := xarr hH hkd (by decide) (by decide) d2
      obtain ⟨-, k0, hk0, cm0, hkk0⟩ := hC.2.2.2.2.2.1.2.1 1 (by decide) (by decide) (xK μ a).2 (fun j => xval b th B μ a (xAc 1) j)
      obtain ⟨-, k1, hk1, cm1, hkk1⟩ := hC.2.2.2.2.2.1.2.1 1 (by decide) (by decide) (xK μ d).2 (fun j => xval b th B μ d (xAc 1) j)
      intro T hT X
      have hlo2 := hC.2.2.2.2.2.2.2.2.2.2
      obtain ⟨vm', X', step⟩ := X.arraycopy hC.1 hC.2.2.2.1 (hts _ (xw_ac hm)) (hts _ xw_ac1) (hts _ xw_ac2) (hts _ (xw_in (c := 14) (by decide))) (src := xad b th B a) (dst := xad b th B d) (srcPos := sp) (destPos := dp) (n := n) (by rw [hT]; exact c0) (by rw [hT]; exact c1)
        (fun _ h => by cases h) (fun _ h => by cases h) (fun h => by cases h) (fun h => by cases h) hk0 hk1 hkk0 hkk1 rfl h1 h2 h3
        (by rw [nn sp h1, nn n h3, arrV_size]; omega)
        (by rw [nn dp h2, nn n h3, arrV_size]; omega)
        (fun vm₁ _ i hi => by
          have e : (arrV (G.2.2 1) (xK μ a).2 (fun j => xval b th B μ a (xAc 1) j)).slots.getD (sp.toNatClampNeg + i) .null = Value.int (xI μ a (sp.toNatClampNeg + i)) := by
            rw [Array.getD_eq_getD_getElem?, arrV_read _ _ (by omega)]
            rfl
          refine ⟨?_, ?_⟩
          · rw [e]
            rfl
          · rw [e]
            exact trivial)
        (g := F0 m pc ls (.int n :: .int dp :: .ref (xad b th B d) :: .int sp :: .ref (xad b th B a) :: st1.map (xcv b th B))) rfl (by rw [hC.2.2.1]; exact hlo.1) (rest := st1.map (xcv b th B)) rfl (by rw [hC.2.1]; exact hd) hC.2.2.2.2.2.2.2.2.2.1
        (by rw [xcv_sum]; have hw : nativeFrameWords "java/lang/System" "arraycopy" 5 = 7 := by decide +kernel
            rw [hw]; show 2 * 0 + _ + _ ≤ _; omega)
      have e1 : copied (arrV (G.2.2 1) (xK μ a).2 (fun j => xval b th B μ a (xAc 1) j)) (arrV (G.2.2 1) (xK μ d).2 (fun j => xval b th B μ d (xAc 1) j)) sp dp n = arrV (G.2.2 1) (xK μ d).2 (fun j => Value.int (va_cpy (xI μ a) (xI μ d) sp.toNatClampNeg dp.toNatClampNeg n.toNatClampNeg j)) := va_copied (fun z => Value.int z) (G.2.2 1) (G.2.2 1) (xI μ a) (xI μ d) h4
      rw [e1] at X' step
      have hl : xad b th B d < H.size := (Array.getElem?_eq_some_iff.mp c1).1
      generalize hcell : arrV (G.2.2 1) (xK μ d).2 (fun j => Value.int (va_cpy (xI μ a) (xI μ d) sp.toNatClampNeg dp.toNatClampNeg n.toNatClampNeg j)) = cell at X' step
      have hheap : ((T.setVm vm').setCell (xad b th B d) cell).heap = H.setIfInBounds (xad b th B d) cell := by rw [← hT]; rfl
      have oq : ∀ q : Nat, q ≠ xad b th B d → (H.setIfInBounds (xad b th B d) cell)[q]? = H[q]? := fun q hq => by simp [Array.getElem?_setIfInBounds, Ne.symm hq]
      obtain ⟨t, a1, b1⟩ := kk ls _ _ cells slots rfl rfl hlo (xHR_put (a := d) hH d2 (by simp) oq ⟨rfl, rfl⟩ (fun c hc j => if_neg hc) (fun c hc j => rfl) (fun c hc j => rfl) (by
        unfold xcell
        rw [show xK ((μ.1, μ.2.1, μ.2.2.1, (fun c j => if c = d then va_cpy (μ.2.2.2.1 a) (μ.2.2.2.1 d) sp.toNatClampNeg dp.toNatClampNeg n.toNatClampNeg j else μ.2.2.2.1 c j), μ.2.2.2.2)) d = (1, (xK μ d).2) from hkd, if_neg (by show ¬ 10 ≤ 1; decide)]
        rw [Array.getElem?_setIfInBounds, if_pos rfl, if_pos hl, ← hcell]
        refine congrArg (fun f => some (arrV _ _ f)) (funext fun j => ?_)
        show _ = Value.int (if d = d then _ else _)
        rw [if_pos rfl]
        rfl)) ⟨by simp; exact hS.1, fun q g1 g2 => by
          rw [oq q (fun e => g2 (by rw [e]; exact xad_A d2))]
          exact hS.2.1 q g1 g2, fun q hq => by
          rcases List.mem_append.mp hq with h | h
          · exact hS.2.2 q h
          · obtain ⟨z, -, hz⟩ := List.mem_map.mp h
            rw [← hz]
            exact xad_A d2⟩ _ hheap X'
      exact ⟨t, step t a1, b1⟩
    · cases hst
  · cases hlk
theorem xs_copyl {r : Nat × xLo × List Value × xM} (hC : xCtx G b th B L xs hold y p R s m args meth c) (hd : decode (xBy y) pc = .ok (raw, len)) (hln : xlenok raw len = true) (hlo : xLR b th B ls (xMl y) lo) (hH : xHR G b th B L xs hold μ H) (hS : va_S (xA B) s.heap H locs) (hr1 : cells + xS r.2.2.2 ≤ R.cells + xS μ) (hr2 : slots + xU r.2.2.2 ≤ R.slots + xU μ) (hlk : xlink y pc raw (.athrow) = true) (hst : xstep (.athrow) len pc lo st μ = some r) (kk : xK1 G b th B L xs hold y p l e R s m args below meth c cells slots Q μ r) : W p l e R s m args below meth c H locs cells slots Q (F0 m pc ls (st.map (xcv b th B))) := by
  simp only [xlink] at hlk
  split at hlk
  · rename_i ii
    have hm := of_decide_eq_true hlk
    have e1 : len = 3 := xlenok_1 hln rfl
    subst e1
    simp only [xstep] at hst
    split at hst
    · rename_i n dp d sp a st1
      obtain ⟨hsum, hst⟩ := xifO hst
      obtain ⟨μ1, hz, rfl⟩ := Option.map_eq_some_iff.mp hst
      obtain ⟨⟨⟨⟨ka, a2⟩, kd, d2⟩, h1, h2, h3, h4, h5⟩, rfl⟩ := xif hz
      have hts := hC.2.2.2.2.1
      have nn : ∀ z : Int32, ¬ z < 0 → z.toInt = (z.toNatClampNeg : Int) := by
        intro z hz
        have hz0 : (0 : Int) ≤ z.toInt := by
          have := Int32.not_lt.mp hz
          simpa using Int32.le_iff_toInt_le.mp this
        show z.toInt = ((z.toInt.toNat : Nat) : Int)
        omega
      have hka : xK μ a = (3, (xK μ a).2) := Prod.ext ka rfl
      have hkd : xK μ d = (3, (xK μ d).2) := Prod.ext kd rfl
      have c0 := xarr hH hka (by decide) (by decide) a2
      have c1 := xarr hH hkd (by decide) (by decide) d2
      obtain ⟨-, k0, hk0, cm0, hkk0⟩ := hC.2.2.2.2.2.1.2.1 3 (by decide) (by decide) (xK μ a).2 (fun j => xval b th B μ a (xAc 3) j)
      obtain ⟨-, k1, hk1, cm1, hkk1⟩ := hC.2.2.2.2.2.1.2.1 3 (by decide) (by decide) (xK μ d).2 (fun j => xval b th B μ d (xAc 3) j)
      intro T hT X
      have hlo2 := hC.2.2.2.2.2.2.2.2.2.2
      obtain ⟨vm', X', step⟩ := X.arraycopy hC.1 hC.2.2.2.1 (hts _ (xw_ac hm)) (hts _ xw_ac1) (hts _ xw_ac2) (hts _ (xw_in (c := 14) (by decide))) (src := xad b th B a) (dst := xad b th B d) (srcPos := sp) (destPos := dp) (n := n) (by rw [hT]; exact c0) (by rw [hT]; exact c1)
        (fun _ h => by cases h) (fun _ h => by cases h) (fun h => by cases h) (fun h => by cases h) hk0 hk1 hkk0 hkk1 rfl h1 h2 h3
        (by rw [nn sp h1, nn n h3, arrV_size]; omega)
        (by rw [nn dp h2, nn n h3, arrV_size]; omega)
        (fun vm₁ _ i hi => by
          have e : (arrV (G.2.2 3) (xK μ a).2 (fun j => xval b th B μ a (xAc 3) j)).slots.getD (sp.toNatClampNeg + i) .null = Value.long (xL μ a (sp.toNatClampNeg + i)) := by
            rw [Array.getD_eq_getD_getElem?, arrV_read _ _ (by omega)]
            rfl
          refine ⟨?_, ?_⟩
          · rw [e]
            rfl
          · rw [e]
            exact trivial)
        (g := F0 m pc ls (.int n :: .int dp :: .ref (xad b th B d) :: .int sp :: .ref (xad b th B a) :: st1.map (xcv b th B))) rfl (by rw [hC.2.2.1]; exact hlo.1) (rest := st1.map (xcv b th B)) rfl (by rw [hC.2.1]; exact hd) hC.2.2.2.2.2.2.2.2.2.1
        (by rw [xcv_sum]; have hw : nativeFrameWords "java/lang/System" "arraycopy" 5 = 7 := by decide +kernel
            rw [hw]; show 2 * 0 + _ + _ ≤ _; omega)
      have e1 : copied (arrV (G.2.2 3) (xK μ a).2 (fun j => xval b th B μ a (xAc 3) j)) (arrV (G.2.2 3) (xK μ d).2 (fun j => xval b th B μ d (xAc 3) j)) sp dp n = arrV (G.2.2 3) (xK μ d).2 (fun j => Value.long (va_cpy (xL μ a) (xL μ d) sp.toNatClampNeg dp.toNatClampNeg n.toNatClampNeg j)) := va_copied (fun z => Value.long z) (G.2.2 3) (G.2.2 3) (xL μ a) (xL μ d) h4
      rw [e1] at X' step
      have hl : xad b th B d < H.size := (Array.getElem?_eq_some_iff.mp c1).1
      generalize hcell : arrV (G.2.2 3) (xK μ d).2 (fun j => Value.long (va_cpy (xL μ a) (xL μ d) sp.toNatClampNeg dp.toNatClampNeg n.toNatClampNeg j)) = cell at X' step
      have hheap : ((T.setVm vm').setCell (xad b th B d) cell).heap = H.setIfInBounds (xad b th B d) cell := by rw [← hT]; rfl
      have oq : ∀ q : Nat, q ≠ xad b th B d → (H.setIfInBounds (xad b th B d) cell)[q]? = H[q]? := fun q hq => by simp [Array.getElem?_setIfInBounds, Ne.symm hq]
      obtain ⟨t, a1, b1⟩ := kk ls _ _ cells slots rfl rfl hlo (xHR_put (a := d) hH d2 (by simp) oq ⟨rfl, rfl⟩ (fun c hc j => rfl) (fun c hc j => if_neg hc) (fun c hc j => rfl) (by
        unfold xcell
        rw [show xK ((μ.1, μ.2.1, μ.2.2.1, μ.2.2.2.1, (fun c j => if c = d then va_cpy (μ.2.2.2.2 a) (μ.2.2.2.2 d) sp.toNatClampNeg dp.toNatClampNeg n.toNatClampNeg j else μ.2.2.2.2 c j))) d = (3, (xK μ d).2) from hkd, if_neg (by show ¬ 10 ≤ 3; decide)]
        rw [Array.getElem?_setIfInBounds, if_pos rfl, if_pos hl, ← hcell]
        refine congrArg (fun f => some (arrV _ _ f)) (funext fun j => ?_)
        show _ = Value.long (if d = d then _ else _)
        rw [if_pos rfl]
        rfl)) ⟨by simp; exact hS.1, fun q g1 g2 => by
          rw [oq q (fun e => g2 (by rw [e]; exact xad_A d2))]
          exact hS.2.1 q g1 g2, fun q hq => by
          rcases List.mem_append.mp hq with h | h
          · exact hS.2.2 q h
          · obtain ⟨z, -, hz⟩ := List.mem_map.mp h
            rw [← hz]
            exact xad_A d2⟩ _ hheap X'
      exact ⟨t, step t a1, b1⟩
    · cases hst
  · cases hlk
end XN
