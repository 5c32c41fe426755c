/-! the steps that look at the heap, write it, or make a cell -/
theorem xif {α : Type} {P : Prop} [Decidable P] {x : α} {z : α} (h : (if P then some x else none) = some z) : P ∧ x = z := by
  by_cases q : P
  · rw [if_pos q] at h
    exact ⟨q, Option.some.inj h⟩
  · rw [if_neg q] at h
    cases h
theorem xifO {α : Type} {P : Prop} [Decidable P] {x : Option α} {z : α} (h : (if P then x else none) = some z) : P ∧ x = some z := by
  by_cases q : P
  · rw [if_pos q] at h
    exact ⟨q, h⟩
  · rw [if_neg q] at h
    cases h
section XA
variable {G : xG} {b th B L : Nat} {xs : Nat → Int32} {hold : Nat → Int64} {y : Nat}
variable {p : Program} {l : Launch} {e : Env} {R : Room} {s : State} {m : MethodId} {args : Array Value} {below : List Frame} {meth : Method} {c : Code} {H : Heap} {locs : List Loc} {cells slots : Nat} {Q : State → Prop}
variable {raw : Instr} {len pc pc' : Nat} {lo lo' : xLo} {st st' : List Value} {μ μ' : xM} {ls : Array Slot}
theorem xrf_val {a j : Nat} {z : Nat} (h : xR μ a j = some z) : xval b th B μ a 2 j = .ref (xad b th B z) := by
  show va_rf ((xR μ a j).map (xad b th B)) = _
  rw [h]
  rfl
theorem xs_getf {j : Nat} {r : Nat × xLo × List Value × xM} (hC : xCtx G b th B L xs hold y p R s m args meth c) (hd : decode (xBy y) pc = .ok (raw, len)) (hln : xlenok raw len = true) (hlo : xLR b th B ls (xMl y) lo) (hH : xHR G b th B L xs hold μ H) (hS : va_S (xA B) s.heap H locs) (hr1 : cells + xS r.2.2.2 ≤ R.cells + xS μ) (hr2 : slots + xU r.2.2.2 ≤ R.slots + xU μ) (hlk : xlink y pc raw (.getfield j) = true) (hst : xstep (.getfield j) len pc lo st μ = some r) (kk : xK1 G b th B L xs hold y p l e R s m args below meth c cells slots Q μ r) : W p l e R s m args below meth c H locs cells slots Q (F0 m pc ls (st.map (xcv b th B))) := by
  simp only [xlink] at hlk
  split at hlk
  · rename_i i
    simp only [Bool.and_eq_true, decide_eq_true_eq] at hlk
    obtain ⟨hm, hf⟩ := hlk
    have e1 : len = 3 := xlenok_1 hln rfl
    subst e1
    simp only [xstep] at hst
    split at hst
    · split at hst
      · rename_i hj
        obtain ⟨z, hz, rfl⟩ := Option.map_eq_some_iff.mp hst
        obtain ⟨hk, rfl⟩ := xif hz
        refine xgetf hC hH hf hm hk hd ?_
        rw [hj]
        exact kk ls H locs cells slots rfl rfl hlo hH hS
      · rename_i hj
        obtain ⟨z, hz, rfl⟩ := Option.map_eq_some_iff.mp hst
        obtain ⟨hk, hz⟩ := xifO hz
        refine xgetf hC hH hf hm hk hd ?_
        rw [hj, xrf_val hz]
        exact kk ls H locs cells slots rfl rfl hlo hH hS
      · rename_i h1 h2
        obtain ⟨z, hz, rfl⟩ := Option.map_eq_some_iff.mp hst
        obtain ⟨hk, rfl⟩ := xif hz
        refine xgetf hC hH hf hm hk hd ?_
        rw [xval_int (fun q => h1 q) (fun q => h2 q)]
        exact kk ls H locs cells slots rfl rfl hlo hH hS
    · cases hst
  · cases hlk
theorem xput_int {j a : Nat} {v : Int32} {H1 : Heap} (hf : xfok j = true) (hj1 : j % 10 ≠ 1) (hj2 : j % 10 ≠ 2) (hk : (xK μ a).1 = 10 + j / 10000) (h : t_OB (xad b th B a) (G.1 (j / 10000)) (xN (j / 10000)) (G.2.1 (j / 10000)) H1 (updV (fun k => xval b th B μ a (xFc (j / 10000) k) k) (j / 10 % 1000) (.int v))) : xcell G b th B (xsI μ a (j / 10 % 1000) v) H1 a := by
  obtain ⟨f1, f2, f3, f4⟩ := xfok_spec hf
  refine xobj_put (μ := μ) rfl hk h (fun q hq => ?_)
  unfold updV
  by_cases e : q = j / 10 % 1000
  · rw [if_pos e, e, xval_int (by rw [f4]; exact hj1) (by rw [f4]; exact hj2), xI_s, if_pos ⟨rfl, rfl⟩]
  · rw [if_neg e]
    unfold xval
    simp only [xI_s, e, and_false, if_false]
    rfl
theorem xput_long {j a : Nat} {v : Int64} {H1 : Heap} (hf : xfok j = true) (hj : j % 10 = 1) (hk : (xK μ a).1 = 10 + j / 10000) (h : t_OB (xad b th B a) (G.1 (j / 10000)) (xN (j / 10000)) (G.2.1 (j / 10000)) H1 (updV (fun k => xval b th B μ a (xFc (j / 10000) k) k) (j / 10 % 1000) (.long v))) : xcell G b th B (xsL μ a (j / 10 % 1000) v) H1 a := by
  obtain ⟨f1, f2, f3, f4⟩ := xfok_spec hf
  refine xobj_put (μ := μ) rfl hk h (fun q hq => ?_)
  unfold updV
  by_cases e : q = j / 10 % 1000
  · rw [if_pos e, e, f4, hj]
    show _ = Value.long (xL (xsL μ a (j / 10 % 1000) v) a (j / 10 % 1000))
    rw [xL_s, if_pos ⟨rfl, rfl⟩]
  · rw [if_neg e]
    unfold xval
    simp only [xL_s, e, and_false, if_false]
    rfl
theorem xput_ref {j a : Nat} {v : Nat} {H1 : Heap} (hf : xfok j = true) (hj : j % 10 = 2) (hk : (xK μ a).1 = 10 + j / 10000) (h : t_OB (xad b th B a) (G.1 (j / 10000)) (xN (j / 10000)) (G.2.1 (j / 10000)) H1 (updV (fun k => xval b th B μ a (xFc (j / 10000) k) k) (j / 10 % 1000) (.ref (xad b th B v)))) : xcell G b th B (xsR μ a (j / 10 % 1000) (some v)) H1 a := by
  obtain ⟨f1, f2, f3, f4⟩ := xfok_spec hf
  refine xobj_put (μ := μ) rfl hk h (fun q hq => ?_)
  unfold updV
  by_cases e : q = j / 10 % 1000
  · rw [if_pos e, e, f4, hj]
    exact (xrf_val (by rw [xR_s, if_pos ⟨rfl, rfl⟩])).symm
  · rw [if_neg e]
    unfold xval
    simp only [xR_s, e, and_false, if_false]
    rfl
theorem xty_0 {j : Nat} (hf : xfok j = true) (hj : j % 10 = 0) : xTy (j / 10000) (j / 10 % 1000) = .int := by
  obtain ⟨-, -, -, f4⟩ := xfok_spec hf
  rw [hj] at f4
  unfold xFc at f4
  split at f4 <;> first | assumption | exact absurd f4 (by decide)
theorem xty_3 {j : Nat} (hf : xfok j = true) (hj : j % 10 = 3) : xTy (j / 10000) (j / 10 % 1000) = .boolean := by
  obtain ⟨-, -, -, f4⟩ := xfok_spec hf
  rw [hj] at f4
  unfold xFc at f4
  split at f4 <;> first | assumption | exact absurd f4 (by decide)
theorem xty_1 {j : Nat} (hf : xfok j = true) (hj : j % 10 = 1) : xTy (j / 10000) (j / 10 % 1000) = .long := by
  obtain ⟨-, -, -, f4⟩ := xfok_spec hf
  rw [hj] at f4
  unfold xFc at f4
  split at f4 <;> first | assumption | exact absurd f4 (by decide)
theorem xty_2 {j : Nat} (hf : xfok j = true) (hj : j % 10 = 2) : (∃ n, xTy (j / 10000) (j / 10 % 1000) = .object n) ∨ ∃ t, xTy (j / 10000) (j / 10 % 1000) = .array t := by
  obtain ⟨f1, -, f3, f4⟩ := xfok_spec hf
  rw [hj] at f4
  have h := xref_ok _ f1 _ f3 f4
  split at h
  · rename_i n q
    exact Or.inl ⟨n, q⟩
  · rename_i t q
    exact Or.inr ⟨t, q⟩
  · cases h
theorem xbool {v : Int32} (h : v = 0 ∨ v = 1) : narrow .boolean (.int v) = .int v ∧ fits .boolean (.int v) = true := by
  rcases h with rfl | rfl <;> exact ⟨by decide, by decide⟩
theorem xS_I (μ : xM) (a k : Nat) (v : Int32) : xS (xsI μ a k v) = xS μ := rfl
theorem xs_putf {j : Nat} {r : Nat × xLo × List Value × xM} (hC : xCtx G b th B L xs hold y p R s m args meth c) (hd : decode (xBy y) pc = .ok (raw, len)) (hln : xlenok raw len = true) (hlo : xLR b th B ls (xMl y) lo) (hH : xHR G b th B L xs hold μ H) (hS : va_S (xA B) s.heap H locs) (hr1 : cells + xS r.2.2.2 ≤ R.cells + xS μ) (hr2 : slots + xU r.2.2.2 ≤ R.slots + xU μ) (hlk : xlink y pc raw (.putfield j) = true) (hst : xstep (.putfield j) len pc lo st μ = some r) (kk : xK1 G b th B L xs hold y p l e R s m args below meth c cells slots Q μ r) : W p l e R s m args below meth c H locs cells slots Q (F0 m pc ls (st.map (xcv b th B))) := by
  simp only [xlink] at hlk
  split at hlk
  · rename_i i
    simp only [Bool.and_eq_true] at hlk
    obtain ⟨⟨hm, hf⟩, hfin⟩ := hlk
    have hm := of_decide_eq_true hm
    have e1 : len = 3 := xlenok_1 hln rfl
    subst e1
    simp only [xstep] at hst
    split at hst
    · split at hst
      · rename_i hj
        obtain ⟨μ1, hz, rfl⟩ := Option.map_eq_some_iff.mp hst
        obtain ⟨hk, rfl⟩ := xif hz
        refine xputf hC hH hS hf hm hfin hk.1 hd (by rw [xty_0 hf hj] <;> rfl) (by rw [xty_0 hf hj] <;> rfl) (fun H1 locs1 z oq hx hS1 => ?_)
        exact kk ls H1 locs1 cells slots rfl rfl hlo (xHR_put hH hk.2 z oq ⟨rfl, rfl⟩ (fun c hc j => by rw [xI_s, if_neg (fun q => hc q.1)]) (fun c hc j => rfl) (fun c hc j => rfl) (xput_int hf (by rw [hj]; decide) (by rw [hj]; decide) hk.1 hx)) hS1
      · rename_i hj
        obtain ⟨μ1, hz, rfl⟩ := Option.map_eq_some_iff.mp hst
        obtain ⟨hk, rfl⟩ := xif hz
        refine xputf hC hH hS hf hm hfin hk.1.1 hd (by rw [xty_3 hf hj]; exact (xbool hk.2).1) (by rw [xty_3 hf hj]; exact (xbool hk.2).2) (fun H1 locs1 z oq hx hS1 => ?_)
        exact kk ls H1 locs1 cells slots rfl rfl hlo (xHR_put hH hk.1.2 z oq ⟨rfl, rfl⟩ (fun c hc j => by rw [xI_s, if_neg (fun q => hc q.1)]) (fun c hc j => rfl) (fun c hc j => rfl) (xput_int hf (by rw [hj]; decide) (by rw [hj]; decide) hk.1.1 hx)) hS1
      · cases hst
    · split at hst
      · rename_i hj
        obtain ⟨μ1, hz, rfl⟩ := Option.map_eq_some_iff.mp hst
        obtain ⟨hk, rfl⟩ := xif hz
        refine xputf hC hH hS hf hm hfin hk.1 hd (by rw [xty_1 hf hj] <;> rfl) (by rw [xty_1 hf hj] <;> rfl) (fun H1 locs1 z oq hx hS1 => ?_)
        exact kk ls H1 locs1 cells slots rfl rfl hlo (xHR_put hH hk.2 z oq ⟨rfl, rfl⟩ (fun c hc j => rfl) (fun c hc j => by rw [xL_s, if_neg (fun q => hc q.1)]) (fun c hc j => rfl) (xput_long hf hj hk.1 hx)) hS1
      · cases hst
    · split at hst
      · rename_i hj
        obtain ⟨μ1, hz, rfl⟩ := Option.map_eq_some_iff.mp hst
        obtain ⟨hk, rfl⟩ := xif hz
        refine xputf hC hH hS hf hm hfin hk.1 hd (by rcases xty_2 hf hj with ⟨n, q⟩ | ⟨t, q⟩ <;> rw [q] <;> rfl) (by rcases xty_2 hf hj with ⟨n, q⟩ | ⟨t, q⟩ <;> rw [q] <;> rfl) (fun H1 locs1 z oq hx hS1 => ?_)
        exact kk ls H1 locs1 cells slots rfl rfl hlo (xHR_put hH hk.2 z oq ⟨rfl, rfl⟩ (fun c hc j => rfl) (fun c hc j => rfl) (fun c hc j => by rw [xR_s, if_neg (fun q => hc q.1)]) (xput_ref hf hj hk.1 hx)) hS1
      · cases hst
    · cases hst
  · cases hlk
theorem xs_iaload {r : Nat × xLo × List Value × xM} (hC : xCtx G b th B L xs hold y p R s m args meth c) (hd : decode (xBy y) pc = .ok (raw, len)) (hln : xlenok raw len = true) (hlo : xLR b th B ls (xMl y) lo) (hH : xHR G b th B L xs hold μ H) (hS : va_S (xA B) s.heap H locs) (hr1 : cells + xS r.2.2.2 ≤ R.cells + xS μ) (hr2 : slots + xU r.2.2.2 ≤ R.slots + xU μ) (hlk : xlink y pc raw (.iaload) = true) (hst : xstep (.iaload) len pc lo st μ = some r) (kk : xK1 G b th B L xs hold y p l e R s m args below meth c cells slots Q μ r) : W p l e R s m args below meth c H locs cells slots Q (F0 m pc ls (st.map (xcv b th B))) := by
  have hr : raw = .iaload := of_decide_eq_true hlk
  subst hr
  have e1 : len = 1 := xlenok_1 hln rfl
  subst e1
  simp only [xstep] at hst
  split at hst
  · rename_i i a st1
    obtain ⟨z, hz, rfl⟩ := Option.map_eq_some_iff.mp hst
    obtain ⟨⟨hk, hin⟩, rfl⟩ := xif hz
    obtain ⟨cell, c1, c2, c3, c4, c5, c6⟩ := xrow hC.2.2.2.2.2.1 hC.2.2.2.2.2.2.1 hS hH (a := a) (t := 1) (n := (xK μ a).2) (Prod.ext hk rfl) (by decide) (by decide)
    have hlt : i.toNatClampNeg < (xK μ a).2 := Nat.not_le.mp fun q => hin (Or.inr q)
    exact W.iald hC.1 hC.2.1 c1 c2 c3 (fun q => hin (q.imp_right (fun z => Nat.le_trans c4 z))) (c6 _ hlt) rfl rfl hd (kk ls H locs cells slots rfl rfl hlo hH hS)
  · cases hst
theorem xs_baload {r : Nat × xLo × List Value × xM} (hC : xCtx G b th B L xs hold y p R s m args meth c) (hd : decode (xBy y) pc = .ok (raw, len)) (hln : xlenok raw len = true) (hlo : xLR b th B ls (xMl y) lo) (hH : xHR G b th B L xs hold μ H) (hS : va_S (xA B) s.heap H locs) (hr1 : cells + xS r.2.2.2 ≤ R.cells + xS μ) (hr2 : slots + xU r.2.2.2 ≤ R.slots + xU μ) (hlk : xlink y pc raw (.baload) = true) (hst : xstep (.baload) len pc lo st μ = some r) (kk : xK1 G b th B L xs hold y p l e R s m args below meth c cells slots Q μ r) : W p l e R s m args below meth c H locs cells slots Q (F0 m pc ls (st.map (xcv b th B))) := by
  have hr : raw = .baload := of_decide_eq_true hlk
  subst hr
  have e1 : len = 1 := xlenok_1 hln rfl
  subst e1
  simp only [xstep] at hst
  split at hst
  · rename_i i a st1
    obtain ⟨z, hz, rfl⟩ := Option.map_eq_some_iff.mp hst
    obtain ⟨⟨hk, hin⟩, rfl⟩ := xif hz
    obtain ⟨cell, c1, c2, c3, c4, c5, c6⟩ := xrow hC.2.2.2.2.2.1 hC.2.2.2.2.2.2.1 hS hH (a := a) (t := 2) (n := (xK μ a).2) (Prod.ext hk rfl) (by decide) (by decide)
    have hlt : i.toNatClampNeg < (xK μ a).2 := Nat.not_le.mp fun q => hin (Or.inr q)
    exact W.zald hC.1 hC.2.1 c1 c2 c3 (fun q => hin (q.imp_right (fun z => Nat.le_trans c4 z))) (c6 _ hlt) rfl rfl hd (kk ls H locs cells slots rfl rfl hlo hH hS)
  · cases hst
theorem xs_laload {r : Nat × xLo × List Value × xM} (hC : xCtx G b th B L xs hold y p R s m args meth c) (hd : decode (xBy y) pc = .ok (raw, len)) (hln : xlenok raw len = true) (hlo : xLR b th B ls (xMl y) lo) (hH : xHR G b th B L xs hold μ H) (hS : va_S (xA B) s.heap H locs) (hr1 : cells + xS r.2.2.2 ≤ R.cells + xS μ) (hr2 : slots + xU r.2.2.2 ≤ R.slots + xU μ) (hlk : xlink y pc raw (.laload) = true) (hst : xstep (.laload) len pc lo st μ = some r) (kk : xK1 G b th B L xs hold y p l e R s m args below meth c cells slots Q μ r) : W p l e R s m args below meth c H locs cells slots Q (F0 m pc ls (st.map (xcv b th B))) := by
  have hr : raw = .laload := of_decide_eq_true hlk
  subst hr
  have e1 : len = 1 := xlenok_1 hln rfl
  subst e1
  simp only [xstep] at hst
  split at hst
  · rename_i i a st1
    obtain ⟨z, hz, rfl⟩ := Option.map_eq_some_iff.mp hst
    obtain ⟨⟨hk, hin⟩, rfl⟩ := xif hz
    obtain ⟨cell, c1, c2, c3, c4, c5, c6⟩ := xrow hC.2.2.2.2.2.1 hC.2.2.2.2.2.2.1 hS hH (a := a) (t := 3) (n := (xK μ a).2) (Prod.ext hk rfl) (by decide) (by decide)
    have hlt : i.toNatClampNeg < (xK μ a).2 := Nat.not_le.mp fun q => hin (Or.inr q)
    exact W.lald hC.1 hC.2.1 c1 c2 c3 (fun q => hin (q.imp_right (fun z => Nat.le_trans c4 z))) (c6 _ hlt) rfl rfl hd (kk ls H locs cells slots rfl rfl hlo hH hS)
  · cases hst
theorem xs_aaload {r : Nat × xLo × List Value × xM} (hC : xCtx G b th B L xs hold y p R s m args meth c) (hd : decode (xBy y) pc = .ok (raw, len)) (hln : xlenok raw len = true) (hlo : xLR b th B ls (xMl y) lo) (hH : xHR G b th B L xs hold μ H) (hS : va_S (xA B) s.heap H locs) (hr1 : cells + xS r.2.2.2 ≤ R.cells + xS μ) (hr2 : slots + xU r.2.2.2 ≤ R.slots + xU μ) (hlk : xlink y pc raw (.aaload) = true) (hst : xstep (.aaload) len pc lo st μ = some r) (kk : xK1 G b th B L xs hold y p l e R s m args below meth c cells slots Q μ r) : W p l e R s m args below meth c H locs cells slots Q (F0 m pc ls (st.map (xcv b th B))) := by
  have hr : raw = .aaload := of_decide_eq_true hlk
  subst hr
  have e1 : len = 1 := xlenok_1 hln rfl
  subst e1
  simp only [xstep] at hst
  split at hst
  · rename_i i a st1
    obtain ⟨z, hz, rfl⟩ := Option.map_eq_some_iff.mp hst
    obtain ⟨⟨hk, hin⟩, hz⟩ := xifO hz
    obtain ⟨cell, c1, c2, c3, c4, c5, c6⟩ := xrow hC.2.2.2.2.2.1 hC.2.2.2.2.2.2.1 hS hH (a := a) (t := (xK μ a).1) (n := (xK μ a).2) rfl (by omega) hk.2
    have hlt : i.toNatClampNeg < (xK μ a).2 := Nat.not_le.mp fun q => hin (Or.inr q)
    have hac : xAc (xK μ a).1 = 2 := by
      rcases (show (xK μ a).1 = 4 ∨ (xK μ a).1 = 5 ∨ (xK μ a).1 = 6 by omega) with q | q | q <;> rw [q] <;> rfl
    have hre : (xAT (xK μ a).1).isReference = true := by
      rcases (show (xK μ a).1 = 4 ∨ (xK μ a).1 = 5 ∨ (xK μ a).1 = 6 by omega) with q | q | q <;> rw [q] <;> rfl
    have c7 := c6 _ hlt
    rw [hac, xrf_val hz] at c7
    exact W.aald hC.1 hC.2.1 c1 c2 hre c3 (fun q => hin (q.imp_right (fun z => Nat.le_trans c4 z))) c7 rfl rfl hd (kk ls H locs cells slots rfl rfl hlo hH hS)
  · cases hst
theorem xs_alen {r : Nat × xLo × List Value × xM} (hC : xCtx G b th B L xs hold y p R s m args meth c) (hd : decode (xBy y) pc = .ok (raw, len)) (hln : xlenok raw len = true) (hlo : xLR b th B ls (xMl y) lo) (hH : xHR G b th B L xs hold μ H) (hS : va_S (xA B) s.heap H locs) (hr1 : cells + xS r.2.2.2 ≤ R.cells + xS μ) (hr2 : slots + xU r.2.2.2 ≤ R.slots + xU μ) (hlk : xlink y pc raw (.arraylength) = true) (hst : xstep (.arraylength) len pc lo st μ = some r) (kk : xK1 G b th B L xs hold y p l e R s m args below meth c cells slots Q μ r) : W p l e R s m args below meth c H locs cells slots Q (F0 m pc ls (st.map (xcv b th B))) := by
  have hr : raw = .arraylength := of_decide_eq_true hlk
  subst hr
  have e1 : len = 1 := xlenok_1 hln rfl
  subst e1
  simp only [xstep] at hst
  split at hst
  · rename_i a st1
    obtain ⟨z, hz, rfl⟩ := Option.map_eq_some_iff.mp hst
    obtain ⟨⟨h1, h6⟩, rfl⟩ := xif hz
    obtain ⟨cell, c1, c2, c3, c4, c5, c6⟩ := xrow hC.2.2.2.2.2.1 hC.2.2.2.2.2.2.1 hS hH (a := a) (t := (xK μ a).1) (n := (xK μ a).2) rfl h1 h6
    exact W.alen hC.1 hC.2.1 c1 c2 c5 rfl rfl hd (kk ls H locs cells slots rfl rfl hlo hH hS)
  · cases hst
theorem xarr {a t n : Nat} (hH : xHR G b th B L xs hold μ H) (hk : xK μ a = (t, n)) (h1 : 1 ≤ t) (h6 : t ≤ 6) (h2 : 2 ≤ a) : H[xad b th B a]? = some (arrV (G.2.2 t) n (fun j => xval b th B μ a (xAc t) j)) := by
  have hlt : a < xS μ := xK_lt (by rw [hk]; exact h1)
  have hx := hH.2.2.1 a h2 hlt
  unfold xcell at hx
  rw [hk, if_neg (by show ¬ 10 ≤ t; omega)] at hx
  exact hx
theorem xarr_put {a t n k : Nat} {v : Value} {H1 : Heap} (hk : xK μ a = (t, n)) (hk2 : xK μ' a = xK μ a) (h6 : t ≤ 6) (h : H1[xad b th B a]? = some ((arrV (G.2.2 t) n (fun j => xval b th B μ a (xAc t) j)).setSlot k v)) (hv : ∀ j, updV (fun j => xval b th B μ a (xAc t) j) k v j = xval b th B μ' a (xAc t) j) : xcell G b th B μ' H1 a := by
  unfold xcell
  rw [hk2, hk, if_neg (by show ¬ 10 ≤ t; omega), h, arrV_store]
  exact congrArg (fun f => some (arrV _ _ f)) (funext hv)
theorem xs_iastore {r : Nat × xLo × List Value × xM} (hC : xCtx G b th B L xs hold y p R s m args meth c) (hd : decode (xBy y) pc = .ok (raw, len)) (hln : xlenok raw len = true) (hlo : xLR b th B ls (xMl y) lo) (hH : xHR G b th B L xs hold μ H) (hS : va_S (xA B) s.heap H locs) (hr1 : cells + xS r.2.2.2 ≤ R.cells + xS μ) (hr2 : slots + xU r.2.2.2 ≤ R.slots + xU μ) (hlk : xlink y pc raw (.iastore) = true) (hst : xstep (.iastore) len pc lo st μ = some r) (kk : xK1 G b th B L xs hold y p l e R s m args below meth c cells slots Q μ r) : W p l e R s m args below meth c H locs cells slots Q (F0 m pc ls (st.map (xcv b th B))) := by
  have hr : raw = .iastore := of_decide_eq_true hlk
  subst hr
  have e1 : len = 1 := xlenok_1 hln rfl
  subst e1
  simp only [xstep] at hst
  split at hst
  · rename_i v i a st1
    obtain ⟨μ1, hz, rfl⟩ := Option.map_eq_some_iff.mp hst
    obtain ⟨hc, rfl⟩ := xif hz
    have hk : xK μ a = (1, (xK μ a).2) := Prod.ext hc.1.1 rfl
    have hx := xarr hH hk (by decide) (by decide) hc.1.2
    refine W.iast hC.1 hC.2.1 hx (hC.2.2.2.2.2.1.2.1 1 (by decide) (by decide) _ _) (fun q => by cases q) (by rw [arrV_size]; exact hc.2) rfl rfl hd (fun H1 e1 z oq => ?_)
    refine kk ls H1 _ cells slots rfl rfl hlo (xHR_put hH hc.1.2 z oq ⟨rfl, rfl⟩ (fun c hc j => by rw [xI_s, if_neg (fun q => hc q.1)]) (fun c hc j => rfl) (fun c hc j => rfl) (xarr_put (μ := μ) hk rfl (by decide) e1 (fun j => ?_))) (hS.put z oq (xad_A hc.1.2))
    unfold updV
    by_cases q : j = i.toNatClampNeg
    · rw [if_pos q, q]
      show _ = Value.int (xI (xsI μ a i.toNatClampNeg v) a i.toNatClampNeg)
      rw [xI_s, if_pos ⟨rfl, rfl⟩]
    · rw [if_neg q]
      unfold xval
      simp only [xI_s, q, and_false, if_false]
      rfl
  · cases hst
theorem xs_bastore {r : Nat × xLo × List Value × xM} (hC : xCtx G b th B L xs hold y p R s m args meth c) (hd : decode (xBy y) pc = .ok (raw, len)) (hln : xlenok raw len = true) (hlo : xLR b th B ls (xMl y) lo) (hH : xHR G b th B L xs hold μ H) (hS : va_S (xA B) s.heap H locs) (hr1 : cells + xS r.2.2.2 ≤ R.cells + xS μ) (hr2 : slots + xU r.2.2.2 ≤ R.slots + xU μ) (hlk : xlink y pc raw (.bastore) = true) (hst : xstep (.bastore) len pc lo st μ = some r) (kk : xK1 G b th B L xs hold y p l e R s m args below meth c cells slots Q μ r) : W p l e R s m args below meth c H locs cells slots Q (F0 m pc ls (st.map (xcv b th B))) := by
  have hr : raw = .bastore := of_decide_eq_true hlk
  subst hr
  have e1 : len = 1 := xlenok_1 hln rfl
  subst e1
  simp only [xstep] at hst
  split at hst
  · rename_i v i a st1
    obtain ⟨μ1, hz, rfl⟩ := Option.map_eq_some_iff.mp hst
    obtain ⟨hc, rfl⟩ := xif hz
    have hk : xK μ a = (2, (xK μ a).2) := Prod.ext hc.1.1.1 rfl
    have hx := xarr hH hk (by decide) (by decide) hc.1.1.2
    refine W.zast hC.1 hC.2.1 hx (hC.2.2.2.2.2.1.2.1 2 (by decide) (by decide) _ _) (fun q => by cases q) (by rw [arrV_size]; exact hc.2) rfl rfl hd (fun H1 e1 z oq => ?_)
    rw [(xbool hc.1.2).1] at e1
    refine kk ls H1 _ cells slots rfl rfl hlo (xHR_put hH hc.1.1.2 z oq ⟨rfl, rfl⟩ (fun c hc j => by rw [xI_s, if_neg (fun q => hc q.1)]) (fun c hc j => rfl) (fun c hc j => rfl) (xarr_put (μ := μ) hk rfl (by decide) e1 (fun j => ?_))) (hS.put z oq (xad_A hc.1.1.2))
    unfold updV
    by_cases q : j = i.toNatClampNeg
    · rw [if_pos q, q]
      show _ = Value.int (xI (xsI μ a i.toNatClampNeg v) a i.toNatClampNeg)
      rw [xI_s, if_pos ⟨rfl, rfl⟩]
    · rw [if_neg q]
      unfold xval
      simp only [xI_s, q, and_false, if_false]
      rfl
  · cases hst
theorem xs_lastore {r : Nat × xLo × List Value × xM} (hC : xCtx G b th B L xs hold y p R s m args meth c) (hd : decode (xBy y) pc = .ok (raw, len)) (hln : xlenok raw len = true) (hlo : xLR b th B ls (xMl y) lo) (hH : xHR G b th B L xs hold μ H) (hS : va_S (xA B) s.heap H locs) (hr1 : cells + xS r.2.2.2 ≤ R.cells + xS μ) (hr2 : slots + xU r.2.2.2 ≤ R.slots + xU μ) (hlk : xlink y pc raw (.lastore) = true) (hst : xstep (.lastore) len pc lo st μ = some r) (kk : xK1 G b th B L xs hold y p l e R s m args below meth c cells slots Q μ r) : W p l e R s m args below meth c H locs cells slots Q (F0 m pc ls (st.map (xcv b th B))) := by
  have hr : raw = .lastore := of_decide_eq_true hlk
  subst hr
  have e1 : len = 1 := xlenok_1 hln rfl
  subst e1
  simp only [xstep] at hst
  split at hst
  · rename_i v i a st1
    obtain ⟨μ1, hz, rfl⟩ := Option.map_eq_some_iff.mp hst
    obtain ⟨hc, rfl⟩ := xif hz
    have hk : xK μ a = (3, (xK μ a).2) := Prod.ext hc.1.1 rfl
    have hx := xarr hH hk (by decide) (by decide) hc.1.2
    refine W.last hC.1 hC.2.1 hx (hC.2.2.2.2.2.1.2.1 3 (by decide) (by decide) _ _) (fun q => by cases q) (by rw [arrV_size]; exact hc.2) rfl rfl hd (fun H1 e1 z oq => ?_)
    refine kk ls H1 _ cells slots rfl rfl hlo (xHR_put hH hc.1.2 z oq ⟨rfl, rfl⟩ (fun c hc j => rfl) (fun c hc j => by rw [xL_s, if_neg (fun q => hc q.1)]) (fun c hc j => rfl) (xarr_put (μ := μ) hk rfl (by decide) e1 (fun j => ?_))) (hS.put z oq (xad_A hc.1.2))
    unfold updV
    by_cases q : j = i.toNatClampNeg
    · rw [if_pos q, q]
      show _ = Value.long (xL (xsL μ a i.toNatClampNeg v) a i.toNatClampNeg)
      rw [xL_s, if_pos ⟨rfl, rfl⟩]
    · rw [if_neg q]
      unfold xval
      simp only [xL_s, q, and_false, if_false]
      rfl
  · cases hst
theorem xs_aastore {r : Nat × xLo × List Value × xM} (hC : xCtx G b th B L xs hold y p R s m args meth c) (hd : decode (xBy y) pc = .ok (raw, len)) (hln : xlenok raw len = true) (hlo : xLR b th B ls (xMl y) lo) (hH : xHR G b th B L xs hold μ H) (hS : va_S (xA B) s.heap H locs) (hr1 : cells + xS r.2.2.2 ≤ R.cells + xS μ) (hr2 : slots + xU r.2.2.2 ≤ R.slots + xU μ) (hlk : xlink y pc raw (.aastore) = true) (hst : xstep (.aastore) len pc lo st μ = some r) (kk : xK1 G b th B L xs hold y p l e R s m args below meth c cells slots Q μ r) : W p l e R s m args below meth c H locs cells slots Q (F0 m pc ls (st.map (xcv b th B))) := by
  have hr : raw = .aastore := of_decide_eq_true hlk
  subst hr
  have e1 : len = 1 := xlenok_1 hln rfl
  subst e1
  simp only [xstep] at hst
  split at hst
  · rename_i v i a st1
    obtain ⟨μ1, hz, rfl⟩ := Option.map_eq_some_iff.mp hst
    obtain ⟨⟨⟨hc, a2, v2⟩, hin⟩, rfl⟩ := xif hz
    obtain ⟨t, ci, hcase, ht, hv, hci, h4, hAT⟩ : ∃ t ci : Nat, (t = 4 ∨ t = 5) ∧ (xK μ a).1 = t ∧ (xK μ v).1 = 10 + ci ∧ ci < 10 ∧ ci ≠ 4 ∧ xAT t = .object (xCn ci) := by
      rcases hc with ⟨h1, h2⟩ | ⟨h1, h2⟩
      · exact ⟨4, 5, Or.inl rfl, h1, h2, by decide, by decide, by decide +kernel⟩
      · exact ⟨5, 6, Or.inr rfl, h1, h2, by decide, by decide, by decide +kernel⟩
    have hk : xK μ a = (t, (xK μ a).2) := Prod.ext ht rfl
    have hx := xarr hH hk (by omega) (by omega) a2
    obtain ⟨-, cv, q1, q2, q3, q4⟩ := xobj hH hv
    obtain ⟨-, hfc, kC, hkC, -⟩ := hC.2.2.2.2.2.1.1 ci hci h4
    have hRA := hC.2.2.2.2.2.1.2.2.1 t (by omega) (by omega)
    rw [hAT] at hRA
    obtain ⟨kA, comp, r1, r2, r3, r4⟩ := hRA
    have hcomp : comp = G.1 ci := Option.some.inj (r3.symm.trans hfc)
    subst hcomp
    have hac : xAc t = 2 := by rcases hcase with q | q <;> rw [q] <;> rfl
    refine W.aast hC.1 hC.2.1 hx (fun q h => by cases h) (fun q => by cases q) r1 r2 rfl hkC ⟨fun q => hin (Or.inl q), by rw [arrV_size]; exact Nat.not_le.mp fun q => hin (Or.inr q)⟩ q1 (fun q h => by rw [q3] at h; cases h) (by rw [q2]; exact hkC) (by rw [q2]; exact va_asg _ _) rfl rfl hd (fun H1 e1 z oq => ?_)
    refine kk ls H1 _ cells slots rfl rfl hlo (xHR_put hH a2 z oq ⟨rfl, rfl⟩ (fun c hc j => rfl) (fun c hc j => rfl) (fun c hc j => by rw [xR_s, if_neg (fun q => hc q.1)]) (xarr_put (μ := μ) hk rfl (by omega) e1 (fun j => ?_))) (hS.put z oq (xad_A a2))
    rw [hac]
    unfold updV
    by_cases q : j = i.toNatClampNeg
    · rw [if_pos q, q]
      exact (xrf_val (by rw [xR_s, if_pos ⟨rfl, rfl⟩])).symm
    · rw [if_neg q]
      unfold xval
      simp only [xR_s, q, and_false, if_false]
  · cases hst
theorem xs_gets {j : Nat} {r : Nat × xLo × List Value × xM} (hC : xCtx G b th B L xs hold y p R s m args meth c) (hd : decode (xBy y) pc = .ok (raw, len)) (hln : xlenok raw len = true) (hlo : xLR b th B ls (xMl y) lo) (hH : xHR G b th B L xs hold μ H) (hS : va_S (xA B) s.heap H locs) (hr1 : cells + xS r.2.2.2 ≤ R.cells + xS μ) (hr2 : slots + xU r.2.2.2 ≤ R.slots + xU μ) (hlk : xlink y pc raw (.getstatic j) = true) (hst : xstep (.getstatic j) len pc lo st μ = some r) (kk : xK1 G b th B L xs hold y p l e R s m args below meth c cells slots Q μ r) : W p l e R s m args below meth c H locs cells slots Q (F0 m pc ls (st.map (xcv b th B))) := by
  simp only [xlink] at hlk
  split at hlk
  · have hm := of_decide_eq_true hlk
    have e1 : len = 3 := xlenok_1 hln rfl
    subst e1
    simp only [xstep] at hst
    cases hst
    exact va_getsN hC.1 hC.2.1 hC.2.2.2.2.2.2.1.2.2.1 hS hC.2.2.2.1 (va_Nw.use rfl (hC.2.2.2.2.2.1.2.2.2.2.1 _ (xw_hl hm))) (fun _ h => h) hd (kk ls H locs cells slots rfl rfl hlo hH hS)
  · cases hlk
theorem xs_objinit {r : Nat × xLo × List Value × xM} (hC : xCtx G b th B L xs hold y p R s m args meth c) (hd : decode (xBy y) pc = .ok (raw, len)) (hln : xlenok raw len = true) (hlo : xLR b th B ls (xMl y) lo) (hH : xHR G b th B L xs hold μ H) (hS : va_S (xA B) s.heap H locs) (hr1 : cells + xS r.2.2.2 ≤ R.cells + xS μ) (hr2 : slots + xU r.2.2.2 ≤ R.slots + xU μ) (hlk : xlink y pc raw (.monitorexit) = true) (hst : xstep (.monitorexit) len pc lo st μ = some r) (kk : xK1 G b th B L xs hold y p l e R s m args below meth c cells slots Q μ r) : W p l e R s m args below meth c H locs cells slots Q (F0 m pc ls (st.map (xcv b th B))) := by
  simp only [xlink] at hlk
  split at hlk
  · have hm := of_decide_eq_true hlk
    have e1 : len = 3 := xlenok_1 hln rfl
    subst e1
    simp only [xstep] at hst
    split at hst
    · obtain ⟨hsum, rfl⟩ := xif hst
      have hts := hC.2.2.2.2.1
      refine W.objInit hC.1 hC.2.1 hC.2.2.2.1 (hts _ (xw_oi hm)) (hts _ xw_obj1) (hts _ xw_obj2) rfl (by show ls.size = _; rw [hlo.1, hC.2.2.1]) rfl hd hC.2.2.2.2.2.2.2.2.2.1 ?_ (kk ls H locs cells slots rfl rfl hlo hH hS)
      rw [xcv_sum]
      show 2 * 0 + _ + 12 ≤ _
      have := hC.2.2.2.2.2.2.2.2.2.2
      omega
    · cases hst
  · cases hlk
theorem xs_mmax {r : Nat × xLo × List Value × xM} (hC : xCtx G b th B L xs hold y p R s m args meth c) (hd : decode (xBy y) pc = .ok (raw, len)) (hln : xlenok raw len = true) (hlo : xLR b th B ls (xMl y) lo) (hH : xHR G b th B L xs hold μ H) (hS : va_S (xA B) s.heap H locs) (hr1 : cells + xS r.2.2.2 ≤ R.cells + xS μ) (hr2 : slots + xU r.2.2.2 ≤ R.slots + xU μ) (hlk : xlink y pc raw (.fadd) = true) (hst : xstep (.fadd) len pc lo st μ = some r) (kk : xK1 G b th B L xs hold y p l e R s m args below meth c cells slots Q μ r) : W p l e R s m args below meth c H locs cells slots Q (F0 m pc ls (st.map (xcv b th B))) := by
  simp only [xlink] at hlk
  split at hlk
  · have hm := of_decide_eq_true hlk
    have e1 : len = 3 := xlenok_1 hln rfl
    subst e1
    simp only [xstep] at hst
    split at hst
    · obtain ⟨hsum, rfl⟩ := xif hst
      have hts := hC.2.2.2.2.1
      refine va_mmax hC.1 hC.2.1 (by rw [hC.2.2.1, hlo.1]) hC.2.2.2.1 (hts _ (xw_ml hm)) (hts _ xw_mathmax1) (hts _ (xw_in (c := 13) (by decide))) (hts _ xw_mathmax2) hC.2.2.2.2.2.2.2.2.2.1 ?_ ?_ ?_ hd (kk ls H locs cells slots rfl rfl hlo hH hS)
      · rw [xcv_sum]
        have := hC.2.2.2.2.2.2.2.2.2.2
        omega
      · exact Nat.le_of_add_le_add_right hr1
      · exact Nat.le_of_add_le_add_right hr2
    · cases hst
  · cases hlk
theorem xs_mmin {r : Nat × xLo × List Value × xM} (hC : xCtx G b th B L xs hold y p R s m args meth c) (hd : decode (xBy y) pc = .ok (raw, len)) (hln : xlenok raw len = true) (hlo : xLR b th B ls (xMl y) lo) (hH : xHR G b th B L xs hold μ H) (hS : va_S (xA B) s.heap H locs) (hr1 : cells + xS r.2.2.2 ≤ R.cells + xS μ) (hr2 : slots + xU r.2.2.2 ≤ R.slots + xU μ) (hlk : xlink y pc raw (.fsub) = true) (hst : xstep (.fsub) len pc lo st μ = some r) (kk : xK1 G b th B L xs hold y p l e R s m args below meth c cells slots Q μ r) : W p l e R s m args below meth c H locs cells slots Q (F0 m pc ls (st.map (xcv b th B))) := by
  simp only [xlink] at hlk
  split at hlk
  · have hm := of_decide_eq_true hlk
    have e1 : len = 3 := xlenok_1 hln rfl
    subst e1
    simp only [xstep] at hst
    split at hst
    · obtain ⟨hsum, rfl⟩ := xif hst
      have hts := hC.2.2.2.2.1
      refine va_mmin hC.1 hC.2.1 (by rw [hC.2.2.1, hlo.1]) hC.2.2.2.1 (hts _ (xw_ml hm)) (hts _ xw_mathmin1) (hts _ (xw_in (c := 13) (by decide))) (hts _ xw_mathmin2) hC.2.2.2.2.2.2.2.2.2.1 ?_ ?_ ?_ hd (kk ls H locs cells slots rfl rfl hlo hH hS)
      · rw [xcv_sum]
        have := hC.2.2.2.2.2.2.2.2.2.2
        omega
      · exact Nat.le_of_add_le_add_right hr1
      · exact Nat.le_of_add_le_add_right hr2
    · cases hst
  · cases hlk
end XA
