/-! steps that look at the heap or write it -/
theorem xval_int {b th B : Nat} {μ : xM} {a c j : Nat} (h1 : c ≠ 1) (h2 : c ≠ 2) : xval b th B μ a c j = .int (xI μ a j) := by
  unfold xval
  split
  · exact absurd rfl h1
  · exact absurd rfl h2
  · rfl
theorem xobj {G : xG} {b th B L : Nat} {xs : Nat → Int32} {hold : Nat → Int64} {μ : xM} {H : Heap} {a ci : Nat} (h : xHR G b th B L xs hold μ H) (hk : (xK μ a).1 = 10 + ci) :
    2 ≤ a ∧ t_OB (xad b th B a) (G.1 ci) (xN ci) (G.2.1 ci) H (fun j => xval b th B μ a (xFc ci j) j) := by
  have hlt : a < xS μ := xK_lt (by omega)
  obtain ⟨g1, g2, g3, ⟨g4, -⟩, g6, -⟩ := h
  have h2 : 2 ≤ a := by
    match a, hk with
    | 0, hk => rw [g4] at hk; exact absurd hk (by show ¬ 1 = 10 + ci; omega)
    | 1, hk => rw [g6] at hk; exact absurd hk (by show ¬ 3 = 10 + ci; omega)
    | k + 2, _ => omega
  have hx := g3 a h2 hlt
  unfold xcell at hx
  rw [if_pos (by omega), show (xK μ a).1 - 10 = ci by omega] at hx
  exact ⟨h2, hx⟩
theorem xfok_spec {j : Nat} (h : xfok j = true) : j / 10000 < 10 ∧ j / 10000 ≠ 4 ∧ j / 10 % 1000 < xN (j / 10000) ∧ xFc (j / 10000) (j / 10 % 1000) = j % 10 := by
  unfold xfok at h
  simp only [Bool.and_eq_true] at h
  obtain ⟨⟨⟨h1, h2⟩, h3⟩, h4⟩ := h
  refine ⟨Nat.blt_eq.mp h1, fun q => ?_, Nat.blt_eq.mp h3, Nat.eq_of_beq_eq_true h4⟩
  rw [q] at h2
  exact absurd h2 (by decide)
section XH
variable {G : xG} {b th B L : Nat} {xs : Nat → Int32} {hold : Nat → Int64} {y : Nat}
variable {p : Program} {l : Launch} {e : Env} {R : Room} {s : State} {m : MethodId} {args : Array Value} {below : List Frame} {meth : Method} {c : Code} {H : Heap} {locs : List Loc} {cells slots : Nat} {Q : State → Prop}
variable {raw : Instr} {len pc pc' : Nat} {lo lo' : xLo} {st st' : List Value} {μ μ' : xM} {ls : Array Slot}
theorem xgetf {i j a : Nat} {rest : List Value} (hC : xCtx G b th B L xs hold y p R s m args meth c) (hH : xHR G b th B L xs hold μ H) (hf : xfok j = true) (hm : (xOw y, i, j) ∈ xFL) (hk : (xK μ a).1 = 10 + j / 10000) (hd : decode (xBy y) pc = .ok (.getfield i, 3))
    (kk : W p l e R s m args below meth c H locs cells slots Q (F0 m (pc + 3) ls (xval b th B μ a (j % 10) (j / 10 % 1000) :: rest))) : W p l e R s m args below meth c H locs cells slots Q (F0 m pc ls (.ref (xad b th B a) :: rest)) := by
  obtain ⟨f1, f2, f3, f4⟩ := xfok_spec hf
  obtain ⟨-, cell, q1, q2, q3, q4⟩ := xobj hH hk
  obtain ⟨hs, hfc, kC, hkC, hkind⟩ := hC.2.2.2.2.2.1.1 _ f1 f2
  obtain ⟨cf, kf, fi, f, hi, hsl⟩ := hs _ f3
  have hst := (u_facts hfc hkC (u_lays hC.2.2.2.2.1 (xw_lay _ f1 f2) f3) hi).1
  rw [xtd_ok _ f1 _ f3] at hi
  refine W.getf hC.1 hC.2.1 hC.2.2.2.1 (hC.2.2.2.2.1 _ (xw_fl hm)) hi hst q1 (by rw [q3]; exact fun h => by cases h) (v := xval b th B μ a (j % 10) (j / 10 % 1000)) ?_ rfl rfl hd kk
  rw [hsl, q4 _ f3]
  show some (xval b th B μ a (xFc (j / 10000) (j / 10 % 1000)) (j / 10 % 1000)) = _
  rw [f4]
theorem xputf {i j a : Nat} {v : Value} {rest : List Value} (hC : xCtx G b th B L xs hold y p R s m args meth c) (hH : xHR G b th B L xs hold μ H) (hS : va_S (xA B) s.heap H locs) (hf : xfok j = true) (hm : (xOw y, i, j) ∈ xFL) (hfin : (!(xTf (j / 10000) (j / 10 % 1000)).2.2.2 || (decide ((xMn y).name = "<init>") && decide (xOw y = j / 10000))) = true) (hk : (xK μ a).1 = 10 + j / 10000) (hd : decode (xBy y) pc = .ok (.putfield i, 3))
    (hn : narrow (xTy (j / 10000) (j / 10 % 1000)) v = v) (hfit : fits (xTy (j / 10000) (j / 10 % 1000)) v = true)
    (kk : ∀ (H1 : Heap) (locs1 : List Loc), H1.size = H.size → (∀ q : Nat, q ≠ xad b th B a → H1[q]? = H[q]?) → t_OB (xad b th B a) (G.1 (j / 10000)) (xN (j / 10000)) (G.2.1 (j / 10000)) H1 (updV (fun k => xval b th B μ a (xFc (j / 10000) k) k) (j / 10 % 1000) v) → va_S (xA B) s.heap H1 locs1 → W p l e R s m args below meth c H1 locs1 cells slots Q (F0 m (pc + 3) ls rest)) : W p l e R s m args below meth c H locs cells slots Q (F0 m pc ls (v :: .ref (xad b th B a) :: rest)) := by
  obtain ⟨f1, f2, f3, f4⟩ := xfok_spec hf
  obtain ⟨a2, cell, q1, q2, q3, q4⟩ := xobj hH hk
  have hts := hC.2.2.2.2.1
  have hin := xw_lay _ f1 f2
  obtain ⟨hs, hfc, kC, hkC, hkind⟩ := hC.2.2.2.2.2.1.1 _ f1 f2
  have hap : ∀ x z, x < xN (j / 10000) → z < xN (j / 10000) → x ≠ z → (G.2.1 (j / 10000)) x ≠ (G.2.1 (j / 10000)) z := by
    intro x z hx hz hne
    obtain ⟨_, _, _, fa, hia, ea⟩ := hs x hx
    obtain ⟨_, _, _, fb, hib, eb⟩ := hs z hz
    rw [← ea, ← eb]
    refine u_apart (u_lays hts hin hx) (u_lays hts hin hz) hia hib ?_
    rw [(State.fieldFound?_type hia (xty_ok _ f1 x hx)).1, (State.fieldFound?_type hib (xty_ok _ f1 z hz)).1]
    exact xnm _ f1 f2 x hx z hz hne
  obtain ⟨cf, kf, fi, f, hi, hsl⟩ := hs _ f3
  have hst := (u_facts hfc hkC (u_lays hts hin f3) hi).1
  have hi2 := hi
  rw [xtd_ok _ f1 _ f3] at hi2
  have hgo : ∀ (H' : Heap), H'[xad b th B a]? = some (cell.setSlot f.slot v) → H'.size = H.size → (∀ q : Nat, q ≠ xad b th B a → H'[q]? = H[q]?) → W p l e R s m args below meth c H' (locs ++ [⟨xad b th B a, f.slot⟩]) cells slots Q (F0 m (pc + 3) ls rest) := by
    intro H' e1 e2 e3
    rw [hsl] at e1
    exact kk H' _ e2 e3 ⟨_, e1, q2, q3, t_set q4 hap f3 v⟩ (hS.put e2 e3 (xad_A a2))
  have hlay := hts _ (hin _ (u_in_lay f3))
  unfold u_lay at hlay
  by_cases hfi : (xTf (j / 10000) (j / 10 % 1000)).2.2.2 = true
  · rw [if_pos hfi] at hlay
    rw [hfi] at hfin
    simp only [Bool.not_true, Bool.false_or, Bool.and_eq_true, decide_eq_true_eq] at hfin
    have hcf : m.cls = cf := by
      obtain ⟨_, _, c', _, _, _, -, -, hf', -, -, -, hown2, -⟩ := Cond.laysFinal_spec hlay
      have e1 : c' = cf := by have := hi.symm.trans hf'; simp at this; exact this.1.symm
      rw [xtd_ok _ f1 _ f3, ← hfin.2] at hown2
      rw [← e1]; exact Option.some.inj (hC.2.2.2.1.symm.trans hown2)
    exact W.putFinK hC.1 hC.2.1 hC.2.2.2.1 (hts _ (xw_fl hm)) hi2 hst hcf (hC.2.2.2.2.2.2.2.2.1 hfin.1) (by rw [q2]; exact u_fits hfc hkC hkind (Or.inr hlay) hi (xty_ok _ f1 _ f3) hn hfit) q1 q3 (by rw [hsl]; exact k2_hasslot (q4 _ f3)) rfl rfl hd hgo
  · rw [if_neg hfi] at hlay
    exact W.putK hC.1 hC.2.1 (f := f) ⟨hC.2.2.2.1, hts _ (xw_fl hm), ⟨_, _, _, hi2⟩, hst⟩ (by rw [q2]; exact u_store hfc hkC hkind hlay hi (xty_ok _ f1 _ f3) hn hfit) q1 q3 (by rw [hsl]; exact k2_hasslot (q4 _ f3)) rfl rfl hd hgo
/-- an object with one field changed is the cell of the memory with that field changed -/
theorem xobj_put {H1 : Heap} {a ci k : Nat} {v : Value} (hk : xK μ a = xK μ' a) (h0 : (xK μ a).1 = 10 + ci) (h : t_OB (xad b th B a) (G.1 ci) (xN ci) (G.2.1 ci) H1 (updV (fun j => xval b th B μ a (xFc ci j) j) k v)) (hv : ∀ j, j < xN ci → updV (fun j => xval b th B μ a (xFc ci j) j) k v j = xval b th B μ' a (xFc ci j) j) : xcell G b th B μ' H1 a := by
  unfold xcell
  rw [← hk, if_pos (by omega), show (xK μ a).1 - 10 = ci by omega]
  exact h.to hv
end XH
