/-! the start: class and reference as logs -/
section MADETWO
theorem xnewA_ok2 {μ : xM} {t : Nat} {n : Nat} (hn : n < 60000) : xnewA μ t (nI n) = some (xap1 (oNew t n) μ) := by
  unfold xnewA
  rw [nI_clamp (by omega), if_pos ⟨nI_pos (by omega), by omega⟩]
  rfl
def isR (a k : Nat) : xOp → Bool
  | .inr (.inr (.inl p)) => p.1 == a && p.2.1 == k
  | _ => false
theorem noR_of {l : List xOp} {a k : Nat} (h : l.any (isR a k) = false) : ∀ o ∈ l, ∀ v, o ≠ oRef a k v := by
  intro o ho v e
  subst e
  exact List.any_eq_false.mp h _ ho (by simp [isR, oRef])
theorem split_nth {α : Type} : ∀ (l : List α) (i : Nat) (x : α), l[i]? = some x → l = l.take i ++ x :: l.drop (i + 1)
  | [], i, x, h => by simp at h
  | y :: l, 0, x, h => by
    simp at h
    simp [h]
  | y :: l, i + 1, x, h => by
    have e := split_nth l i x (by simpa using h)
    show y :: l = y :: (l.take i ++ x :: l.drop (i + 1))
    rw [← e]
def isRef (a k v : Nat) : Option xOp → Bool
  | some (.inr (.inr (.inl p))) => p.1 == a && (p.2.1 == k && p.2.2 == v)
  | _ => false
def isNew (t n : Nat) : Option xOp → Bool
  | some (.inl p) => p.1 == t && p.2 == n
  | _ => false
theorem isRef_eq {a k v : Nat} {o : Option xOp} (h : isRef a k v o = true) : o = some (oRef a k v) := by
  rcases o with _ | p | p | ⟨x, y, w⟩ | p
  · cases h
  · cases h
  · cases h
  · simp [isRef] at h
    rw [h.1, h.2.1, h.2.2]
  · cases h
theorem isNew_eq {t n : Nat} {o : Option xOp} (h : isNew t n o = true) : o = some (oNew t n) := by
  rcases o with _ | ⟨x, y⟩ | p | p | p
  · cases h
  · simp [isNew] at h
    rw [h.1, h.2]
  · cases h
  · cases h
  · cases h
theorem xR_at {l : List xOp} (i : Nat) {μ : xM} {a k v : Nat} (ha : a < xS μ) (q : isRef a k v l[i]? = true) (h : (l.drop (i + 1)).any (isR a k) = false) : xR (xap l μ) a k = some v := by
  have e := xR_in (l.take i) (l.drop (i + 1)) (v := v) ha (noR_of h)
  rw [← split_nth l i _ (isRef_eq q)] at e
  exact e
theorem xK_at {l : List xOp} (i : Nat) {μ : xM} {t n a : Nat} (q : isNew t n l[i]? = true) (h : a = xS μ + opsS (l.take i)) : xK (xap l μ) a = (t, n) := by
  have e := xK_in (l.take i) (l.drop (i + 1)) (μ := μ) (t := t) (n := n)
  rw [← split_nth l i _ (isNew_eq q), ← h] at e
  exact e
def opsSt (q s : Nat) : List xOp := [oNew 15 8] ++ opsP s (s + 1) 4 ++ [oRef q 0 s, oNew 1 12, oRef q 1 (s + 5), oNew 3 64, oRef q 4 (s + 6)]
theorem opsP_S (p s m : Nat) : opsS (opsP p s m) = 4 := by simp only [opsP, opsS, opS]
theorem opsSt_S (q s : Nat) : opsS (opsSt q s) = 7 := by
  unfold opsSt
  rw [opsS_app, opsS_app, opsP_S]
  simp only [opsS, opS]
theorem sinit_ok {μ : xM} {q : Nat} (k : xK μ q = (16, 10)) (h2 : 2 ≤ q) (hp : q < xS μ) : fS_init q μ = some (xap (opsSt q (xS μ)) μ) := by
  have kk : ∀ l, xK (xap l μ) q = (16, 10) := fun l => (xK_ap l hp).trans k
  have z : ∀ l, xS (xap l μ) = xS μ + opsS l := fun l => xS_ap l μ
  have st : ∀ l k' v, stFR (xap l μ) q 6 k' v = some (xap (l ++ [oRef q k' v]) μ) := fun l k' v => by
    rw [stFR_ok (ci := 6) (kk l) h2, xap_app]
    rfl
  have nw : ∀ l t n, n < 1000 → xnewA (xap l μ) t (nI n) = some (xap (l ++ [oNew t n]) μ) := fun l t n hn => by
    rw [xnewA_ok hn, xap_app]
    rfl
  have e := pnew_ok (μ := μ) (m := 4) (by omega) (by decide) (by decide)
  unfold fS_init fS_init_0
  rw [gd_k (ci := 6) k, Option.bind_some, show xc 4 = nI 4 from rfl, e, Option.bind_some, st, Option.bind_some, show xc 12 = nI 12 from rfl, nw _ 1 12 (by decide), Option.bind_some, st, Option.bind_some, show xc 64 = nI 64 from rfl, nw _ 3 64 (by decide), Option.bind_some, st, Option.bind_some]
  simp only [z, opsS_app, opsP_S, opsS, opS, Nat.reduceAdd, Nat.add_zero, opsSt, List.append_assoc, List.cons_append, List.nil_append]
theorem tinit_ok {μ : xM} {q : Nat} (k : xK μ q = (17, 2)) (h2 : 2 ≤ q) (hp : q < xS μ) : fT_init q μ = some (xap [oNew 1 24, oRef q 0 (xS μ)] μ) := by
  unfold fT_init fT_init_0
  rw [gd_k (ci := 7) k, show xc 24 = nI 24 from rfl, xnewA_ok (by decide), Option.bind_some, stFR_ok (ci := 7) ((xK_ap1 hp).trans k) h2]
  rfl
theorem binit_ok {μ : xM} {q : Nat} (k : xK μ q = (11, 2)) (h2 : 2 ≤ q) (hp : q < xS μ) : fB_init q μ = some (xap [oNew 1 60, oRef q 0 (xS μ)] μ) := by
  unfold fB_init fB_init_0
  rw [gd_k (ci := 1) k, show xc 60 = nI 60 from rfl, xnewA_ok (by decide), Option.bind_some, stFR_ok (ci := 1) ((xK_ap1 hp).trans k) h2]
  rfl
theorem cinit_ok {μ : xM} {q : Nat} (k : xK μ q = (12, 2)) (h2 : 2 ≤ q) (hp : q < xS μ) : fC_init q μ = some (xap [oNew 1 40, oRef q 0 (xS μ)] μ) := by
  unfold fC_init fC_init_0
  rw [gd_k (ci := 2) k, show xc 40 = nI 40 from rfl, xnewA_ok (by decide), Option.bind_some, stFR_ok (ci := 2) ((xK_ap1 hp).trans k) h2]
  rfl
theorem xnewAA_ok {μ : xM} {n k : Nat} (hn : n < 1000) (hk : k < 1000) : xnewAA μ (nI n) (nI k) = some (xap1 (oRun n k) μ) := by
  unfold xnewAA
  rw [nI_clamp (by omega), nI_clamp (by omega), if_pos ⟨⟨nI_pos (by omega), by omega⟩, nI_pos (by omega), by omega⟩]
  rfl
def opsW (q s : Nat) : List xOp := [oNew 3 64, oRef q 0 s, oRun 6 64, oRef q 1 (s + 1), oRun 8 64, oRef q 2 (s + 8), oNew 3 64, oRef q 3 (s + 17)]
theorem opsW_S (q s : Nat) : opsS (opsW q s) = 18 := by simp only [opsW, opsS, opS]
theorem winit_ok {μ : xM} {q : Nat} (k : xK μ q = (18, 4)) (h2 : 2 ≤ q) (hp : q < xS μ) : fW_init q μ = some (xap (opsW q (xS μ)) μ) := by
  have kk : ∀ l, xK (xap l μ) q = (18, 4) := fun l => (xK_ap l hp).trans k
  have z : ∀ l, xS (xap l μ) = xS μ + opsS l := fun l => xS_ap l μ
  have st : ∀ l k' v, stFR (xap l μ) q 8 k' v = some (xap (l ++ [oRef q k' v]) μ) := fun l k' v => by
    rw [stFR_ok (ci := 8) (kk l) h2, xap_app]
    rfl
  have nw : ∀ l t n, n < 1000 → xnewA (xap l μ) t (nI n) = some (xap (l ++ [oNew t n]) μ) := fun l t n hn => by
    rw [xnewA_ok hn, xap_app]
    rfl
  have nwA : ∀ l n k, n < 1000 → k < 1000 → xnewAA (xap l μ) (nI n) (nI k) = some (xap (l ++ [oRun n k]) μ) := fun l n k hn hk => by
    rw [xnewAA_ok hn hk, xap_app]
    rfl
  have e0 : fW_init q (xap [] μ) = some (xap (opsW q (xS μ)) μ) := by
    unfold fW_init fW_init_0
    rw [gd_k (ci := 8) (kk []), show xc 64 = nI 64 from rfl, show xc 6 = nI 6 from rfl, show xc 8 = nI 8 from rfl]
    rw [nw _ 3 64 (by decide), Option.bind_some, st, Option.bind_some, nwA _ 6 64 (by decide) (by decide), Option.bind_some, st, Option.bind_some, nwA _ 8 64 (by decide) (by decide), Option.bind_some, st, Option.bind_some, nw _ 3 64 (by decide), Option.bind_some, st, Option.bind_some]
    simp only [z, opsS_app, opsS, opS, Nat.reduceAdd, Nat.add_zero, opsW, List.append_assoc, List.cons_append, List.nil_append]
  exact e0
-- sights
def rdS (row j p : Nat) : List xOp := [oNew 16 10] ++ opsSt p (p + 1) ++ [oRef row j p]
theorem rdS_S (row j p : Nat) : opsS (rdS row j p) = 8 := by
  unfold rdS
  rw [opsS_app, opsS_app, opsSt_S]
  simp only [opsS, opS]
theorem rdS_no {row j p v0 f : Nat} (h : v0 < p) (h2 : row ≠ v0) : ∀ o ∈ rdS row j p, ∀ v, o ≠ oRef v0 f v := by
  intro o ho v e
  subst e
  simp [rdS, opsSt, opsP, oRef, oNew] at ho
  omega
theorem rdS_ok {μ : xM} {row j N : Nat} (k : xK μ row = (5, N)) (hr : row < xS μ) (h2 : 2 ≤ row) (hj : j < N) (hN : N < 1000) : ((some (xnew μ (16, 10) (0, 0) 0 10)).bind fun μ2 => (fS_init (xS μ) μ2).bind fun r3 => (stAR r3 row (nI j) (xS μ)).bind fun μ4 => some (.inl ((nI j + xc 1, μ4)))) = (some (.inl (nI (j + 1), xap (rdS row j (xS μ)) μ)) : Option ((Int32 × xM) ⊕ xM)) := by
  have e : fS_init (xS μ) (xnew μ (16, 10) (0, 0) 0 10) = some (xap ([oNew 16 10] ++ opsSt (xS μ) (xS μ + 1)) μ) := sinit_ok (μ := xap1 (oNew 16 10) μ) (q := xS μ) xK_new (by omega) (by rw [s_new]; omega)
  have c := stAR_S (μ := xap ([oNew 16 10] ++ opsSt (xS μ) (xS μ + 1)) μ) (a := row) (v := xS μ) (N := N) (i := j) ((xK_ap _ hr).trans k) (xK_in (μ := μ) (t := 16) (n := 10) [] (opsSt (xS μ) (xS μ + 1))) h2 (by omega) hj hN
  rw [Option.bind_some, e, Option.bind_some, c, Option.bind_some, incZ]
  show some (Sum.inl (nI (j + 1), xap [oRef row j (xS μ)] (xap ([oNew 16 10] ++ opsSt (xS μ) (xS μ + 1)) μ))) = _
  rw [← xap_app]
  rfl
-- the class, from cell 2
def opsX0 : List xOp := [] ++ ([oNew 13 16] ++ opsH 3 4 ++ [oRef 2 0 3]) ++ ([oNew 13 16] ++ opsH 92 93 ++ [oRef 2 1 92]) ++ ([oNew 17 2] ++ [oNew 1 24, oRef 181 0 182] ++ [oRef 2 3 181]) ++ ([oNew 11 2] ++ [oNew 1 60, oRef 183 0 184] ++ [oRef 2 4 183]) ++ ([oNew 12 2] ++ [oNew 1 40, oRef 185 0 186] ++ [oRef 2 5 185]) ++ [oNew 5 10, oRef 2 6 187] ++ ([oNew 15 8] ++ opsP 188 189 12 ++ [oRef 2 7 188]) ++ ([oNew 18 4] ++ opsW 193 194 ++ [oRef 2 8 193]) ++ [oNew 1 7, oRef 2 9 212]
def opsX : List xOp := opsX0 ++ opsRows (rdS 187) 8 10 0 213
theorem xinit2_ok {μ : xM} {q row : Nat} (g : Gd q 6 row 5 10 (10, 10) μ) : xwh (fun s : Int32 × xM => fX_init_L102 q s.1 s.2) (xc 0, μ) = some (xap (opsRows (rdS row) 8 10 0 (xS μ)) μ) := by
  refine rowLoop (rd := rdS row) (w := 8) (N := 10) (fin := some) (fun μ => Gd q 6 row 5 10 (10, 10) μ) (rdS_S row) ?_ ?_ ?_ 10 0 μ _ rfl g (fun _ => rfl)
  · intro j μ hj g
    obtain ⟨g1, g2, g3, g4, g5, g6, g7, g8⟩ := g
    show fX_init_L102 q (nI j) μ = _
    unfold fX_init_L102
    rw [if_neg (show ¬ xc 10 ≤ nI j from nI_ge (b := 10) hj (by decide)), ldFR_k (ci := 0) g6 g7, Option.bind_some]
    exact rdS_ok g8 g5 g2 hj (by decide)
  · intro j μ hj g
    exact g.ap _ (rdS_no g.2.2.2.1 g.2.2.1)
  · intro μ r g e
    cases e
    show fX_init_L102 q (nI 10) μ = _
    unfold fX_init_L102
    rw [if_pos (show xc 10 ≤ nI 10 by decide)]
theorem hnew {ν : xM} {s s1 : Nat} (hs : xS ν = s) (h1 : s1 = s + 1) (h2 : 2 ≤ s) : fH_init s (xap1 (oNew 13 16) ν) = some (xap (opsH s s1) (xap1 (oNew 13 16) ν)) := by
  subst hs
  subst h1
  exact hinit_ok (μ := xap1 (oNew 13 16) ν) xK_new h2 (by rw [s_new]; omega)
theorem tnew {ν : xM} {s s1 : Nat} (hs : xS ν = s) (h1 : s1 = s + 1) (h2 : 2 ≤ s) : fT_init s (xap1 (oNew 17 2) ν) = some (xap [oNew 1 24, oRef s 0 s1] (xap1 (oNew 17 2) ν)) := by
  subst hs
  subst h1
  exact tinit_ok (μ := xap1 (oNew 17 2) ν) xK_new h2 (by rw [s_new]; omega)
theorem bnew {ν : xM} {s s1 : Nat} (hs : xS ν = s) (h1 : s1 = s + 1) (h2 : 2 ≤ s) : fB_init s (xap1 (oNew 11 2) ν) = some (xap [oNew 1 60, oRef s 0 s1] (xap1 (oNew 11 2) ν)) := by
  subst hs
  subst h1
  exact binit_ok (μ := xap1 (oNew 11 2) ν) xK_new h2 (by rw [s_new]; omega)
theorem cnew {ν : xM} {s s1 : Nat} (hs : xS ν = s) (h1 : s1 = s + 1) (h2 : 2 ≤ s) : fC_init s (xap1 (oNew 12 2) ν) = some (xap [oNew 1 40, oRef s 0 s1] (xap1 (oNew 12 2) ν)) := by
  subst hs
  subst h1
  exact cinit_ok (μ := xap1 (oNew 12 2) ν) xK_new h2 (by rw [s_new]; omega)
theorem wnew {ν : xM} {s s1 : Nat} (hs : xS ν = s) (h1 : s1 = s + 1) (h2 : 2 ≤ s) : fW_init s (xap1 (oNew 18 4) ν) = some (xap (opsW s s1) (xap1 (oNew 18 4) ν)) := by
  subst hs
  subst h1
  exact winit_ok (μ := xap1 (oNew 18 4) ν) xK_new h2 (by rw [s_new]; omega)
theorem pnew {ν : xM} {s s1 : Nat} (hs : xS ν = s) (h1 : s1 = s + 1) (h2 : 2 ≤ s) : fP_init s (xc 12) (xap1 (oNew 15 8) ν) = some (xap (opsP s s1 12) (xap1 (oNew 15 8) ν)) := by
  subst hs
  subst h1
  exact pinit_ok (μ := xap1 (oNew 15 8) ν) (m := 12) xK_new h2 (by rw [s_new]; omega) (by decide) (by decide)
/-- an object and its reference in the class's own -/
theorem ostep {μ ν : xM} {l c : List xOp} {s s' t n k : Nat} {fC : Nat → xM → Option xM} {f : xM → Option xM} {r : Option xM} (kX : xK μ 2 = (10, 10)) (h2 : 2 < xS μ) (h : ν = xap l μ) (hs : xS ν = s) (hc : fC s (xap1 (oNew t n) ν) = some (xap c (xap1 (oNew t n) ν))) (hz : s' = s + 1 + opsS c)
    (hf : ∀ ν', ν' = xap (l ++ ([oNew t n] ++ c ++ [oRef 2 k s])) μ → xS ν' = s' → f ν' = r) : ((some (xnew ν (t, n) (0, 0) 0 n)).bind fun μ5 => (fC (xS ν) μ5).bind fun r6 => (stFR r6 2 0 k (xS ν)).bind f) = r := by
  have e : xap (l ++ ([oNew t n] ++ c ++ [oRef 2 k s])) μ = xap1 (oRef 2 k s) (xap c (xap1 (oNew t n) ν)) := by
    rw [h, xap_app, xap_app, xap_app]
    rfl
  have kk : xK (xap c (xap1 (oNew t n) ν)) 2 = (10, 10) := by
    rw [h]
    have e1 : xap c (xap1 (oNew t n) (xap l μ)) = xap (l ++ oNew t n :: c) μ := by
      rw [xap_app]
      rfl
    rw [e1]
    exact (xK_ap _ h2).trans kX
  rw [hs, Option.bind_some]
  show (fC s (xap1 (oNew t n) ν)).bind _ = r
  rw [hc, Option.bind_some, stFR_ok (ci := 0) kk (by decide), Option.bind_some]
  refine hf _ e.symm ?_
  show xS (xap c (xap1 (oNew t n) ν)) = s'
  rw [xS_ap, s_new, hs, hz]
/-- a row and its reference in an object -/
theorem astep {μ ν : xM} {l : List xOp} {a ci N s s' t n k : Nat} {x : Int32} {f : xM → Option xM} {r : Option xM} (kX : xK μ a = (10 + ci, N)) (h2 : 2 ≤ a) (h3 : a < xS μ) (h : ν = xap l μ) (hs : xS ν = s) (hx : x = nI n) (hn : n < 60000) (hz : s' = s + 1)
    (hf : ∀ ν', ν' = xap (l ++ [oNew t n, oRef a k s]) μ → xS ν' = s' → f ν' = r) : ((xnewA ν t x).bind fun μ5 => (stFR μ5 a ci k (xS ν)).bind f) = r := by
  have e : xap (l ++ [oNew t n, oRef a k s]) μ = xap1 (oRef a k s) (xap1 (oNew t n) ν) := by
    rw [h, xap_app]
    rfl
  have kk : xK (xap1 (oNew t n) ν) a = (10 + ci, N) := by
    rw [h]
    exact (xK_ap1 (by rw [xS_ap]; omega)).trans ((xK_ap _ h3).trans kX)
  rw [hs, hx, xnewA_ok2 hn, Option.bind_some, stFR_ok kk h2, Option.bind_some]
  refine hf _ e.symm ?_
  show xS (xap1 (oNew t n) ν) = s'
  rw [s_new, hs, hz]
theorem istep {μ ν : xM} {l : List xOp} {a ci N s k : Nat} {v : Int32} {f : xM → Option xM} {r : Option xM} (kX : xK μ a = (10 + ci, N)) (h2 : 2 ≤ a) (h3 : a < xS μ) (h : ν = xap l μ) (hs : xS ν = s)
    (hf : ∀ ν', ν' = xap (l ++ [oInt a k v]) μ → xS ν' = s → f ν' = r) : ((stF ν a ci k v).bind f) = r := by
  have e : xap (l ++ [oInt a k v]) μ = xsI ν a k v := by
    rw [h, xap_app]
    rfl
  have kk : xK ν a = (10 + ci, N) := by
    rw [h]
    exact (xK_ap _ h3).trans kX
  rw [stF_k k v kk h2, Option.bind_some]
  exact hf _ e.symm hs
theorem xinit_ok {μ : xM} (k : xK μ 2 = (10, 10)) (hs : xS μ = 3) : fX_init 2 μ = some (xap opsX μ) := by
  have kk : ∀ l, xK (xap l μ) 2 = (10, 10) := fun l => (xK_ap l (by omega)).trans k
  have z : ∀ l, xS (xap l μ) = 3 + opsS l := fun l => (xS_ap l μ).trans (by rw [hs])
  have hS0 : opsS opsX0 = 210 := by decide +kernel
  have g : Gd 2 6 187 5 10 (10, 10) (xap opsX0 μ) := ⟨by decide, by decide, by decide, by rw [z]; omega, by rw [z, hS0]; omega, kk _, xR_at 373 (by omega) (by decide +kernel) (by decide +kernel), xK_at 372 (by decide +kernel) (by rw [hs]; decide +kernel)⟩
  have e2 := xinit2_ok g
  rw [z, hS0, ← xap_app] at e2
  unfold fX_init fX_init_0
  rw [gd_k (ci := 0) k]
  refine ostep (μ := μ) (l := []) (s := 3) (s' := 92) (fC := fH_init) k (by omega) rfl hs (hnew hs rfl (by decide)) (by rw [opsH_S]) (fun ν h hs => ?_)
  refine ostep (s' := 181) (fC := fH_init) k (by omega) h hs (hnew hs rfl (by decide)) (by rw [opsH_S]) (fun ν h hs => ?_)
  refine ostep (s' := 183) (fC := fT_init) k (by omega) h hs (tnew hs rfl (by decide)) rfl (fun ν h hs => ?_)
  refine ostep (s' := 185) (fC := fB_init) k (by omega) h hs (bnew hs rfl (by decide)) rfl (fun ν h hs => ?_)
  refine ostep (s' := 187) (fC := fC_init) k (by omega) h hs (cnew hs rfl (by decide)) rfl (fun ν h hs => ?_)
  refine astep (ci := 0) (s' := 188) (n := 10) k (by decide) (by omega) h hs rfl (by decide) rfl (fun ν h hs => ?_)
  refine ostep (s' := 193) (fC := fun q μ => fP_init q (xc 12) μ) k (by omega) h hs (pnew hs rfl (by decide)) (by rw [opsP_S]) (fun ν h hs => ?_)
  refine ostep (s' := 212) (fC := fW_init) k (by omega) h hs (wnew hs rfl (by decide)) (by rw [opsW_S]) (fun ν h hs => ?_)
  refine astep (ci := 0) (s' := 213) (n := 7) k (by decide) (by omega) h hs rfl (by decide) rfl (fun ν h hs => ?_)
  rw [h]
  exact e2
-- the reference, from cell 293
def opsM0 : List xOp := [] ++ [oNew 1 3, oRef 293 0 294] ++ [oNew 2 3, oRef 293 1 295] ++ [oNew 1 40, oRef 293 2 296] ++ [oNew 1 60, oRef 293 4 297] ++ [oNew 1 24, oRef 293 6 298] ++ [oNew 1 16, oRef 293 10 299] ++ [oNew 1 64, oRef 293 11 300] ++ [oNew 1 64, oRef 293 12 301] ++ [oNew 1 64, oRef 293 13 302] ++ [oNew 1 16, oRef 293 14 303] ++ [oNew 1 48, oRef 293 15 304] ++ [oNew 1 6, oRef 293 16 305] ++ [oNew 1 10, oRef 293 17 306] ++ [oNew 1 6, oRef 293 18 307] ++ [oNew 1 6, oRef 293 19 308] ++ [oNew 1 6, oRef 293 20 309] ++ [oNew 1 6, oRef 293 21 310] ++ [oNew 2 6, oRef 293 22 311] ++ [oInt 293 23 (xc 99)] ++ [oInt 293 24 (xc 10)] ++ [oNew 1 7, oRef 293 25 312] ++ [oNew 1 12, oRef 293 30 313] ++ [oNew 1 12, oRef 293 31 314] ++ [oNew 1 12, oRef 293 32 315] ++ [oNew 1 3, oRef 293 34 316] ++ [oNew 1 4, oRef 293 37 317] ++ [oNew 1 7, oRef 293 38 318] ++ [oNew 1 12, oRef 293 41 319] ++ [oNew 1 12, oRef 293 42 320] ++ [oNew 1 4, oRef 293 44 321] ++ [oNew 1 4, oRef 293 45 322] ++ [oNew 1 4, oRef 293 46 323] ++ [oNew 1 3, oRef 293 48 324] ++ [oNew 2 343, oRef 293 50 325] ++ [oNew 1 7, oRef 293 51 326] ++ [oNew 1 300, oRef 293 53 327] ++ [oNew 2 4096, oRef 293 57 328] ++ [oNew 1 4096, oRef 293 58 329] ++ [oNew 2 24576, oRef 293 59 330] ++ [oNew 2 640, oRef 293 60 331] ++ [oNew 1 100, oRef 293 62 332]
def rdM (j p : Nat) : List xOp := [oInt 305 j (xc (-1))]
def opsM : List xOp := opsM0 ++ opsRows rdM 0 6 0 333
theorem minit2_ok {μ : xM} (g : Gd 293 16 305 1 6 (19, 65) μ) : xwh (fun s : Int32 × xM => fM_init_L328 293 s.1 s.2) (xc 0, μ) = some (xap (opsRows rdM 0 6 0 (xS μ)) μ) := by
  refine rowLoop (rd := rdM) (w := 0) (N := 6) (fin := some) (fun μ => Gd 293 16 305 1 6 (19, 65) μ) (fun _ _ => rfl) ?_ ?_ ?_ 6 0 μ _ rfl g (fun _ => rfl)
  · intro j μ hj g
    obtain ⟨g1, g2, g3, g4, g5, g6, g7, g8⟩ := g
    show fM_init_L328 293 (nI j) μ = _
    unfold fM_init_L328
    rw [if_neg (show ¬ xc 6 ≤ nI j from nI_ge (b := 6) hj (by decide)), ldFR_k (ci := 9) g6 g7, Option.bind_some, stA_k _ g8 hj (by decide) (by decide), Option.bind_some, incZ]
    rfl
  · intro j μ hj g
    exact g.ap _ (fun o ho v e => by
      subst e
      simp [rdM, oRef, oInt] at ho)
  · intro μ r g e
    cases e
    show fM_init_L328 293 (nI 6) μ = _
    unfold fM_init_L328
    rw [if_pos (show xc 6 ≤ nI 6 by decide)]
theorem minit_ok {μ : xM} (k : xK μ 293 = (19, 65)) (hs : xS μ = 294) : fM_init 293 μ = some (xap opsM μ) := by
  have kk : ∀ l, xK (xap l μ) 293 = (19, 65) := fun l => (xK_ap l (by omega)).trans k
  have z : ∀ l, xS (xap l μ) = 294 + opsS l := fun l => (xS_ap l μ).trans (by rw [hs])
  have hS0 : opsS opsM0 = 39 := by decide +kernel
  have g : Gd 293 16 305 1 6 (19, 65) (xap opsM0 μ) := ⟨by decide, by decide, by decide, by rw [z]; omega, by rw [z, hS0]; omega, kk _, xR_at 23 (by omega) (by decide +kernel) (by decide +kernel), xK_at 22 (by decide +kernel) (by rw [hs]; decide +kernel)⟩
  have e2 := minit2_ok g
  rw [z, hS0, ← xap_app] at e2
  unfold fM_init fM_init_0
  rw [gd_k (ci := 9) k]
  refine astep (μ := μ) (ν := μ) (l := []) (ci := 9) (s := 294) (s' := 295) (n := 3) k (by decide) (by omega) rfl hs rfl (by decide) rfl (fun ν h hs => ?_)
  refine astep (μ := μ) (ci := 9) (s := 295) (s' := 296) (n := 3) k (by decide) (by omega) h hs rfl (by decide) rfl (fun ν h hs => ?_)
  refine astep (μ := μ) (ci := 9) (s := 296) (s' := 297) (n := 40) k (by decide) (by omega) h hs rfl (by decide) rfl (fun ν h hs => ?_)
  refine astep (μ := μ) (ci := 9) (s := 297) (s' := 298) (n := 60) k (by decide) (by omega) h hs rfl (by decide) rfl (fun ν h hs => ?_)
  refine astep (μ := μ) (ci := 9) (s := 298) (s' := 299) (n := 24) k (by decide) (by omega) h hs rfl (by decide) rfl (fun ν h hs => ?_)
  refine astep (μ := μ) (ci := 9) (s := 299) (s' := 300) (n := 16) k (by decide) (by omega) h hs rfl (by decide) rfl (fun ν h hs => ?_)
  refine astep (μ := μ) (ci := 9) (s := 300) (s' := 301) (n := 64) k (by decide) (by omega) h hs rfl (by decide) rfl (fun ν h hs => ?_)
  refine astep (μ := μ) (ci := 9) (s := 301) (s' := 302) (n := 64) k (by decide) (by omega) h hs rfl (by decide) rfl (fun ν h hs => ?_)
  refine astep (μ := μ) (ci := 9) (s := 302) (s' := 303) (n := 64) k (by decide) (by omega) h hs rfl (by decide) rfl (fun ν h hs => ?_)
  refine astep (μ := μ) (ci := 9) (s := 303) (s' := 304) (n := 16) k (by decide) (by omega) h hs rfl (by decide) rfl (fun ν h hs => ?_)
  refine astep (μ := μ) (ci := 9) (s := 304) (s' := 305) (n := 48) k (by decide) (by omega) h hs rfl (by decide) rfl (fun ν h hs => ?_)
  refine astep (μ := μ) (ci := 9) (s := 305) (s' := 306) (n := 6) k (by decide) (by omega) h hs rfl (by decide) rfl (fun ν h hs => ?_)
  refine astep (μ := μ) (ci := 9) (s := 306) (s' := 307) (n := 10) k (by decide) (by omega) h hs rfl (by decide) rfl (fun ν h hs => ?_)
  refine astep (μ := μ) (ci := 9) (s := 307) (s' := 308) (n := 6) k (by decide) (by omega) h hs rfl (by decide) rfl (fun ν h hs => ?_)
  refine astep (μ := μ) (ci := 9) (s := 308) (s' := 309) (n := 6) k (by decide) (by omega) h hs rfl (by decide) rfl (fun ν h hs => ?_)
  refine astep (μ := μ) (ci := 9) (s := 309) (s' := 310) (n := 6) k (by decide) (by omega) h hs rfl (by decide) rfl (fun ν h hs => ?_)
  refine astep (μ := μ) (ci := 9) (s := 310) (s' := 311) (n := 6) k (by decide) (by omega) h hs rfl (by decide) rfl (fun ν h hs => ?_)
  refine astep (μ := μ) (ci := 9) (s := 311) (s' := 312) (n := 6) k (by decide) (by omega) h hs rfl (by decide) rfl (fun ν h hs => ?_)
  refine istep (μ := μ) (ci := 9) (s := 312) k (by decide) (by omega) h hs (fun ν h hs => ?_)
  refine istep (μ := μ) (ci := 9) (s := 312) k (by decide) (by omega) h hs (fun ν h hs => ?_)
  refine astep (μ := μ) (ci := 9) (s := 312) (s' := 313) (n := 7) k (by decide) (by omega) h hs rfl (by decide) rfl (fun ν h hs => ?_)
  refine astep (μ := μ) (ci := 9) (s := 313) (s' := 314) (n := 12) k (by decide) (by omega) h hs rfl (by decide) rfl (fun ν h hs => ?_)
  refine astep (μ := μ) (ci := 9) (s := 314) (s' := 315) (n := 12) k (by decide) (by omega) h hs rfl (by decide) rfl (fun ν h hs => ?_)
  refine astep (μ := μ) (ci := 9) (s := 315) (s' := 316) (n := 12) k (by decide) (by omega) h hs rfl (by decide) rfl (fun ν h hs => ?_)
  refine astep (μ := μ) (ci := 9) (s := 316) (s' := 317) (n := 3) k (by decide) (by omega) h hs rfl (by decide) rfl (fun ν h hs => ?_)
  refine astep (μ := μ) (ci := 9) (s := 317) (s' := 318) (n := 4) k (by decide) (by omega) h hs rfl (by decide) rfl (fun ν h hs => ?_)
  refine astep (μ := μ) (ci := 9) (s := 318) (s' := 319) (n := 7) k (by decide) (by omega) h hs rfl (by decide) rfl (fun ν h hs => ?_)
  refine astep (μ := μ) (ci := 9) (s := 319) (s' := 320) (n := 12) k (by decide) (by omega) h hs rfl (by decide) rfl (fun ν h hs => ?_)
  refine astep (μ := μ) (ci := 9) (s := 320) (s' := 321) (n := 12) k (by decide) (by omega) h hs rfl (by decide) rfl (fun ν h hs => ?_)
  refine astep (μ := μ) (ci := 9) (s := 321) (s' := 322) (n := 4) k (by decide) (by omega) h hs rfl (by decide) rfl (fun ν h hs => ?_)
  refine astep (μ := μ) (ci := 9) (s := 322) (s' := 323) (n := 4) k (by decide) (by omega) h hs rfl (by decide) rfl (fun ν h hs => ?_)
  refine astep (μ := μ) (ci := 9) (s := 323) (s' := 324) (n := 4) k (by decide) (by omega) h hs rfl (by decide) rfl (fun ν h hs => ?_)
  refine astep (μ := μ) (ci := 9) (s := 324) (s' := 325) (n := 3) k (by decide) (by omega) h hs rfl (by decide) rfl (fun ν h hs => ?_)
  refine astep (μ := μ) (ci := 9) (s := 325) (s' := 326) (n := 343) k (by decide) (by omega) h hs rfl (by decide) rfl (fun ν h hs => ?_)
  refine astep (μ := μ) (ci := 9) (s := 326) (s' := 327) (n := 7) k (by decide) (by omega) h hs rfl (by decide) rfl (fun ν h hs => ?_)
  refine astep (μ := μ) (ci := 9) (s := 327) (s' := 328) (n := 300) k (by decide) (by omega) h hs rfl (by decide) rfl (fun ν h hs => ?_)
  refine astep (μ := μ) (ci := 9) (s := 328) (s' := 329) (n := 4096) k (by decide) (by omega) h hs rfl (by decide) rfl (fun ν h hs => ?_)
  refine astep (μ := μ) (ci := 9) (s := 329) (s' := 330) (n := 4096) k (by decide) (by omega) h hs rfl (by decide) rfl (fun ν h hs => ?_)
  refine astep (μ := μ) (ci := 9) (s := 330) (s' := 331) (n := 24576) k (by decide) (by omega) h hs rfl (by decide) rfl (fun ν h hs => ?_)
  refine astep (μ := μ) (ci := 9) (s := 331) (s' := 332) (n := 640) k (by decide) (by omega) h hs rfl (by decide) rfl (fun ν h hs => ?_)
  refine astep (μ := μ) (ci := 9) (s := 332) (s' := 333) (n := 100) k (by decide) (by omega) h hs rfl (by decide) rfl (fun ν h hs => ?_)
  rw [h]
  exact e2
end MADETWO
