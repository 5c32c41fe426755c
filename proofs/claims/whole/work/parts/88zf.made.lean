/-! the start: constructors as logs -/
section MADE
theorem incZ (i : Nat) : nI i + xc 1 = nI (i + 1) := nI_add i 1
theorem opsS_app : ∀ (l m : List xOp), opsS (l ++ m) = opsS l + opsS m
  | [], m => (Nat.zero_add _).symm
  | o :: l, m => by
    show opS o + opsS (l ++ m) = opS o + opsS l + opsS m
    rw [opsS_app l m, Nat.add_assoc]
theorem s_new {t n : Nat} {μ : xM} : xS (xap1 (oNew t n) μ) = xS μ + 1 := rfl
theorem xR_ap1 {o : xOp} {μ : xM} {a k : Nat} (h : a < xS μ) (n : ∀ v, o ≠ oRef a k v) : xR (xap1 o μ) a k = xR μ a k := by
  have h' : a < μ.1.1 := h
  rcases o with p | p | p | p
  · show (if a = μ.1.1 then (if k < 0 then some (μ.1.1 + 1 + k) else none) else if μ.1.1 < a ∧ a ≤ μ.1.1 + 0 then none else μ.2.2.1 a k) = _
    rw [if_neg (by omega), if_neg (by omega)]
    rfl
  · show (if a = μ.1.1 then (if k < p.1 then some (μ.1.1 + 1 + k) else none) else if μ.1.1 < a ∧ a ≤ μ.1.1 + p.1 then none else μ.2.2.1 a k) = _
    rw [if_neg (by omega), if_neg (by omega)]
    rfl
  · refine if_neg (fun q => n p.2.2 ?_)
    obtain ⟨rfl, rfl⟩ := q
    rfl
  · rfl
theorem xR_ap : ∀ (l : List xOp) {μ : xM} {a k : Nat}, a < xS μ → (∀ o ∈ l, ∀ v, o ≠ oRef a k v) → xR (xap l μ) a k = xR μ a k
  | [], _, _, _, _, _ => rfl
  | o :: l, μ, a, k, h, n => (xR_ap l (by rw [xS_ap1]; omega) (fun o' ho => n o' (List.mem_cons_of_mem _ ho))).trans (xR_ap1 h (n o List.mem_cons_self))
theorem xR_in (l1 l2 : List xOp) {μ : xM} {a k v : Nat} (ha : a < xS μ) (n : ∀ o ∈ l2, ∀ v, o ≠ oRef a k v) : xR (xap (l1 ++ oRef a k v :: l2) μ) a k = some v := by
  rw [xap_app]
  show xR (xap l2 (xap1 (oRef a k v) (xap l1 μ))) a k = _
  rw [xR_ap l2 (by rw [xS_ap1, xS_ap]; omega) n]
  exact if_pos ⟨rfl, rfl⟩
theorem xK_in (l1 l2 : List xOp) {μ : xM} {t n : Nat} : xK (xap (l1 ++ oNew t n :: l2) μ) (xS μ + opsS l1) = (t, n) := by
  rw [xap_app]
  show xK (xap l2 (xap1 (oNew t n) (xap l1 μ))) _ = _
  rw [← xS_ap, xK_ap l2 (by rw [s_new]; omega), xK_new]
theorem stAR_P {μ : xM} {a v N i : Nat} (ka : xK μ a = (4, N)) (kv : xK μ v = (15, 8)) (ha : 2 ≤ a) (hv : 2 ≤ v) (hi : i < N) (hN : N < 1000) : stAR μ a (nI i) v = some (xap1 (oRef a i v) μ) := by
  unfold stAR
  rw [ka, kv, nI_clamp (by omega), if_pos ⟨⟨Or.inl ⟨rfl, rfl⟩, ha, hv⟩, fun q => by rcases q with q | q; exact nI_pos (by omega) q; exact absurd hi (Nat.not_lt.mpr q)⟩]
  rfl
theorem stAR_S {μ : xM} {a v N i : Nat} (ka : xK μ a = (5, N)) (kv : xK μ v = (16, 10)) (ha : 2 ≤ a) (hv : 2 ≤ v) (hi : i < N) (hN : N < 1000) : stAR μ a (nI i) v = some (xap1 (oRef a i v) μ) := by
  unfold stAR
  rw [ka, kv, nI_clamp (by omega), if_pos ⟨⟨Or.inr ⟨rfl, rfl⟩, ha, hv⟩, fun q => by rcases q with q | q; exact nI_pos (by omega) q; exact absurd hi (Nat.not_lt.mpr q)⟩]
  rfl
/-- rows filled round by round: w cells a round -/
def opsRows (rd : Nat → Nat → List xOp) (w : Nat) : Nat → Nat → Nat → List xOp
  | 0, _, _ => []
  | n + 1, j, p => rd j p ++ opsRows rd w n (j + 1) (p + w)
theorem rowLoop {body : Int32 × xM → Option ((Int32 × xM) ⊕ xM)} {fin : xM → Option xM} {rd : Nat → Nat → List xOp} {w N : Nat} (G : xM → Prop) (hS : ∀ j p, opsS (rd j p) = w)
    (hb : ∀ j μ, j < N → G μ → body (nI j, μ) = some (.inl (nI (j + 1), xap (rd j (xS μ)) μ)))
    (hg : ∀ j μ, j < N → G μ → G (xap (rd j (xS μ)) μ))
    (he : ∀ μ r, G μ → fin μ = some r → body (nI N, μ) = some (.inr r)) :
    ∀ n j μ r, j + n = N → G μ → (G (xap (opsRows rd w n j (xS μ)) μ) → fin (xap (opsRows rd w n j (xS μ)) μ) = some r) → xwh body (nI j, μ) = some r
  | 0, j, μ, r, h, g, e => by
    have q : j = N := h
    rw [q]
    exact xwh_stop (he μ r g (e g))
  | n + 1, j, μ, r, h, g, e => by
    refine xwh_go (hb j μ (by omega) g) (rowLoop G hS hb hg he n (j + 1) (xap (rd j (xS μ)) μ) r (by omega) (hg j μ (by omega) g) ?_)
    rw [xS_ap, hS, ← xap_app]
    exact e
theorem opsRows_S {rd : Nat → Nat → List xOp} {w : Nat} (hS : ∀ j p, opsS (rd j p) = w) : ∀ n j p, opsS (opsRows rd w n j p) = n * w
  | 0, _, _ => (Nat.zero_mul _).symm
  | n + 1, j, p => by
    show opsS (rd j p ++ opsRows rd w n (j + 1) (p + w)) = _
    rw [opsS_app, hS, opsRows_S hS n, Nat.succ_mul, Nat.add_comm]
/-- an object's row stands ready -/
def Gd (v0 f row t N : Nat) (κ : Nat × Nat) (μ : xM) : Prop := 2 ≤ v0 ∧ 2 ≤ row ∧ row ≠ v0 ∧ v0 < xS μ ∧ row < xS μ ∧ xK μ v0 = κ ∧ xR μ v0 f = some row ∧ xK μ row = (t, N)
theorem Gd.ap {v0 f row t N : Nat} {κ : Nat × Nat} {μ : xM} (g : Gd v0 f row t N κ μ) (l : List xOp) (n : ∀ o ∈ l, ∀ v, o ≠ oRef v0 f v) : Gd v0 f row t N κ (xap l μ) := by
  obtain ⟨g1, g2, g3, g4, g5, g6, g7, g8⟩ := g
  exact ⟨g1, g2, g3, by rw [xS_ap]; omega, by rw [xS_ap]; omega, (xK_ap l g4).trans g6, (xR_ap l g4 n).trans g7, (xK_ap l g5).trans g8⟩
/-- a new picture -/
theorem pnew_ok {μ : xM} {m : Nat} (h2 : 2 ≤ xS μ) (m1 : 1 ≤ m) (m2 : m ≤ 12) : fP_init (xS μ) (nI m) (xnew μ (15, 8) (0, 0) 0 8) = some (xap ([oNew 15 8] ++ opsP (xS μ) (xS μ + 1) m) μ) :=
  pinit_ok (μ := xap1 (oNew 15 8) μ) (p := xS μ) (m := m) xK_new h2 (by rw [s_new]; omega) m1 m2
def rdP (row j p : Nat) : List xOp := [oNew 15 8] ++ opsP p (p + 1) 4 ++ [oRef row j p]
theorem rdP_S (row j p : Nat) : opsS (rdP row j p) = 5 := rfl
theorem rdP_no {row j p v0 f : Nat} (h : v0 < p) (h2 : row ≠ v0) : ∀ o ∈ rdP row j p, ∀ v, o ≠ oRef v0 f v := by
  intro o ho v e
  subst e
  simp [rdP, opsP, oRef, oNew] at ho
  omega
theorem rdP_ok {μ : xM} {row j N : Nat} (k : xK μ row = (4, N)) (hr : row < xS μ) (h2 : 2 ≤ row) (hj : j < N) (hN : N < 1000) : ((some (xnew μ (15, 8) (0, 0) 0 8)).bind fun μ2 => (fP_init (xS μ) (xc 4) μ2).bind fun r3 => (stAR r3 row (nI j) (xS μ)).bind fun μ4 => some (.inl ((nI j + xc 1, μ4)))) = (some (.inl (nI (j + 1), xap (rdP row j (xS μ)) μ)) : Option ((Int32 × xM) ⊕ xM)) := by
  have e := pnew_ok (μ := μ) (m := 4) (by omega) (by decide) (by decide)
  have c := stAR_P (μ := xap ([oNew 15 8] ++ opsP (xS μ) (xS μ + 1) 4) μ) (a := row) (v := xS μ) (N := N) (i := j) ((xK_ap _ hr).trans k) (xK_in (μ := μ) (t := 15) (n := 8) [] (opsP (xS μ) (xS μ + 1) 4)) h2 (by omega) hj hN
  rw [Option.bind_some, show xc 4 = nI 4 from rfl, e, Option.bind_some, c, Option.bind_some, incZ]
  show some (Sum.inl (nI (j + 1), xap [oRef row j (xS μ)] (xap ([oNew 15 8] ++ opsP (xS μ) (xS μ + 1) 4) μ))) = _
  rw [← xap_app]
  rfl
-- a holding
def opsH0 (h s : Nat) : List xOp := [oInt h 6 (xc 99), oInt h 7 (xc 10), oNew 4 10, oRef h 8 s, oNew 4 6, oRef h 9 (s + 1), oNew 1 6, oRef h 10 (s + 2), oNew 1 10, oRef h 11 (s + 3), oNew 1 6, oRef h 12 (s + 4), oNew 1 6, oRef h 13 (s + 5), oNew 1 6, oRef h 14 (s + 6), oNew 1 6, oRef h 15 (s + 7)]
def opsH (h s : Nat) : List xOp := opsH0 h s ++ opsRows (rdP s) 5 10 0 (s + 8) ++ opsRows (rdP (s + 1)) 5 6 0 (s + 58)
theorem opsH0_S (h s : Nat) : opsS (opsH0 h s) = 8 := by simp only [opsH0, opsS, opS]
theorem opsH_S (h s : Nat) : opsS (opsH h s) = 88 := by
  unfold opsH
  rw [opsS_app, opsS_app, opsH0_S, opsRows_S (rdP_S s), opsRows_S (rdP_S (s + 1))]
theorem hinit1_ok {μ : xM} {h row : Nat} (g : Gd h 9 row 4 6 (13, 16) μ) : fH_init_110 h μ = some (xap (opsRows (rdP row) 5 6 0 (xS μ)) μ) := by
  unfold fH_init_110
  refine rowLoop (rd := rdP row) (w := 5) (N := 6) (fin := some) (fun μ => Gd h 9 row 4 6 (13, 16) μ) (rdP_S row) ?_ ?_ ?_ 6 0 μ _ rfl g (fun _ => rfl)
  · intro j μ hj g
    obtain ⟨g1, g2, g3, g4, g5, g6, g7, g8⟩ := g
    show fH_init_L112 h (nI j) μ = _
    unfold fH_init_L112
    rw [if_neg (show ¬ xc 6 ≤ nI j from nI_ge (b := 6) hj (by decide)), ldFR_k (ci := 3) g6 g7, Option.bind_some]
    exact rdP_ok g8 g5 g2 hj (by decide)
  · intro j μ hj g
    exact g.ap _ (rdP_no g.2.2.2.1 g.2.2.1)
  · intro μ r g e
    cases e
    show fH_init_L112 h (nI 6) μ = _
    unfold fH_init_L112
    rw [if_pos (show xc 6 ≤ nI 6 by decide)]
theorem hinit2_ok {μ : xM} {h row row2 : Nat} (g : Gd h 8 row 4 10 (13, 16) μ) (g' : Gd h 9 row2 4 6 (13, 16) μ) : xwh (fun s : Int32 × xM => fH_init_L84 h s.1 s.2) (xc 0, μ) = some (xap (opsRows (rdP row) 5 10 0 (xS μ) ++ opsRows (rdP row2) 5 6 0 (xS μ + 50)) μ) := by
  refine rowLoop (rd := rdP row) (w := 5) (N := 10) (fin := fH_init_110 h) (fun μ => Gd h 8 row 4 10 (13, 16) μ ∧ Gd h 9 row2 4 6 (13, 16) μ) (rdP_S row) ?_ ?_ ?_ 10 0 μ _ rfl ⟨g, g'⟩ (fun g2 => ?_)
  · intro j μ hj g
    obtain ⟨⟨g1, g2, g3, g4, g5, g6, g7, g8⟩, _⟩ := g
    show fH_init_L84 h (nI j) μ = _
    unfold fH_init_L84
    rw [if_neg (show ¬ xc 10 ≤ nI j from nI_ge (b := 10) hj (by decide)), ldFR_k (ci := 3) g6 g7, Option.bind_some]
    exact rdP_ok g8 g5 g2 hj (by decide)
  · intro j μ hj g
    exact ⟨g.1.ap _ (rdP_no g.1.2.2.2.1 g.1.2.2.1), g.2.ap _ (rdP_no g.1.2.2.2.1 g.1.2.2.1)⟩
  · intro μ r g e
    show fH_init_L84 h (nI 10) μ = _
    unfold fH_init_L84
    rw [if_pos (show xc 10 ≤ nI 10 by decide), e]
    rfl
  · rw [hinit1_ok g2.2, xap_app, xS_ap, opsRows_S (rdP_S row)]
theorem hinit_ok {μ : xM} {h : Nat} (k : xK μ h = (13, 16)) (h2 : 2 ≤ h) (hp : h < xS μ) : fH_init h μ = some (xap (opsH h (xS μ)) μ) := by
  have kk : ∀ l, xK (xap l μ) h = (13, 16) := fun l => (xK_ap l hp).trans k
  have z : ∀ l, xS (xap l μ) = xS μ + opsS l := fun l => xS_ap l μ
  have st : ∀ l k' v, stFR (xap l μ) h 3 k' v = some (xap (l ++ [oRef h k' v]) μ) := fun l k' v => by
    rw [stFR_ok (ci := 3) (kk l) h2, xap_app]
    rfl
  have si : ∀ l k' v, stF (xap l μ) h 3 k' v = some (xap (l ++ [oInt h k' v]) μ) := fun l k' v => by
    rw [stF_k (ci := 3) k' v (kk l) h2, xap_app]
    rfl
  have nw : ∀ l t n x, x = nI n → n < 1000 → xnewA (xap l μ) t x = some (xap (l ++ [oNew t n]) μ) := fun l t n x e hn => by
    rw [e, xnewA_ok hn, xap_app]
    rfl
  have r8 : xR (xap (opsH0 h (xS μ)) μ) h 8 = some (xS μ) := by
    refine xR_in [oInt h 6 (xc 99), oInt h 7 (xc 10), oNew 4 10] [oNew 4 6, oRef h 9 (xS μ + 1), oNew 1 6, oRef h 10 (xS μ + 2), oNew 1 10, oRef h 11 (xS μ + 3), oNew 1 6, oRef h 12 (xS μ + 4), oNew 1 6, oRef h 13 (xS μ + 5), oNew 1 6, oRef h 14 (xS μ + 6), oNew 1 6, oRef h 15 (xS μ + 7)] hp ?_
    intro o ho v e
    subst e
    simp [oRef, oNew] at ho
  have r9 : xR (xap (opsH0 h (xS μ)) μ) h 9 = some (xS μ + 1) := by
    refine xR_in [oInt h 6 (xc 99), oInt h 7 (xc 10), oNew 4 10, oRef h 8 (xS μ), oNew 4 6] [oNew 1 6, oRef h 10 (xS μ + 2), oNew 1 10, oRef h 11 (xS μ + 3), oNew 1 6, oRef h 12 (xS μ + 4), oNew 1 6, oRef h 13 (xS μ + 5), oNew 1 6, oRef h 14 (xS μ + 6), oNew 1 6, oRef h 15 (xS μ + 7)] hp ?_
    intro o ho v e
    subst e
    simp [oRef, oNew] at ho
  have k8 : xK (xap (opsH0 h (xS μ)) μ) (xS μ) = (4, 10) := by
    have e := xK_in (μ := μ) (t := 4) (n := 10) [oInt h 6 (xc 99), oInt h 7 (xc 10)] [oRef h 8 (xS μ), oNew 4 6, oRef h 9 (xS μ + 1), oNew 1 6, oRef h 10 (xS μ + 2), oNew 1 10, oRef h 11 (xS μ + 3), oNew 1 6, oRef h 12 (xS μ + 4), oNew 1 6, oRef h 13 (xS μ + 5), oNew 1 6, oRef h 14 (xS μ + 6), oNew 1 6, oRef h 15 (xS μ + 7)]
    simp only [opsS, opS, Nat.add_zero] at e
    exact e
  have k9 : xK (xap (opsH0 h (xS μ)) μ) (xS μ + 1) = (4, 6) := by
    have e := xK_in (μ := μ) (t := 4) (n := 6) [oInt h 6 (xc 99), oInt h 7 (xc 10), oNew 4 10, oRef h 8 (xS μ)] [oRef h 9 (xS μ + 1), oNew 1 6, oRef h 10 (xS μ + 2), oNew 1 10, oRef h 11 (xS μ + 3), oNew 1 6, oRef h 12 (xS μ + 4), oNew 1 6, oRef h 13 (xS μ + 5), oNew 1 6, oRef h 14 (xS μ + 6), oNew 1 6, oRef h 15 (xS μ + 7)]
    simp only [opsS, opS, Nat.add_zero, Nat.zero_add] at e
    exact e
  have gA : Gd h 8 (xS μ) 4 10 (13, 16) (xap (opsH0 h (xS μ)) μ) := ⟨h2, by omega, by omega, by rw [z]; omega, by rw [z, opsH0_S]; omega, kk _, r8, k8⟩
  have gB : Gd h 9 (xS μ + 1) 4 6 (13, 16) (xap (opsH0 h (xS μ)) μ) := ⟨h2, by omega, by omega, by rw [z]; omega, by rw [z, opsH0_S]; omega, kk _, r9, k9⟩
  have e2 := hinit2_ok gA gB
  rw [z, opsH0_S, ← xap_app, ← List.append_assoc] at e2
  have e0 : fH_init h (xap [] μ) = some (xap (opsH h (xS μ)) μ) := by
    unfold fH_init fH_init_0
    rw [gd_k (ci := 3) (kk [])]
    rw [si, Option.bind_some, si, Option.bind_some]
    rw [nw _ 4 10 (xc 10) rfl (by decide), Option.bind_some, st, Option.bind_some, nw _ 4 6 (xc 6) rfl (by decide), Option.bind_some, st, Option.bind_some]
    rw [nw _ 1 6 (xc 6) rfl (by decide), Option.bind_some, st, Option.bind_some, nw _ 1 10 (xc 10) rfl (by decide), Option.bind_some, st, Option.bind_some]
    rw [nw _ 1 6 (xc 6) rfl (by decide), Option.bind_some, st, Option.bind_some, nw _ 1 6 (xc 6) rfl (by decide), Option.bind_some, st, Option.bind_some]
    rw [nw _ 1 6 (xc 6) rfl (by decide), Option.bind_some, st, Option.bind_some, nw _ 1 6 (xc 6) rfl (by decide), Option.bind_some, st, Option.bind_some]
    simp only [z, opsS_app, opsS, opS, Nat.reduceAdd, Nat.add_zero, List.nil_append, List.cons_append]
    exact e2
  exact e0
end MADE
