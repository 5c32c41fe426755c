/-! the start: a log of what is made -/
section OPS
/-- new cell of a kind with slots; new run of cells; a reference, an int set -/
abbrev xOp : Type := (Nat × Nat) ⊕ ((Nat × Nat) ⊕ ((Nat × Nat × Nat) ⊕ (Nat × Nat × Int32)))
abbrev oNew (t n : Nat) : xOp := .inl (t, n)
abbrev oRun (n k : Nat) : xOp := .inr (.inl (n, k))
abbrev oRef (a k v : Nat) : xOp := .inr (.inr (.inl (a, k, v)))
abbrev oInt (a k : Nat) (v : Int32) : xOp := .inr (.inr (.inr (a, k, v)))
def xap1 : xOp → xM → xM
  | .inl p, μ => xnew μ (p.1, p.2) (0, 0) 0 p.2
  | .inr (.inl p), μ => xnew μ (6, p.1) (3, p.2) p.1 (p.1 + p.1 * p.2)
  | .inr (.inr (.inl p)), μ => xsR μ p.1 p.2.1 (some p.2.2)
  | .inr (.inr (.inr p)), μ => xsI μ p.1 p.2.1 p.2.2
def xap : List xOp → xM → xM
  | [], μ => μ
  | o :: l, μ => xap l (xap1 o μ)
theorem xap_app : ∀ (l m : List xOp) (μ : xM), xap (l ++ m) μ = xap m (xap l μ)
  | [], _, _ => rfl
  | o :: l, m, μ => xap_app l m (xap1 o μ)
def opS : xOp → Nat
  | .inl _ => 1
  | .inr (.inl p) => p.1 + 1
  | .inr (.inr _) => 0
def opsS : List xOp → Nat
  | [] => 0
  | o :: l => opS o + opsS l
theorem xS_ap1 (o : xOp) (μ : xM) : xS (xap1 o μ) = xS μ + opS o := by
  rcases o with p | p | p | p
  · rfl
  · show μ.1.1 + 1 + p.1 = μ.1.1 + (p.1 + 1); omega
  · rfl
  · rfl
theorem xS_ap : ∀ (l : List xOp) (μ : xM), xS (xap l μ) = xS μ + opsS l
  | [], _ => rfl
  | o :: l, μ => by
    show xS (xap l (xap1 o μ)) = xS μ + (opS o + opsS l)
    rw [xS_ap l, xS_ap1]
    omega
/-- older cells keep their kind -/
theorem xK_ap1 {o : xOp} {μ : xM} {a : Nat} (h : a < xS μ) : xK (xap1 o μ) a = xK μ a := by
  have h' : a < μ.1.1 := h
  rcases o with p | p | p | p
  · refine (if_pos (show a < μ.1.1 + 1 + 0 by omega)).trans (Eq.trans ?_ (if_pos h').symm)
    show (if a = μ.1.1 then (p.1, p.2) else if μ.1.1 < a ∧ a ≤ μ.1.1 + 0 then (0, 0) else μ.2.1 a) = _
    rw [if_neg (by omega), if_neg (by omega)]
  · refine (if_pos (show a < μ.1.1 + 1 + p.1 by omega)).trans (Eq.trans ?_ (if_pos h').symm)
    show (if a = μ.1.1 then (6, p.1) else if μ.1.1 < a ∧ a ≤ μ.1.1 + p.1 then (3, p.2) else μ.2.1 a) = _
    rw [if_neg (by omega), if_neg (by omega)]
  · rfl
  · rfl
theorem xK_ap : ∀ (l : List xOp) {μ : xM} {a : Nat}, a < xS μ → xK (xap l μ) a = xK μ a
  | [], _, _, _ => rfl
  | o :: l, μ, a, h => (xK_ap l (by rw [xS_ap1]; omega)).trans (xK_ap1 h)
/-- a new cell has its kind -/
theorem xK_new {μ : xM} {t n : Nat} : xK (xap1 (oNew t n) μ) (xS μ) = (t, n) := by
  exact (if_pos (show μ.1.1 < μ.1.1 + 1 + 0 by omega)).trans (if_pos rfl)
theorem xnewA_ok {μ : xM} {t : Nat} {n : Nat} (hn : n < 1000) : xnewA μ t (nI n) = some (xap1 (oNew t n) μ) := by
  unfold xnewA
  rw [nI_clamp (by omega), if_pos ⟨nI_pos (by omega), by omega⟩]
  rfl
theorem stFR_ok {μ : xM} {a ci k v n : Nat} (h : xK μ a = (10 + ci, n)) (h2 : 2 ≤ a) : stFR μ a ci k v = some (xap1 (oRef a k v) μ) := by
  unfold stFR
  rw [if_pos ⟨by rw [h], h2⟩]
  rfl
/-- a picture is made: m rows (1 to 12) -/
def opsP (p s m : Nat) : List xOp := [oNew 1 3, oRef p 5 s, oNew 1 m, oRef p 1 (s + 1), oNew 1 m, oRef p 2 (s + 2), oNew 1 m, oRef p 3 (s + 3)]
theorem pinit_ok {μ : xM} {p m : Nat} (h : xK μ p = (15, 8)) (h2 : 2 ≤ p) (hp : p < xS μ) (m1 : 1 ≤ m) (m2 : m ≤ 12) : fP_init p (nI m) μ = some (xap (opsP p (xS μ) m) μ) := by
  have c0 : ¬ nI m < xc 1 := nI_nlt (b := 1) m1 (by omega)
  have k : ∀ l, xK (xap l μ) p = (15, 8) := fun l => (xK_ap l hp).trans h
  have z : ∀ l, xS (xap l μ) = xS μ + opsS l := fun l => xS_ap l μ
  have st : ∀ l k' v, stFR (xap l μ) p 5 k' v = some (xap (l ++ [oRef p k' v]) μ) := fun l k' v => by
    rw [stFR_ok (ci := 5) (k l) h2, xap_app]
    rfl
  have nw : ∀ l n, n < 1000 → xnewA (xap l μ) 1 (nI n) = some (xap (l ++ [oNew 1 n]) μ) := fun l n hn => by
    rw [xnewA_ok hn, xap_app]
    rfl
  have e0 : fP_init p (nI m) (xap [] μ) = some (xap (opsP p (xS μ) m) μ) := by
    unfold fP_init fP_init_0
    rw [gd_k (ci := 5) (k [])]
    simp only [c0, if_false, show xc 3 = nI 3 from rfl, nw _ 3 (by decide), nw _ m (by omega), st, z, Option.bind_some, List.nil_append, List.cons_append, opsS, opS, opsP]
    rfl
  exact e0
end OPS
