/-! the start: the logs read out -/
section INIT
-- kinds
def kM : List xOp → List (Nat × Nat) → List (Nat × Nat)
  | [], M => M
  | .inl p :: l, M => kM l (M ++ [(p.1, p.2)])
  | .inr (.inl p) :: l, M => kM l (M ++ ((6, p.1) :: List.replicate p.1 (3, p.2)))
  | .inr (.inr _) :: l, M => kM l M
def KR (μ : xM) (M : List (Nat × Nat)) : Prop := M.length = xS μ ∧ ∀ a, 1 ≤ a → a < xS μ → xK μ a = M.getD a (0, 0)
theorem getD_l {α : Type} (M N : List α) (d : α) {a : Nat} (h : a < M.length) : (M ++ N).getD a d = M.getD a d := by
  rw [List.getD_eq_getElem?_getD, List.getD_eq_getElem?_getD, List.getElem?_append_left h]
theorem getD_r {α : Type} (M N : List α) (d : α) (a : Nat) : (M ++ N).getD (M.length + a) d = N.getD a d := by
  rw [List.getD_eq_getElem?_getD, List.getD_eq_getElem?_getD, List.getElem?_append_right (by omega), show M.length + a - M.length = a by omega]
theorem xK_run0 {μ : xM} {n k : Nat} : xK (xap1 (oRun n k) μ) (xS μ) = (6, n) := by
  exact (if_pos (show μ.1.1 < μ.1.1 + 1 + n by omega)).trans (if_pos rfl)
theorem xK_run1 {μ : xM} {n k j : Nat} (h : j < n) : xK (xap1 (oRun n k) μ) (xS μ + 1 + j) = (3, k) := by
  refine (if_pos (show μ.1.1 + 1 + j < μ.1.1 + 1 + n by omega)).trans ?_
  show (if μ.1.1 + 1 + j = μ.1.1 then (6, n) else if μ.1.1 < μ.1.1 + 1 + j ∧ μ.1.1 + 1 + j ≤ μ.1.1 + n then (3, k) else μ.2.1 (μ.1.1 + 1 + j)) = (3, k)
  rw [if_neg (by omega), if_pos (by omega)]
theorem kr_ap : ∀ (l : List xOp) {μ : xM} {M : List (Nat × Nat)}, KR μ M → KR (xap l μ) (kM l M)
  | [], _, _, h => h
  | .inl p :: l, μ, M, h => kr_ap l (μ := xap1 (.inl p) μ) ⟨by rw [xS_ap1, List.length_append, h.1]; rfl, fun a h1 ha => by
      by_cases q : a < xS μ
      · rw [xK_ap1 q, getD_l _ _ _ (by rw [h.1]; exact q), h.2 a h1 q]
      · have e : a = xS μ := by
          rw [xS_ap1] at ha
          have : opS (.inl p) = 1 := rfl
          omega
        rw [e]
        exact (xK_new (t := p.1) (n := p.2)).trans ((getD_r M [(p.1, p.2)] (0, 0) 0).symm.trans (by rw [h.1]; rfl))⟩
  | .inr (.inl p) :: l, μ, M, h => kr_ap l (μ := xap1 (.inr (.inl p)) μ) ⟨by
      rw [xS_ap1, List.length_append, h.1, List.length_cons, List.length_replicate]
      rfl, fun a h1 ha => by
      by_cases q : a < xS μ
      · rw [xK_ap1 q, getD_l _ _ _ (by rw [h.1]; exact q), h.2 a h1 q]
      · rw [xS_ap1] at ha
        have z : opS (.inr (.inl p)) = p.1 + 1 := rfl
        obtain ⟨j, rfl⟩ : ∃ j, a = xS μ + j := ⟨a - xS μ, by omega⟩
        have e := getD_r M ((6, p.1) :: List.replicate p.1 (3, p.2)) (0, 0) j
        rw [h.1] at e
        rw [e]
        cases j with
        | zero => exact xK_run0 (n := p.1) (k := p.2)
        | succ j =>
          have hj : j < p.1 := by omega
          rw [show xS μ + (j + 1) = xS μ + 1 + j by omega]
          refine (xK_run1 (n := p.1) (k := p.2) hj).trans ?_
          rw [List.getD_cons_succ, List.getD_eq_getElem?_getD, List.getElem?_replicate, if_pos hj]
          rfl⟩
  | .inr (.inr (.inl _)) :: l, _, _, h => kr_ap l h
  | .inr (.inr (.inr _)) :: l, _, _, h => kr_ap l h
-- references
def putR : List (Option Nat) → Nat → Nat → List (Option Nat)
  | [], 0, v => [some v]
  | [], k + 1, v => none :: putR [] k v
  | _ :: r, 0, v => some v :: r
  | x :: r, k + 1, v => x :: putR r k v
theorem putR_getD : ∀ (r : List (Option Nat)) (k v j : Nat), (putR r k v).getD j none = if j = k then some v else r.getD j none
  | [], 0, v, j => by
    cases j with
    | zero => rfl
    | succ j => rw [if_neg (by omega)]; rfl
  | [], k + 1, v, j => by
    cases j with
    | zero => rw [if_neg (by omega)]; rfl
    | succ j =>
      show (putR [] k v).getD j none = _
      rw [putR_getD [] k v j]
      by_cases q : j = k
      · rw [if_pos q, if_pos (by omega)]
      · rw [if_neg q, if_neg (by omega)]
        rfl
  | _ :: r, 0, v, j => by
    cases j with
    | zero => rfl
    | succ j => rw [if_neg (by omega)]; rfl
  | x :: r, k + 1, v, j => by
    cases j with
    | zero => rw [if_neg (by omega)]; rfl
    | succ j =>
      show (putR r k v).getD j none = if j + 1 = k + 1 then some v else r.getD j none
      rw [putR_getD r k v j]
      by_cases q : j = k
      · rw [if_pos q, if_pos (by omega)]
      · rw [if_neg q, if_neg (by omega)]
def rM : List xOp → List (List (Option Nat)) → List (List (Option Nat))
  | [], M => M
  | .inl _ :: l, M => rM l (M ++ [[]])
  | .inr (.inl p) :: l, M => rM l (M ++ (((List.range p.1).map (fun j => some (M.length + 1 + j))) :: List.replicate p.1 []))
  | .inr (.inr (.inl p)) :: l, M => rM l (M.set p.1 (putR (M.getD p.1 []) p.2.1 p.2.2))
  | .inr (.inr (.inr _)) :: l, M => rM l M
def RR (μ : xM) (M : List (List (Option Nat))) : Prop := M.length = xS μ ∧ ∀ a k, 2 ≤ a → a < xS μ → xR μ a k = (M.getD a []).getD k none
theorem xR_new {μ : xM} {t n k : Nat} : xR (xap1 (oNew t n) μ) (xS μ) k = none := by
  refine (if_pos rfl).trans (if_neg (Nat.not_lt_zero _))
theorem xR_run0 {μ : xM} {n m k : Nat} : xR (xap1 (oRun n m) μ) (xS μ) k = if k < n then some (xS μ + 1 + k) else none := if_pos rfl
theorem xR_run1 {μ : xM} {n m k j : Nat} (h : j < n) : xR (xap1 (oRun n m) μ) (xS μ + 1 + j) k = none := by
  show (if μ.1.1 + 1 + j = μ.1.1 then (if k < n then some (μ.1.1 + 1 + k) else none) else if μ.1.1 < μ.1.1 + 1 + j ∧ μ.1.1 + 1 + j ≤ μ.1.1 + n then none else μ.2.2.1 (μ.1.1 + 1 + j) k) = none
  rw [if_neg (by omega), if_pos (by omega)]
theorem rr_ap : ∀ (l : List xOp) {μ : xM} {M : List (List (Option Nat))}, RR μ M → RR (xap l μ) (rM l M)
  | [], _, _, h => h
  | .inl p :: l, μ, M, h => rr_ap l (μ := xap1 (.inl p) μ) ⟨by rw [xS_ap1, List.length_append, h.1]; rfl, fun a k h1 ha => by
      by_cases q : a < xS μ
      · rw [xR_ap1 q (fun v e => by cases e), getD_l _ _ _ (by rw [h.1]; exact q), h.2 a k h1 q]
      · have e : a = xS μ := by
          rw [xS_ap1] at ha
          have : opS (.inl p) = 1 := rfl
          omega
        have g := getD_r M [[]] [] 0
        rw [h.1, Nat.add_zero] at g
        rw [e, g]
        exact xR_new (t := p.1) (n := p.2)⟩
  | .inr (.inl p) :: l, μ, M, h => rr_ap l (μ := xap1 (.inr (.inl p)) μ) ⟨by
      rw [xS_ap1, List.length_append, h.1, List.length_cons, List.length_replicate]
      rfl, fun a k h1 ha => by
      by_cases q : a < xS μ
      · rw [xR_ap1 q (fun v e => by cases e), getD_l _ _ _ (by rw [h.1]; exact q), h.2 a k h1 q]
      · rw [xS_ap1] at ha
        have z : opS (.inr (.inl p)) = p.1 + 1 := rfl
        obtain ⟨j, rfl⟩ : ∃ j, a = xS μ + j := ⟨a - xS μ, by omega⟩
        have e := getD_r M (((List.range p.1).map (fun j => some (M.length + 1 + j))) :: List.replicate p.1 []) [] j
        rw [h.1] at e
        rw [h.1, e]
        cases j with
        | zero =>
          refine (xR_run0 (n := p.1) (m := p.2)).trans ?_
          show _ = ((List.range p.1).map (fun j => some (xS μ + 1 + j))).getD k none
          rw [List.getD_eq_getElem?_getD, List.getElem?_map]
          by_cases c : k < p.1
          · rw [if_pos c, List.getElem?_range c]
            rfl
          · rw [if_neg c, List.getElem?_eq_none (by rw [List.length_range]; omega)]
            rfl
        | succ j =>
          have hj : j < p.1 := by omega
          rw [show xS μ + (j + 1) = xS μ + 1 + j by omega]
          refine (xR_run1 (n := p.1) (m := p.2) hj).trans ?_
          have e3 : (List.replicate p.1 ([] : List (Option Nat))).getD j [] = [] := by
            rw [List.getD_eq_getElem?_getD, List.getElem?_replicate, if_pos hj]
            rfl
          rw [List.getD_cons_succ, e3]
          rfl⟩
  | .inr (.inr (.inl p)) :: l, μ, M, h => rr_ap l (μ := xap1 (.inr (.inr (.inl p))) μ) ⟨by rw [List.length_set]; exact h.1, fun a k h1 ha => by
      have ha' : a < xS μ := ha
      show (if a = p.1 ∧ k = p.2.1 then some p.2.2 else xR μ a k) = _
      have e4 : (M.set p.1 (putR (M.getD p.1 []) p.2.1 p.2.2)).getD a [] = if p.1 = a then putR (M.getD p.1 []) p.2.1 p.2.2 else M.getD a [] := by
        rw [List.getD_eq_getElem?_getD, List.getElem?_set]
        by_cases q : p.1 = a
        · rw [if_pos q, if_pos q, if_pos (by rw [h.1]; omega), Option.getD_some]
        · rw [if_neg q, if_neg q, List.getD_eq_getElem?_getD]
      rw [e4]
      by_cases q : p.1 = a
      · rw [if_pos q, putR_getD, q]
        by_cases c : k = p.2.1
        · rw [if_pos ⟨rfl, c⟩, if_pos c]
        · rw [if_neg (fun z => c z.2), if_neg c, h.2 a k h1 ha']
      · rw [if_neg (fun z => q z.1.symm), if_neg q, h.2 a k h1 ha']⟩
  | .inr (.inr (.inr p)) :: l, μ, M, h => rr_ap l (μ := xap1 (.inr (.inr (.inr p))) μ) h
-- ints
def iM : List xOp → List (Nat × Nat × Int32) → List (Nat × Nat × Int32)
  | [], V => V
  | .inl _ :: l, V => iM l V
  | .inr (.inl _) :: l, V => iM l V
  | .inr (.inr (.inl _)) :: l, V => iM l V
  | .inr (.inr (.inr p)) :: l, V => iM l (p :: V)
def iOk : List xOp → Nat → Bool
  | [], _ => true
  | .inr (.inr (.inr p)) :: l, s => decide (2 ≤ p.1 ∧ p.1 < s) && iOk l s
  | .inr (.inr (.inl _)) :: l, s => iOk l s
  | .inr (.inl p) :: l, s => iOk l (s + (p.1 + 1))
  | .inl _ :: l, s => iOk l (s + 1)
def iV : List (Nat × Nat × Int32) → Nat → Nat → Int32
  | [], _, _ => 0
  | p :: V, a, k => if a = p.1 ∧ k = p.2.1 then p.2.2 else iV V a k
theorem iV_far : ∀ (V : List (Nat × Nat × Int32)) {a k : Nat}, (∀ p ∈ V, p.1 ≠ a) → iV V a k = 0
  | [], _, _, _ => rfl
  | p :: V, a, k, h => by
    show (if a = p.1 ∧ k = p.2.1 then p.2.2 else iV V a k) = 0
    rw [if_neg (fun q => h p List.mem_cons_self q.1.symm)]
    exact iV_far V (fun q hq => h q (List.mem_cons_of_mem _ hq))
def IR (μ : xM) (V : List (Nat × Nat × Int32)) : Prop := (∀ p ∈ V, p.1 < xS μ) ∧ ∀ a k, 2 ≤ a → xI μ a k = iV V a k
theorem xI_new1 {o : xOp} {μ : xM} {a k : Nat} (h : a < xS μ ∨ xS μ + opS o ≤ a) (n : ∀ v, o ≠ oInt a k v) : xI (xap1 o μ) a k = xI μ a k := by
  have h' : a < μ.1.1 ∨ μ.1.1 + opS o ≤ a := h
  rcases o with p | p | p | p
  · have z : opS (.inl p) = 1 := rfl
    refine if_neg ?_
    omega
  · have z : opS (.inr (.inl p)) = p.1 + 1 := rfl
    refine if_neg ?_
    omega
  · rfl
  · refine if_neg (fun q => n p.2.2 ?_)
    obtain ⟨rfl, rfl⟩ := q
    rfl
theorem xI_newz {o : xOp} {μ : xM} {a k : Nat} (h : xS μ ≤ a) (h2 : a < xS μ + opS o) : xI (xap1 o μ) a k = 0 := by
  have h' : μ.1.1 ≤ a := h
  have h2' : a < μ.1.1 + opS o := h2
  rcases o with p | p | p | p
  · have z : opS (.inl p) = 1 := rfl
    refine if_pos ?_
    omega
  · have z : opS (.inr (.inl p)) = p.1 + 1 := rfl
    refine if_pos ?_
    omega
  · have z : opS (.inr (.inr (.inl p))) = 0 := rfl
    omega
  · have z : opS (.inr (.inr (.inr p))) = 0 := rfl
    omega
theorem ir_old {o : xOp} {μ : xM} {V : List (Nat × Nat × Int32)} (h : IR μ V) (n : ∀ a k v, o ≠ oInt a k v) : IR (xap1 o μ) V := by
  refine ⟨fun p hp => by have := h.1 p hp; rw [xS_ap1]; omega, fun a k h1 => ?_⟩
  by_cases q : a < xS μ ∨ xS μ + opS o ≤ a
  · rw [xI_new1 q (n a k), h.2 a k h1]
  · rw [xI_newz (by omega) (by omega)]
    exact (iV_far V (fun p hp e => by have := h.1 p hp; omega)).symm
theorem ir_ap : ∀ (l : List xOp) {μ : xM} {V : List (Nat × Nat × Int32)}, iOk l (xS μ) = true → IR μ V → IR (xap l μ) (iM l V)
  | [], _, _, _, h => h
  | .inl p :: l, μ, V, c, h => ir_ap l (μ := xap1 (.inl p) μ) c (ir_old h (fun a k v e => by cases e))
  | .inr (.inl p) :: l, μ, V, c, h => ir_ap l (μ := xap1 (.inr (.inl p)) μ) (by rw [xS_ap1]; exact c) (ir_old h (fun a k v e => by cases e))
  | .inr (.inr (.inl p)) :: l, μ, V, c, h => ir_ap l (μ := xap1 (.inr (.inr (.inl p))) μ) c (ir_old h (fun a k v e => by cases e))
  | .inr (.inr (.inr p)) :: l, μ, V, c, h => by
    have c' : (decide (2 ≤ p.1 ∧ p.1 < xS μ) && iOk l (xS μ)) = true := c
    rw [Bool.and_eq_true, decide_eq_true_eq] at c'
    refine ir_ap l (μ := xap1 (.inr (.inr (.inr p))) μ) c'.2 ⟨fun q hq => ?_, fun a k h1 => ?_⟩
    · rcases List.mem_cons.mp hq with rfl | hq
      · exact c'.1.2
      · exact h.1 q hq
    · show (if a = p.1 ∧ k = p.2.1 then p.2.2 else xI μ a k) = if a = p.1 ∧ k = p.2.1 then p.2.2 else iV V a k
      rw [h.2 a k h1]
/-- the script and the holding row stay -/
theorem xI_ap0 : ∀ (l : List xOp) {μ : xM} {k : Nat}, 2 ≤ xS μ → iOk l (xS μ) = true → xI (xap l μ) 0 k = xI μ 0 k
  | [], _, _, _, _ => rfl
  | .inl p :: l, μ, k, h, c => (xI_ap0 l (μ := xap1 (.inl p) μ) (by rw [xS_ap1]; omega) c).trans (xI_new1 (Or.inl (by omega)) (fun v e => by cases e))
  | .inr (.inl p) :: l, μ, k, h, c => (xI_ap0 l (μ := xap1 (.inr (.inl p)) μ) (by rw [xS_ap1]; omega) (by rw [xS_ap1]; exact c)).trans (xI_new1 (Or.inl (by omega)) (fun v e => by cases e))
  | .inr (.inr (.inl p)) :: l, μ, k, h, c => xI_ap0 l (μ := xap1 (.inr (.inr (.inl p))) μ) h c
  | .inr (.inr (.inr p)) :: l, μ, k, h, c => by
    have c' : (decide (2 ≤ p.1 ∧ p.1 < xS μ) && iOk l (xS μ)) = true := c
    rw [Bool.and_eq_true, decide_eq_true_eq] at c'
    exact (xI_ap0 l (μ := xap1 (.inr (.inr (.inr p))) μ) h c'.2).trans (if_neg (fun q => by have := c'.1.1; omega))
theorem xL_ap1 {o : xOp} {μ : xM} {a k : Nat} (h : a < xS μ) : xL (xap1 o μ) a k = xL μ a k := by
  have h' : a < μ.1.1 := h
  rcases o with p | p | p | p
  · refine if_neg ?_
    omega
  · refine if_neg ?_
    omega
  · rfl
  · rfl
theorem xL_ap : ∀ (l : List xOp) {μ : xM} {a k : Nat}, a < xS μ → xL (xap l μ) a k = xL μ a k
  | [], _, _, _, _ => rfl
  | o :: l, μ, a, k, h => (xL_ap l (by rw [xS_ap1]; omega)).trans (xL_ap1 h)
-- slots
def opU : xOp → Nat
  | .inl p => p.2
  | .inr (.inl p) => p.1 + p.1 * p.2
  | .inr (.inr _) => 0
def opsU : List xOp → Nat
  | [] => 0
  | o :: l => opU o + opsU l
theorem xU_ap1 (o : xOp) (μ : xM) : xU (xap1 o μ) = xU μ + opU o := by
  rcases o with p | p | p | p <;> rfl
theorem xU_ap : ∀ (l : List xOp) (μ : xM), xU (xap l μ) = xU μ + opsU l
  | [], _ => rfl
  | o :: l, μ => by
    show xU (xap l (xap1 o μ)) = xU μ + (opU o + opsU l)
    rw [xU_ap l, xU_ap1]
    omega
-- all that is made
def opsA : List xOp := [oNew 10 10] ++ opsX ++ [oNew 19 65] ++ opsM
def valA : List (Nat × Nat × Int32) := [(305, 5, -1), (305, 4, -1), (305, 3, -1), (305, 2, -1), (305, 1, -1), (305, 0, -1), (293, 24, 10), (293, 23, 99), (92, 7, 10), (92, 6, 99), (3, 7, 10), (3, 6, 99)]
theorem kM_A : kM opsA [(0, 0), (3, 6)] = shK := by decide +kernel
theorem rM_A : rM opsA [[], []] = shR := by decide +kernel
theorem iM_A : iM opsA [] = valA := by decide +kernel
theorem iOk_A : iOk opsA 2 = true := by decide +kernel
theorem opsS_A : opsS opsA = 331 := by decide +kernel
theorem opsU_A : opsU opsA = 37983 := by decide +kernel
section MU
variable {L : Nat} {xs : Nat → Int32}
theorem muA_sh : Sh (xap opsA (xM0 L xs)) := by
  have s0 : xS (xM0 L xs) = 2 := rfl
  have u0 : xU (xM0 L xs) = 0 := rfl
  have hS : xS (xap opsA (xM0 L xs)) = 333 := by
    have e := xS_ap opsA (xM0 L xs)
    rw [opsS_A, s0] at e
    exact e
  have hU : xU (xap opsA (xM0 L xs)) = 37983 := by
    have e := xU_ap opsA (xM0 L xs)
    rw [opsU_A, u0, Nat.zero_add] at e
    exact e
  have k0 : KR (xM0 L xs) [(0, 0), (3, 6)] := ⟨rfl, fun a h1 ha => by
    have ha' : a < 2 := ha
    have e : a = 1 := by omega
    rw [e]
    rfl⟩
  have r0 : RR (xM0 L xs) [[], []] := ⟨rfl, fun a k h1 ha => by
    have ha' : a < 2 := ha
    omega⟩
  have k1 := kr_ap opsA k0
  have r1 := rr_ap opsA r0
  rw [kM_A] at k1
  rw [rM_A] at r1
  refine ⟨?_, fun a h1 ha => k1.2 a h1 (by rw [hS]; exact ha), fun a k h1 ha => r1.2 a k h1 (by rw [hS]; exact ha)⟩
  exact Prod.ext hS hU
theorem muA_ir : IR (xap opsA (xM0 L xs)) valA := by
  have h := ir_ap opsA (μ := xM0 L xs) (V := []) iOk_A ⟨fun p hp => absurd hp List.not_mem_nil, fun a k h1 => if_neg (by omega)⟩
  rw [iM_A] at h
  exact h
theorem muA_z {a k : Nat} (h : 2 ≤ a) (n : a ≠ 3 ∧ a ≠ 92 ∧ a ≠ 293 ∧ a ≠ 305) : xI (xap opsA (xM0 L xs)) a k = 0 := by
  rw [muA_ir.2 a k h]
  refine iV_far valA (fun p hp e => ?_)
  have q : ∀ p ∈ valA, p.1 = 3 ∨ p.1 = 92 ∨ p.1 = 293 ∨ p.1 = 305 := by decide +kernel
  have := q p hp
  omega
theorem muA_3 {k : Nat} : xI (xap opsA (xM0 L xs)) 3 k = if k = 7 then 10 else if k = 6 then 99 else 0 := by
  rw [muA_ir.2 3 k (by decide)]
  by_cases q : k = 7
  · subst q
    rfl
  by_cases q2 : k = 6
  · subst q2
    rfl
  rw [if_neg q, if_neg q2]
  simp [valA, iV, q, q2]
theorem muA_293 {k : Nat} : xI (xap opsA (xM0 L xs)) 293 k = if k = 24 then 10 else if k = 23 then 99 else 0 := by
  rw [muA_ir.2 293 k (by decide)]
  by_cases q : k = 24
  · subst q
    rfl
  by_cases q2 : k = 23
  · subst q2
    rfl
  rw [if_neg q, if_neg q2]
  simp [valA, iV, q, q2]
theorem muA_scr : Scr L xs (xap opsA (xM0 L xs)) := by
  refine ⟨(xK_ap opsA (μ := xM0 L xs) (a := 0) (show 0 < 2 by decide)).trans rfl, fun j hj => ?_⟩
  exact (xI_ap0 opsA (μ := xM0 L xs) (show 2 ≤ 2 by decide) iOk_A).trans rfl
theorem muA_sim : Sim L xs (xap opsA (xM0 L xs)) := by
  have n0 : nI 0 = 0 := rfl
  have z : ∀ {a k : Nat}, 2 ≤ a → a ≠ 3 ∧ a ≠ 92 ∧ a ≠ 293 ∧ a ≠ 305 → xI (xap opsA (xM0 L xs)) a k = 0 := fun h n => muA_z h n
  have z3 : ∀ k, k ≠ 7 → k ≠ 6 → xI (xap opsA (xM0 L xs)) 3 k = 0 := fun k h1 h2 => by rw [muA_3, if_neg h1, if_neg h2]
  have zM : ∀ k, k ≠ 24 → k ≠ 23 → xI (xap opsA (xM0 L xs)) 293 k = 0 := fun k h1 h2 => by rw [muA_293, if_neg h1, if_neg h2]
  have hr : HRel (xap opsA (xM0 L xs)) 3 (vM (xap opsA (xM0 L xs))) (fun _ => ([], [])) (fun _ => ([], [])) 0 0 0 0 0 0 := by
    refine ⟨by decide, by decide, by decide, by decide, by decide, by decide, ?_, z3 0 (by decide) (by decide), z3 1 (by decide) (by decide), z3 2 (by decide) (by decide), z3 3 (by decide) (by decide), z3 4 (by decide) (by decide), z3 5 (by decide) (by decide), zM 8 (by decide) (by decide), zM 9 (by decide) (by decide), ?_, ⟨?_, ?_⟩, ?_, ?_, ?_, ?_, ?_, ?_, ?_, ?_, ?_⟩
    · intro t x _ _ h
      rw [Nat.zero_testBit] at h
      cases h
    · show xI _ 293 23 = xI _ 3 6
      rw [muA_293, muA_3]
      rfl
    · show xI _ 293 24 = xI _ 3 7
      rw [muA_293, muA_3]
      rfl
    · rw [muA_3]
      decide
    · intro i hi
      have hi' : i = 0 ∨ i = 1 ∨ i = 2 := by omega
      rcases hi' with rfl | rfl | rfl
      · exact ⟨z (by decide) (by decide), z (by decide) (by decide)⟩
      · exact ⟨z (by decide) (by decide), z (by decide) (by decide)⟩
      · exact ⟨z (by decide) (by decide), z (by decide) (by decide)⟩
    · intro v hv
      exact absurd hv (Nat.not_lt_zero v)
    · intro v _ _
      exact ⟨z (by decide) (by decide), z (by decide) (by decide), z (by decide) (by decide), z (by decide) (by decide)⟩
    · intro v hv
      exact absurd hv (Nat.not_lt_zero v)
    · intro v _ _
      exact z (by decide) (by decide)
    · intro v hv
      exact absurd hv (Nat.not_lt_zero v)
    · intro v hv
      exact absurd hv (Nat.not_lt_zero v)
    · intro i hi
      exact ⟨0, 0, by decide, by decide, z (by omega) (by omega), z (by omega) (by omega)⟩
    · intro i hi
      exact ⟨0, 0, by decide, by decide, z (by omega) (by omega), z (by omega) (by omega)⟩
  refine ⟨muA_sh, muA_scr, fun j _ => (xL_ap opsA (μ := xM0 L xs) (a := 1) (show 1 < 2 by decide)).trans rfl, _, _, 0, 0, 0, 0, 0, 0, hr, ?_, ?_, ⟨0, by decide, z (by decide) (by decide), zM 3 (by decide) (by decide), ?_⟩, ⟨0, by decide, z (by decide) (by decide), zM 5 (by decide) (by decide), ?_⟩, ⟨0, by decide, z (by decide) (by decide), zM 7 (by decide) (by decide), ?_⟩, ?_, Or.inl ⟨z (by decide) (by decide), zM 61 (by decide) (by decide)⟩, ?_⟩
  · intro i hi
    exact absurd hi (Nat.not_lt_zero i)
  · intro i hi
    exact absurd hi (Nat.not_lt_zero i)
  · intro i hi
    exact absurd hi (Nat.not_lt_zero i)
  · intro i hi
    exact absurd hi (Nat.not_lt_zero i)
  · intro i hi
    exact absurd hi (Nat.not_lt_zero i)
  · intro k hk
    rw [z (a := 212) (by decide) (by decide), z (a := 312) (by decide) (by decide)]
  · intro i hi
    exact Or.inl ⟨z (by omega) (by omega), z (by omega) (by omega)⟩
end MU
theorem sim_init (L : Nat) (xs : Nat → Int32) : ∃ (r μi : xM), fX_init 2 (xnew (xM0 L xs) (10, 10) (0, 0) 0 10) = some r ∧ xS r = 293 ∧ fM_init 293 (xnew r (19, 65) (0, 0) 0 65) = some μi ∧ Sim L xs μi := by
  have h1 : fX_init 2 (xap1 (oNew 10 10) (xM0 L xs)) = some (xap opsX (xap1 (oNew 10 10) (xM0 L xs))) := xinit_ok (xK_new (μ := xM0 L xs)) rfl
  have hX : opsS opsX = 290 := by decide +kernel
  have hs : xS (xap opsX (xap1 (oNew 10 10) (xM0 L xs))) = 293 := by
    rw [xS_ap, hX]
    rfl
  have h2 : fM_init 293 (xap1 (oNew 19 65) (xap opsX (xap1 (oNew 10 10) (xM0 L xs)))) = some (xap opsM (xap1 (oNew 19 65) (xap opsX (xap1 (oNew 10 10) (xM0 L xs))))) := by
    refine minit_ok ?_ (by rw [s_new, hs])
    have e := xK_new (t := 19) (n := 65) (μ := xap opsX (xap1 (oNew 10 10) (xM0 L xs)))
    rw [hs] at e
    exact e
  refine ⟨_, _, h1, hs, h2, ?_⟩
  have e : xap opsM (xap1 (oNew 19 65) (xap opsX (xap1 (oNew 10 10) (xM0 L xs)))) = xap opsA (xM0 L xs) := by
    unfold opsA
    rw [xap_app, xap_app, xap_app]
    rfl
  rw [e]
  exact muA_sim
end INIT
