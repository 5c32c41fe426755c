/-! pictures are told -/
section PARSEP
def cdT (j : Nat) : Option Nat := if j = 48 then some 0 else if j = 49 then some 1 else if 97 ≤ j then some (j - 95) else none
def cdB (j : Nat) : Option Nat := if 48 ≤ j ∧ j ≤ 50 then some (j - 48) else none
def trm (x : Int32) : Option Nat := if x < 0 ∨ nI 102 ≤ x then none else cdT x.toNatClampNeg
def tbl (x : Int32) : Option Nat := if x < 0 ∨ nI 102 ≤ x then none else cdB x.toNatClampNeg
theorem x_cases (x : Int32) : (x < 0 ∨ nI 102 ≤ x) ∨ ∃ j, j < 102 ∧ x = nI j := by
  rcases off_or 102 (by decide) x with q | ⟨j, hj, e⟩
  · exact Or.inl q
  · exact Or.inr ⟨j, hj, e⟩
theorem no_off {j : Nat} (hj : j < 102) : ¬ (nI j < 0 ∨ nI 102 ≤ nI j) := fun z => z.elim (nI_pos (by omega)) (nI_ge hj (by decide))
theorem trm_n {j : Nat} (hj : j < 102) : trm (nI j) = cdT j := by
  unfold trm
  rw [if_neg (no_off hj), nI_clamp (by omega)]
theorem tbl_n {j : Nat} (hj : j < 102) : tbl (nI j) = cdB j := by
  unfold tbl
  rw [if_neg (no_off hj), nI_clamp (by omega)]
theorem trm_off {x : Int32} (h : x < 0 ∨ nI 102 ≤ x) : trm x = none := if_pos h
theorem tbl_off {x : Int32} (h : x < 0 ∨ nI 102 ≤ x) : tbl x = none := if_pos h
theorem trm_lt {x : Int32} {t : Nat} (h : trm x = some t) : t < 7 := by
  rcases x_cases x with q | ⟨j, hj, rfl⟩
  · rw [trm_off q] at h; cases h
  · rw [trm_n hj] at h
    unfold cdT at h
    split at h
    · injection h with h; omega
    · split at h
      · injection h with h; omega
      · split at h
        · injection h with h; omega
        · cases h
theorem tbl_lt {x : Int32} {t : Nat} (h : tbl x = some t) : t < 3 := by
  rcases x_cases x with q | ⟨j, hj, rfl⟩
  · rw [tbl_off q] at h; cases h
  · rw [tbl_n hj] at h
    unfold cdB at h
    split at h
    · injection h with h; omega
    · cases h
def at_ (bt : Nat → Int32) (n i : Nat) : Int32 := if i < n then bt i else xc (-1)
def pRow (bt : Nat → Int32) (n i : Nat) : Nat ⊕ xRow :=
  match tbl (at_ bt n i) with
  | none => .inl i
  | some t => match trm (at_ bt n (i + 1)) with
    | none => .inl (i + 1)
    | some a => match trm (at_ bt n (i + 2)) with
      | none => .inl (i + 2)
      | some b => .inr (t, a, b)
def stands (R : List xRow) (t : Nat) : Prop := 2 ≤ t ∧ ∃ r, r ∈ R ∧ (r.2.1 = t ∨ r.2.2 = t)
def stB (R : List xRow) (t : Nat) : Bool := decide (2 ≤ t) && R.any (fun r => decide (r.2.1 = t) || decide (r.2.2 = t))
theorem stB_iff {R : List xRow} {t : Nat} : stB R t = true ↔ stands R t := by
  unfold stB stands
  rw [Bool.and_eq_true, decide_eq_true_eq, List.any_eq_true]
  refine and_congr_right (fun _ => exists_congr (fun r => and_congr_right (fun _ => ?_)))
  rw [Bool.or_eq_true, decide_eq_true_eq, decide_eq_true_eq]
def pName (bt : Nat → Int32) (n : Nat) (R : List xRow) (i : Nat) : Option Nat :=
  match trm (at_ bt n i) with
  | none => none
  | some t => if stB R t = true then some t else none
def pHead (bt : Nat → Int32) (n : Nat) (R : List xRow) : Nat → Nat → List Nat → Option Nat × List Nat
  | 0, i, H => (some i, H)
  | f + 1, i, H => match pName bt n R i with
    | none => (some i, H)
    | some t => if i + 1 < n then pHead bt n R f (i + 1) (H ++ [t]) else (none, H ++ [t])
def pRows (bt : Nat → Int32) (n : Nat) : Nat → Nat → List xRow → Option Nat × xPic
  | 0, i, R => (some i, (R, []))
  | f + 1, i, R => match pRow bt n i with
    | .inl q => (some q, (R, []))
    | .inr r => if n ≤ i + 3 then (none, (R ++ [r], []))
      else if bt (i + 3) = xc 58 then ((pHead bt n (R ++ [r]) 3 (i + 4) []).1, (R ++ [r], (pHead bt n (R ++ [r]) 3 (i + 4) []).2))
      else if bt (i + 3) = xc 44 then pRows bt n f (i + 4) (R ++ [r]) else (some (i + 3), (R ++ [r], []))
def rI : Option Nat → Int32
  | none => xc (-1)
  | some q => nI q
theorem row_lt {bt : Nat → Int32} {n i : Nat} {r : xRow} (h : pRow bt n i = .inr r) : r.1 < 3 ∧ r.2.1 < 7 ∧ r.2.2 < 7 := by
  unfold pRow at h
  split at h
  · cases h
  · rename_i t e
    split at h
    · cases h
    · rename_i a e2
      split at h
      · cases h
      · rename_i b e3
        injection h with h
        subst h
        exact ⟨tbl_lt e, trm_lt e2, trm_lt e3⟩
theorem head_wf {bt : Nat → Int32} {n : Nat} {R : List xRow} : ∀ (f i : Nat) (H : List Nat), (∀ t, t ∈ H → stands R t) → (∀ t, t ∈ (pHead bt n R f i H).2 → stands R t) ∧ (pHead bt n R f i H).2.length ≤ H.length + f
  | 0, i, H, h => ⟨h, Nat.le_refl _⟩
  | f + 1, i, H, h => by
    unfold pHead
    split
    · exact ⟨h, by show H.length ≤ _; omega⟩
    · rename_i t e
      have st : stands R t := by
        unfold pName at e
        split at e
        · cases e
        · split at e
          · rename_i q
            injection e with e
            subst e
            exact stB_iff.mp q
          · cases e
      have h' : ∀ u, u ∈ H ++ [t] → stands R u := fun u hu => by
        rcases List.mem_append.mp hu with z | z
        · exact h u z
        · rw [List.mem_singleton.mp z]; exact st
      split
      · obtain ⟨x, y⟩ := head_wf f (i + 1) (H ++ [t]) h'
        rw [List.length_append, List.length_singleton] at y
        exact ⟨x, by omega⟩
      · refine ⟨h', ?_⟩
        rw [List.length_append, List.length_singleton]
        omega
theorem rows_wf {bt : Nat → Int32} {n : Nat} : ∀ (f i : Nat) (R : List xRow), R.length + f = 4 → (∀ r, r ∈ R → r.1 < 3 ∧ r.2.1 < 7 ∧ r.2.2 < 7) → (pRows bt n f i R).2.1.length ≤ 4 ∧ (pRows bt n f i R).2.2.length ≤ 3 ∧ ((pRows bt n f i R).1 = none → PicWf (pRows bt n f i R).2)
  | 0, i, R, h4, h => ⟨by show R.length ≤ 4; omega, by show 0 ≤ 3; omega, fun z => by cases z⟩
  | f + 1, i, R, h4, h => by
    unfold pRows
    split
    · exact ⟨by show R.length ≤ 4; omega, by show 0 ≤ 3; omega, fun z => by cases z⟩
    · rename_i r e
      have lr : (R ++ [r]).length = R.length + 1 := by rw [List.length_append, List.length_singleton]
      have h' : ∀ u, u ∈ R ++ [r] → u.1 < 3 ∧ u.2.1 < 7 ∧ u.2.2 < 7 := fun u hu => by
        rcases List.mem_append.mp hu with z | z
        · exact h u z
        · rw [List.mem_singleton.mp z]; exact row_lt e
      split
      · exact ⟨by show (R ++ [r]).length ≤ 4; omega, by show 0 ≤ 3; omega, fun _ => ⟨by show 1 ≤ (R ++ [r]).length; omega, by show (R ++ [r]).length ≤ 4; omega, by show 0 ≤ 3; omega, h', fun t ht => absurd ht List.not_mem_nil⟩⟩
      · split
        · obtain ⟨x, y⟩ := head_wf (bt := bt) (n := n) (R := R ++ [r]) 3 (i + 4) [] (fun t ht => absurd ht List.not_mem_nil)
          have y' : (pHead bt n (R ++ [r]) 3 (i + 4) []).2.length ≤ 3 := by
            have : ([] : List Nat).length = 0 := rfl
            omega
          refine ⟨by show (R ++ [r]).length ≤ 4; omega, y', fun _ => ⟨by show 1 ≤ (R ++ [r]).length; omega, by show (R ++ [r]).length ≤ 4; omega, y', h', fun t ht => ?_⟩⟩
          obtain ⟨z1, u, z2, z3⟩ := x t ht
          have := h' u z2
          exact ⟨z1, by omega, u, z2, z3⟩
        · split
          · exact rows_wf f (i + 4) (R ++ [r]) (by omega) h'
          · exact ⟨by show (R ++ [r]).length ≤ 4; omega, by show 0 ≤ 3; omega, fun z => by cases z⟩
end PARSEP
