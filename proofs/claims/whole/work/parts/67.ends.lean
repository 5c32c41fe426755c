/-! ends of pictures: pure facts -/
def cntN (q : Nat → Bool) : Nat → Nat
  | 0 => 0
  | n + 1 => cntN q n + (if q n = true then 1 else 0)
theorem cnt_le {q q' : Nat → Bool} : ∀ n, (∀ t, t < n → q t = true → q' t = true) → cntN q n ≤ cntN q' n
  | 0, _ => Nat.le_refl _
  | n + 1, h => by
    have := cnt_le n (fun t ht => h t (by omega))
    have h2 := h n (by omega)
    unfold cntN
    by_cases e : q n = true
    · rw [if_pos e, if_pos (h2 e)]; omega
    · rw [if_neg e]; split <;> omega
theorem cnt_lt {q q' : Nat → Bool} : ∀ n t0, t0 < n → q t0 = false → q' t0 = true → (∀ t, t < n → q t = true → q' t = true) → cntN q n < cntN q' n
  | 0, t0, h0, _, _, _ => absurd h0 (by omega)
  | n + 1, t0, h0, h1, h2, h => by
    unfold cntN
    by_cases e : t0 = n
    · subst e
      have := cnt_le t0 (fun t ht => h t (by omega))
      rw [h1, h2, if_neg (by decide), if_pos rfl]
      omega
    · have := cnt_lt n t0 (by omega) h1 h2 (fun t ht => h t (by omega))
      have h3 := h n (by omega)
      by_cases e2 : q n = true
      · rw [if_pos e2, if_pos (h3 e2)]; omega
      · rw [if_neg e2]; split <;> omega
theorem cnt_or (a : Nat) (q : Nat → Bool) : ∀ n, cntN (fun t => decide (t = a) || q t) n ≤ cntN q n + (if a < n then 1 else 0)
  | 0 => by unfold cntN; omega
  | n + 1 => by
    have := cnt_or a q n
    unfold cntN
    by_cases e : n = a
    · subst e
      rw [if_neg (Nat.lt_irrefl _)] at this
      rw [if_pos (Nat.lt_succ_self n)]
      split <;> split <;> omega
    · have e2 : (decide (n = a) || q n) = q n := by rw [decide_eq_false e, Bool.false_or]
      rw [e2]
      by_cases e3 : a < n
      · rw [if_pos e3] at this; rw [if_pos (show a < n + 1 by omega)]; omega
      · rw [if_neg e3] at this; rw [if_neg (show ¬ a < n + 1 by omega)]; omega
/-- a row within bounds -/
def RB (r : xRow) : Prop := r.1 < 3 ∧ r.2.1 < 64 ∧ r.2.2 < 64
def RBs (l : List xRow) : Prop := ∀ r, r ∈ l → RB r
def HBs (l : List Nat) : Prop := ∀ t, t ∈ l → t < 64
def isTm (R : List xRow) (t : Nat) : Prop := ∃ r, r ∈ R ∧ (r.2.1 = t ∨ r.2.2 = t)
def pN (R : List xRow) : Nat := cntN (fun t => decide (2 ≤ t) && R.any (fun r => r.2.1 == t || r.2.2 == t)) 64
theorem pN_q {R : List xRow} {t : Nat} : (decide (2 ≤ t) && R.any (fun r => r.2.1 == t || r.2.2 == t)) = true ↔ 2 ≤ t ∧ isTm R t := by
  unfold isTm
  simp only [Bool.and_eq_true, decide_eq_true_eq, List.any_eq_true, Bool.or_eq_true, beq_iff_eq]
theorem pN_le : ∀ R : List xRow, pN R ≤ 2 * R.length
  | [] => by
    show cntN _ 64 ≤ 0
    have : cntN (fun t => decide (2 ≤ t) && ([] : List xRow).any (fun r => r.2.1 == t || r.2.2 == t)) 64 ≤ cntN (fun _ => false) 64 := cnt_le 64 (fun t _ h => by simp at h)
    exact Nat.le_trans this (by decide)
  | r :: R => by
    have h := pN_le R
    have h1 := cnt_or r.2.1 (fun t => decide (t = r.2.2) || (decide (2 ≤ t) && R.any (fun r => r.2.1 == t || r.2.2 == t))) 64
    have h2 := cnt_or r.2.2 (fun t => decide (2 ≤ t) && R.any (fun r => r.2.1 == t || r.2.2 == t)) 64
    have h3 : pN (r :: R) ≤ cntN (fun t => decide (t = r.2.1) || (decide (t = r.2.2) || (decide (2 ≤ t) && R.any (fun r => r.2.1 == t || r.2.2 == t)))) 64 := cnt_le 64 (fun t _ h => by
      simp only [Bool.and_eq_true, decide_eq_true_eq, List.any_cons, Bool.or_eq_true, beq_iff_eq] at h ⊢
      rcases h with ⟨h0, (h | h) | h⟩
      · exact Or.inl h.symm
      · exact Or.inr (Or.inl h.symm)
      · exact Or.inr (Or.inr ⟨h0, h⟩))
    have e1 : (if r.2.1 < 64 then 1 else 0) ≤ 1 := by split <;> omega
    have e2 : (if r.2.2 < 64 then 1 else 0) ≤ 1 := by split <;> omega
    rw [List.length_cons]
    unfold pN at h h3 ⊢
    omega
theorem pN_lt {R R' : List xRow} {t : Nat} (ht : 2 ≤ t) (h64 : t < 64) (h1 : isTm R t) (h2 : ¬ isTm R' t) (h : ∀ u, 2 ≤ u → isTm R' u → isTm R u) : pN R' < pN R := by
  unfold pN
  refine cnt_lt 64 t h64 ?_ (pN_q.mpr ⟨ht, h1⟩) (fun u _ hu => ?_)
  · cases e : (decide (2 ≤ t) && R'.any (fun r => r.2.1 == t || r.2.2 == t)) with
    | false => rfl
    | true => exact absurd (pN_q.mp e).2 h2
  · have := pN_q.mp hu
    exact pN_q.mpr ⟨this.1, h u this.1 this.2⟩
theorem pN_two {R : List xRow} {t : Nat} (ht : 2 ≤ t) (h64 : t < 64) (h1 : isTm R t) : 0 < pN R := Nat.lt_of_le_of_lt (Nat.zero_le (pN [])) (pN_lt ht h64 h1 (fun ⟨_, h, _⟩ => absurd h List.not_mem_nil) (fun _ _ ⟨_, h, _⟩ => absurd h List.not_mem_nil))
-- rows that are like one ahead go
theorem pdd_mem {r : xRow} : ∀ (l acc : List xRow), r ∈ pdd acc l ↔ r ∈ acc ∨ r ∈ l
  | [], acc => by unfold pdd; simp
  | q :: l, acc => by
    unfold pdd
    split
    · rename_i h
      rw [pdd_mem l acc, List.mem_cons]
      constructor
      · rintro (h1 | h1)
        · exact Or.inl h1
        · exact Or.inr (Or.inr h1)
      · rintro (h1 | h1 | h1)
        · exact Or.inl h1
        · exact Or.inl (h1 ▸ h)
        · exact Or.inr h1
    · rw [pdd_mem l _, List.mem_append, List.mem_singleton, List.mem_cons]
      constructor
      · rintro ((h1 | h1) | h1)
        · exact Or.inl h1
        · exact Or.inr (Or.inl h1)
        · exact Or.inr (Or.inr h1)
      · rintro (h1 | h1 | h1)
        · exact Or.inl (Or.inl h1)
        · exact Or.inl (Or.inr h1)
        · exact Or.inr h1
theorem pdd_len : ∀ (l acc : List xRow), (pdd acc l).length ≤ acc.length + l.length
  | [], acc => Nat.le_refl _
  | q :: l, acc => by
    unfold pdd
    split
    · have := pdd_len l acc
      rw [List.length_cons]; omega
    · have := pdd_len l (acc ++ [q])
      rw [List.length_append, List.length_singleton] at this
      rw [List.length_cons]; omega
theorem pdd_mono : ∀ (l acc : List xRow), acc.length ≤ (pdd acc l).length
  | [], acc => Nat.le_refl _
  | q :: l, acc => by
    unfold pdd
    split
    · exact pdd_mono l acc
    · have := pdd_mono l (acc ++ [q])
      rw [List.length_append, List.length_singleton] at this
      omega
theorem pdd_ne {l : List xRow} (h : 1 ≤ l.length) : 1 ≤ (pdd [] l).length := by
  match l, h with
  | q :: l, _ =>
    unfold pdd
    rw [if_neg List.not_mem_nil]
    exact pdd_mono l [q]
theorem RBs.dd {l : List xRow} (h : RBs l) : RBs (pdd [] l) := fun r hr => h r (((pdd_mem l []).mp hr).resolve_left List.not_mem_nil)
-- clashes
theorem pcl1_no {K : Nat} {r : xRow} (h : K.testBit r.1 = false) : ∀ l, pclash1 K r l = none
  | [] => rfl
  | q :: l => by
    unfold pclash1
    rw [if_neg (fun e => by rw [h] at e; exact absurd e.1 (by decide))]
    exact pcl1_no h l
theorem pcl1_some {K b : Nat} {r : xRow} : ∀ l, pclash1 K r l = some b → ¬ b = r.2.2 ∧ ∃ q, q ∈ l ∧ q.2.2 = b
  | [], h => by cases h
  | q :: l, h => by
    unfold pclash1 at h
    split at h
    · rename_i c
      cases h
      exact ⟨c.2.2.2, q, List.mem_cons_self, rfl⟩
    · obtain ⟨h1, q', h2, h3⟩ := pcl1_some l h
      exact ⟨h1, q', List.mem_cons_of_mem _ h2, h3⟩
theorem pcl_some {K a b : Nat} : ∀ l, pclash K l = some (a, b) → ¬ b = a ∧ isTm l a ∧ isTm l b
  | [], h => by cases h
  | r :: l, h => by
    unfold pclash at h
    split at h
    · rename_i b' e
      cases h
      obtain ⟨h1, q', h2, h3⟩ := pcl1_some l e
      exact ⟨h1, ⟨r, List.mem_cons_self, Or.inr rfl⟩, q', List.mem_cons_of_mem _ h2, Or.inr h3⟩
    · obtain ⟨h1, ⟨r1, h2, h3⟩, r2, h4, h5⟩ := pcl_some l h
      exact ⟨h1, ⟨r1, List.mem_cons_of_mem _ h2, h3⟩, r2, List.mem_cons_of_mem _ h4, h5⟩
-- a step
def pnext (a b : Nat) (P : xPic) : xPic := (pdd [] (P.1.map (psubR (max a b) (min a b))), P.2.map (psub (max a b) (min a b)))
theorem pend_succ (K f : Nat) (P : xPic) (n : Nat) : pend K (f + 1) P n = match pclash K P.1 with
    | none => (P, n, false)
    | some (a, b) => if max a b < 2 then (P, n, true) else pend K f (pnext a b P) (n + 1) := rfl
theorem isTm_lt {R : List xRow} {t : Nat} (h : RBs R) (ht : isTm R t) : t < 64 := by
  obtain ⟨r, hr, e⟩ := ht
  have := h r hr
  unfold RB at this
  omega
theorem psub_lt {hi lo t : Nat} (h : lo < 64) (ht : t < 64) : psub hi lo t < 64 := by unfold psub; split <;> assumption
theorem pnext_b {a b : Nat} {P : xPic} (hR : RBs P.1) (hH : HBs P.2) (ha : a < 64) (hb : b < 64) : RBs (pnext a b P).1 ∧ HBs (pnext a b P).2 := by
  have hm : min a b < 64 := by omega
  constructor
  · refine RBs.dd (fun r hr => ?_)
    obtain ⟨q, hq, rfl⟩ := List.mem_map.mp hr
    have := hR q hq
    exact ⟨this.1, psub_lt hm this.2.1, psub_lt hm this.2.2⟩
  · intro t ht
    obtain ⟨u, hu, rfl⟩ := List.mem_map.mp ht
    exact psub_lt hm (hH u hu)
theorem pnext_len (a b : Nat) (P : xPic) : (pnext a b P).1.length ≤ P.1.length ∧ (pnext a b P).2.length = P.2.length := by
  constructor
  · have := pdd_len (P.1.map (psubR (max a b) (min a b))) []
    rw [List.length_map, List.length_nil, Nat.zero_add] at this
    exact this
  · exact List.length_map _
theorem pnext_N {a b : Nat} {P : xPic} (hR : RBs P.1) (ne : ¬ b = a) (ha : isTm P.1 a) (hb : isTm P.1 b) (h2 : ¬ max a b < 2) : pN (pnext a b P).1 < pN P.1 := by
  have ha64 := isTm_lt hR ha
  have hb64 := isTm_lt hR hb
  have hmax : isTm P.1 (max a b) := by rcases Nat.le_total a b with q | q; rw [Nat.max_eq_right q]; exact hb; rw [Nat.max_eq_left q]; exact ha
  have hmin : isTm P.1 (min a b) := by rcases Nat.le_total a b with q | q; rw [Nat.min_eq_left q]; exact ha; rw [Nat.min_eq_right q]; exact hb
  have hne : ¬ min a b = max a b := by omega
  have key : ∀ u, isTm (pnext a b P).1 u → u = min a b ∨ (¬ u = max a b ∧ isTm P.1 u) := by
    rintro u ⟨r, hr, e⟩
    obtain ⟨q, hq, rfl⟩ := List.mem_map.mp (((pdd_mem _ []).mp hr).resolve_left List.not_mem_nil)
    have one : ∀ t, psub (max a b) (min a b) t = u → (q.2.1 = t ∨ q.2.2 = t) → u = min a b ∨ (¬ u = max a b ∧ isTm P.1 u) := by
      intro t et ht
      unfold psub at et
      split at et
      · exact Or.inl et.symm
      · rename_i ht2
        subst et
        exact Or.inr ⟨ht2, q, hq, ht⟩
    rcases e with e | e
    · exact one _ e (Or.inl rfl)
    · exact one _ e (Or.inr rfl)
  refine pN_lt (t := max a b) (by omega) (by omega) hmax (fun h => ?_) (fun u _ h => ?_)
  · rcases key _ h with e | e
    · exact hne e.symm
    · exact e.1 rfl
  · rcases key _ h with e | e
    · rw [e]; exact hmin
    · exact e.2
theorem isTm_next {a b : Nat} {P : xPic} (ha : isTm P.1 a) (hb : isTm P.1 b) {u : Nat} (h : isTm (pnext a b P).1 u) : isTm P.1 u := by
  obtain ⟨r, hr, e⟩ := h
  obtain ⟨q, hq, rfl⟩ := List.mem_map.mp (((pdd_mem _ []).mp hr).resolve_left List.not_mem_nil)
  have hmin : isTm P.1 (min a b) := by rcases Nat.le_total a b with q | q; rw [Nat.min_eq_left q]; exact ha; rw [Nat.min_eq_right q]; exact hb
  have one : ∀ t, psub (max a b) (min a b) t = u → (q.2.1 = t ∨ q.2.2 = t) → isTm P.1 u := by
    intro t et ht
    unfold psub at et
    split at et
    · rw [← et]; exact hmin
    · rw [← et]; exact ⟨q, hq, ht⟩
  rcases e with e | e
  · exact one _ e (Or.inl rfl)
  · exact one _ e (Or.inr rfl)
theorem pdd_nodup : ∀ (l acc : List xRow), acc.Nodup → (pdd acc l).Nodup
  | [], acc, h => h
  | q :: l, acc, h => by
    unfold pdd
    split
    · exact pdd_nodup l acc h
    · rename_i hq
      refine pdd_nodup l _ (List.nodup_append.mpr ⟨h, List.nodup_cons.mpr ⟨List.not_mem_nil, List.nodup_nil⟩, fun a ha b hb e => ?_⟩)
      rw [List.mem_singleton] at hb
      exact hq (hb ▸ e ▸ ha)
theorem pdd_self : ∀ (l acc : List xRow), (acc ++ l).Nodup → pdd acc l = acc ++ l
  | [], acc, _ => (List.append_nil acc).symm
  | q :: l, acc, h => by
    have hn : ¬ q ∈ acc := fun hq => (List.nodup_append.mp h).2.2 q hq q List.mem_cons_self rfl
    unfold pdd
    rw [if_neg hn, pdd_self l (acc ++ [q]) (by rw [List.append_assoc]; exact h), List.append_assoc]
    rfl
theorem pdd_pos {acc l : List xRow} {r : xRow} (h : r ∈ acc) : pdd acc (r :: l) = pdd acc l := if_pos h
theorem pdd_neg {acc l : List xRow} {r : xRow} (h : ¬ r ∈ acc) : pdd acc (r :: l) = pdd (acc ++ [r]) l := if_neg h
theorem pdd_nil (acc : List xRow) : pdd acc [] = acc := rfl
theorem pcl1_cons (K : Nat) (r q : xRow) (l : List xRow) : pclash1 K r (q :: l) = if K.testBit r.1 = true ∧ q.1 = r.1 ∧ q.2.1 = r.2.1 ∧ ¬ q.2.2 = r.2.2 then some q.2.2 else pclash1 K r l := rfl
theorem pcl_no {K : Nat} {r : xRow} {l : List xRow} (h : pclash1 K r l = none) : pclash K (r :: l) = pclash K l := by
  conv => lhs; unfold pclash
  rw [h]
theorem pcl_yes {K b : Nat} {r : xRow} {l : List xRow} (h : pclash1 K r l = some b) : pclash K (r :: l) = some (r.2.2, b) := by
  unfold pclash
  rw [h]
