/-! opened pictures: names in other places, more shows -/
def popS (V : Nat → xPic) (st : Nat) : List Nat → Nat → List xRow
  | [], _ => []
  | x :: l, b => popen1 (V (x / 512)) x b ++ popS V st l (b + st)
theorem popS_10 (V : Nat → xPic) : ∀ (l : List Nat) (b : Nat), popS V 10 l b = popen V l b
  | [], _ => rfl
  | x :: l, b => by
    show popen1 (V (x / 512)) x b ++ popS V 10 l (b + 10) = popen1 (V (x / 512)) x b ++ popen V l (b + 10)
    rw [popS_10 V l (b + 10)]
def LOk (V : Nat → xPic) (l : List Nat) : Prop := ∀ x, x ∈ l → PicWf (V (x / 512)) ∧ ∀ k, pterm x k < 7
theorem LOk.tail {V : Nat → xPic} {x : Nat} {l : List Nat} (h : LOk V (x :: l)) : LOk V l := fun y hy => h y (List.mem_cons_of_mem _ hy)
theorem popT_cases (v : xPic) (x : Nat) (hx : ∀ k, pterm x k < 7) {t : Nat} (ht : t < 7) : (∃ u, u < 7 ∧ ∀ b, popen1.popenT v x b t = u) ∨ (2 ≤ t ∧ ∀ b, popen1.popenT v x b t = b + t) := by
  unfold popen1.popenT
  by_cases q : t < 2
  · exact Or.inl ⟨t, by omega, fun b => if_pos q⟩
  · cases h : v.2.idxOf? t with
    | some k => exact Or.inl ⟨pterm x k, hx k, fun b => if_neg q⟩
    | none => exact Or.inr ⟨by omega, fun b => if_neg q⟩
theorem popen1_mem {v : xPic} {x b : Nat} {r : xRow} : r ∈ popen1 v x b ↔ ∃ p, p ∈ v.1 ∧ r = (p.1, popen1.popenT v x b p.2.1, popen1.popenT v x b p.2.2) := by
  unfold popen1
  rw [List.mem_map]
  exact ⟨fun ⟨p, h1, h2⟩ => ⟨p, h1, h2.symm⟩, fun ⟨p, h1, h2⟩ => ⟨p, h1, h2.symm⟩⟩
theorem popen1_map {v : xPic} {x b b' : Nat} {f : Nat → Nat} (w : PicWf v) (hx : ∀ k, pterm x k < 7) (f1 : ∀ t, t < 7 → f t = t) (f2 : ∀ t, 2 ≤ t → t < 7 → f (b + t) = b' + t) {r : xRow} (hr : r ∈ popen1 v x b) : (r.1, f r.2.1, f r.2.2) ∈ popen1 v x b' := by
  obtain ⟨p, h1, rfl⟩ := popen1_mem.mp hr
  have hp := w.2.2.2.1 p h1
  have one : ∀ t, t < 7 → f (popen1.popenT v x b t) = popen1.popenT v x b' t := fun t ht => by
    rcases popT_cases v x hx ht with ⟨u, h2, h3⟩ | ⟨h2, h3⟩
    · rw [h3, h3, f1 u h2]
    · rw [h3, h3, f2 t h2 ht]
  refine popen1_mem.mpr ⟨p, h1, ?_⟩
  dsimp only
  rw [one _ hp.2.1, one _ hp.2.2]
theorem popS_bound {V : Nat → xPic} {st : Nat} : ∀ (l : List Nat) (b : Nat), LOk V l → ∀ r, r ∈ popS V st l b → r.1 < 3 ∧ r.2.1 < b + st * l.length + 7 ∧ r.2.2 < b + st * l.length + 7
  | [], _, _, r, hr => absurd hr List.not_mem_nil
  | x :: l, b, h, r, hr => by
    rw [List.length_cons, Nat.mul_add]
    rcases List.mem_append.mp hr with q | q
    · obtain ⟨p, h1, rfl⟩ := popen1_mem.mp q
      obtain ⟨w, hx⟩ := h x List.mem_cons_self
      have hp := w.2.2.2.1 p h1
      have one : ∀ t, t < 7 → popen1.popenT (V (x / 512)) x b t < b + 7 := fun t ht => by
        rcases popT_cases (V (x / 512)) x hx ht with ⟨u, h2, h3⟩ | ⟨h2, h3⟩
        · rw [h3]; omega
        · rw [h3]; omega
      have a1 := one _ hp.2.1
      have a2 := one _ hp.2.2
      exact ⟨hp.1, by dsimp only; omega, by dsimp only; omega⟩
    · have := popS_bound l (b + st) h.tail r q
      omega
theorem popS_len {V : Nat → xPic} {st : Nat} : ∀ (l : List Nat) (b : Nat), LOk V l → (popS V st l b).length ≤ 4 * l.length
  | [], _, _ => Nat.le_refl _
  | x :: l, b, h => by
    show (popen1 (V (x / 512)) x b ++ popS V st l (b + st)).length ≤ _
    have h1 := popS_len (st := st) l (b + st) h.tail
    have h2 := (h x List.mem_cons_self).1.2.1
    rw [List.length_append, List.length_cons]
    unfold popen1
    rw [List.length_map]
    omega
theorem popS_PB {V : Nat → xPic} {st b : Nat} {l H : List Nat} (h : LOk V l) (hl : l.length ≤ 3) (hs : st ≤ 10) (hb : b ≤ 10) (hH : ∀ t, t ∈ H → t < 7) : PB (popS V st l b, H) := by
  have hm : st * l.length ≤ 10 * 3 := Nat.mul_le_mul hs hl
  refine ⟨fun r hr => ?_, fun t ht => by have := hH t ht; omega, ?_⟩
  · have := popS_bound l b h r hr
    exact ⟨this.1, by omega, by omega⟩
  · have := popS_len (st := st) l b h
    show (popS V st l b).length ≤ 12
    omega
def up5 (t : Nat) : Nat := if t < 7 then t else 10 + 10 * ((t - 7) / 5) + (t - 7) % 5 + 2
def dn5 (t : Nat) : Nat := if t < 10 then t else 5 + 5 * ((t - 10) / 10) + (t - 10) % 10
theorem up5_rows {V : Nat → xPic} : ∀ (l : List Nat) (i : Nat), LOk V l → ∀ r, r ∈ popS V 5 l (5 + 5 * i) → (r.1, up5 r.2.1, up5 r.2.2) ∈ popS V 10 l (10 + 10 * i)
  | [], _, _, r, hr => absurd hr List.not_mem_nil
  | x :: l, i, h, r, hr => by
    obtain ⟨w, hx⟩ := h x List.mem_cons_self
    rcases List.mem_append.mp hr with q | q
    · refine List.mem_append_left _ (popen1_map (f := up5) (b' := 10 + 10 * i) w hx (fun t ht => if_pos ht) (fun t h2 h7 => ?_) q)
      unfold up5
      rw [if_neg (by omega)]
      omega
    · exact List.mem_append_right _ (up5_rows l (i + 1) h.tail r q)
theorem dn5_rows {V : Nat → xPic} : ∀ (l : List Nat) (i : Nat), LOk V l → ∀ r, r ∈ popS V 10 l (10 + 10 * i) → (r.1, dn5 r.2.1, dn5 r.2.2) ∈ popS V 5 l (5 + 5 * i)
  | [], _, _, r, hr => absurd hr List.not_mem_nil
  | x :: l, i, h, r, hr => by
    obtain ⟨w, hx⟩ := h x List.mem_cons_self
    rcases List.mem_append.mp hr with q | q
    · refine List.mem_append_left _ (popen1_map (f := dn5) (b' := 5 + 5 * i) w hx (fun t ht => if_pos (by omega)) (fun t h2 h7 => ?_) q)
      unfold dn5
      rw [if_neg (by omega)]
      omega
    · exact List.mem_append_right _ (dn5_rows l (i + 1) h.tail r q)
theorem map_fix {f : Nat → Nat} {H : List Nat} (hH : ∀ t, t ∈ H → t < 7) (h : ∀ t, t < 7 → f t = t) : H.map f = H := by
  refine (List.map_congr_left (g := id) (fun t ht => h t (hH t ht))).trans (List.map_id _)
/-- names of the opened picture may be numbered in fives -/
theorem open5_iff {K : Nat} {V : Nat → xPic} {l H : List Nat} {q : xPic} (h : LOk V l) (hl : l.length ≤ 3) (hH : ∀ t, t ∈ H → t < 7) (w : PicWf q) : pWithin (pEnd K (popS V 5 l 5, H)) q ↔ pWithin (pEnd K (popen V l 10, H)) q := by
  have b5 : PB (popS V 5 l 5, H) := popS_PB h hl (by decide) (by decide) hH
  have b10 : PB (popS V 10 l 10, H) := popS_PB h hl (by decide) (by decide) hH
  rw [← popS_10]
  constructor
  · refine within_hom b5 b10 w (f := up5) ⟨fun t ht => if_pos (by omega), up5_rows l 0 h, map_fix hH (fun t ht => if_pos ht)⟩
  · refine within_hom b10 b5 w (f := dn5) ⟨fun t ht => if_pos (by omega), dn5_rows l 0 h, map_fix hH (fun t ht => if_pos (by omega))⟩
-- one show more
def upc (c t : Nat) : Nat := if t < c then t else t + 10
theorem upc_tail {V : Nat → xPic} {c : Nat} (hc : 7 ≤ c) : ∀ (l : List Nat) (b : Nat), c ≤ b → LOk V l → ∀ r, r ∈ popS V 10 l b → (r.1, upc c r.2.1, upc c r.2.2) ∈ popS V 10 l (b + 10)
  | [], _, _, _, r, hr => absurd hr List.not_mem_nil
  | x :: l, b, hb, h, r, hr => by
    obtain ⟨w, hx⟩ := h x List.mem_cons_self
    rcases List.mem_append.mp hr with q | q
    · refine List.mem_append_left _ (popen1_map (f := upc c) (b' := b + 10) w hx (fun t ht => if_pos (by omega)) (fun t h2 h7 => ?_) q)
      unfold upc
      rw [if_neg (by omega)]
      omega
    · exact List.mem_append_right _ (upc_tail hc l (b + 10) (by omega) h.tail r q)
theorem upc_rows {V : Nat → xPic} {x : Nat} {B : List Nat} : ∀ (A : List Nat) (b : Nat), 10 ≤ b → LOk V (A ++ B) → ∀ r, r ∈ popS V 10 (A ++ B) b → (r.1, upc (b + 10 * A.length) r.2.1, upc (b + 10 * A.length) r.2.2) ∈ popS V 10 (A ++ x :: B) b
  | [], b, hb, h, r, hr => by
    refine List.mem_append_right _ ?_
    exact upc_tail (c := b + 10 * ([] : List Nat).length) (by rw [List.length_nil]; omega) B b (by rw [List.length_nil]; omega) h r hr
  | a :: A, b, hb, h, r, hr => by
    obtain ⟨w, hx⟩ := h a List.mem_cons_self
    rw [List.length_cons, show b + 10 * (A.length + 1) = b + 10 + 10 * A.length by omega]
    rcases List.mem_append.mp hr with q | q
    · refine List.mem_append_left _ (popen1_map (f := upc (b + 10 + 10 * A.length)) (b' := b) w hx (fun t ht => if_pos (by omega)) (fun t h2 h7 => if_pos (by omega)) q)
    · exact List.mem_append_right _ (upc_rows A (b + 10) (by omega) h.tail r q)
theorem covL_more {K : Nat} {V : Nat → xPic} {a : xPic} {E : xPic × Nat × Bool} {A B : List Nat} {x : Nat} (h : LOk V (A ++ x :: B)) (hl : (A ++ x :: B).length ≤ 3) (hH : ∀ t, t ∈ E.1.2 → t < 7) (w : PicWf a) (c : pCovL K V a E (A ++ B)) : pCovL K V a E (A ++ x :: B) := by
  have hs : LOk V (A ++ B) := fun y hy => h y (by
    rcases List.mem_append.mp hy with q | q
    · exact List.mem_append_left _ q
    · exact List.mem_append_right _ (List.mem_cons_of_mem _ q))
  have hl2 : (A ++ B).length ≤ 3 := by
    rw [List.length_append, List.length_cons] at hl
    rw [List.length_append]
    omega
  refine ⟨fun t ht => ?_, ?_⟩
  · rcases c.1 t ht with q | ⟨y, h1, k, h2, h3⟩
    · exact Or.inl q
    · refine Or.inr ⟨y, ?_, k, h2, h3⟩
      rcases List.mem_append.mp h1 with q | q
      · exact List.mem_append_left _ q
      · exact List.mem_append_right _ (List.mem_cons_of_mem _ q)
  · have b1 : PB (popS V 10 (A ++ B) 10, E.1.2) := popS_PB hs hl2 (by decide) (by decide) hH
    have b2 : PB (popS V 10 (A ++ x :: B) 10, E.1.2) := popS_PB h hl (by decide) (by decide) hH
    have c2 := c.2
    rw [← popS_10] at c2 ⊢
    exact within_hom b1 b2 w (f := upc (10 + 10 * A.length)) ⟨fun t ht => if_pos (by omega), upc_rows A 10 (by omega) hs, map_fix hH (fun t ht => if_pos (by omega))⟩ c2
-- sets of shows as bits
theorem pbits_mem {set n s : Nat} : s ∈ pbits set n ↔ s < n ∧ set.testBit s = true := by
  unfold pbits
  rw [List.mem_filter, List.mem_range]
theorem pbits_srt (set n : Nat) : Srt (pbits set n) := srt_filter _ (srt_range n)
theorem filter_ne {s : Nat} : ∀ (l : List Nat), ¬ s ∈ l → l.filter (fun j => decide (¬ j = s)) = l
  | [], _ => rfl
  | a :: l, h => by
    rw [List.filter_cons, if_pos (by rw [decide_eq_true_eq]; exact fun e => h (e ▸ List.mem_cons_self)), filter_ne l (fun q => h (List.mem_cons_of_mem _ q))]
theorem pbits_sub {set sub n s : Nat} (hs : s < n) (hb : set.testBit s = true) (h : ∀ j, sub.testBit j = (set.testBit j && decide (¬ j = s))) : ∃ A B, pbits set n = A ++ s :: B ∧ pbits sub n = A ++ B := by
  obtain ⟨A, B, e⟩ := List.append_of_mem (pbits_mem.mpr ⟨hs, hb⟩)
  refine ⟨A, B, e, ?_⟩
  have e2 : pbits sub n = (pbits set n).filter (fun j => decide (¬ j = s)) := by
    unfold pbits
    rw [List.filter_filter]
    congr 1
    funext j
    rw [h j, Bool.and_comm]
  have srt := pbits_srt set n
  rw [e] at srt
  obtain ⟨_, p2, p3⟩ := List.pairwise_append.mp srt
  have nA : ¬ s ∈ A := fun q => Nat.lt_irrefl _ (p3 s q s List.mem_cons_self)
  have nB : ¬ s ∈ B := fun q => Nat.lt_irrefl _ ((List.pairwise_cons.mp p2).1 s q)
  rw [e2, e, List.filter_append, filter_ne A nA, List.filter_cons, if_neg (by simp), filter_ne B nB]
/-- shows of an ask that are in bounds -/
def ShOk (V : Nat → xPic) (sh : List Nat) : Prop := LOk V sh ∧ sh.length ≤ 12
theorem ShOk.list {V : Nat → xPic} {sh : List Nat} (h : ShOk V sh) (set : Nat) : LOk V ((pbits set sh.length).map (fun s => sh.getD s 0)) := fun x hx => by
  obtain ⟨s, h1, rfl⟩ := List.mem_map.mp hx
  exact h.1 _ (getD_memD (pbits_mem.mp h1).1)
theorem cov_more {K : Nat} {V : Nat → xPic} {a : xPic} {E : xPic × Nat × Bool} {sh : List Nat} {set sub s : Nat} (h : ShOk V sh) (hH : ∀ t, t ∈ E.1.2 → t < 7) (w : PicWf a) (hN : E.2.2 = false) (hs : s < sh.length) (hb : set.testBit s = true) (hsub : ∀ j, sub.testBit j = (set.testBit j && decide (¬ j = s))) (h3 : (pbits set sh.length).length ≤ 3) (c : pCov K V a E sh sub) : pCov K V a E sh set := by
  obtain ⟨A, B, e1, e2⟩ := pbits_sub hs hb hsub
  rcases c with ⟨c, _⟩ | ⟨_, c1, c2, c3⟩
  · rw [hN] at c; cases c
  · refine Or.inr ⟨hN, ?_, h3, ?_⟩
    · rw [e1, List.length_append, List.length_cons]; omega
    · have hl := h.list set
      rw [e2, List.map_append] at c3
      rw [e1, List.map_append, List.map_cons] at hl ⊢
      refine covL_more hl ?_ hH w c3
      rw [e1] at h3
      rw [List.length_append, List.length_cons] at h3 ⊢
      rw [List.length_map, List.length_map]
      exact h3
