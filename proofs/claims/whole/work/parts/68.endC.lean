/-! the class's pictures become their ends -/
def RowIs (μ : xM) (ct ca cb i : Nat) (r : xRow) : Prop := xI μ ct i = nI r.1 ∧ xI μ ca i = nI r.2.1 ∧ xI μ cb i = nI r.2.2
theorem getD_memD {α : Type} {l : List α} {i : Nat} {d : α} (h : i < l.length) : l.getD i d ∈ l := by
  rw [List.getD_eq_getElem?_getD, List.getElem?_eq_getElem h]
  exact List.getElem_mem h
theorem mem_getD {α : Type} {l : List α} {x d : α} (h : x ∈ l) : ∃ i, i < l.length ∧ l.getD i d = x := by
  obtain ⟨i, hi, e⟩ := List.getElem_of_mem h
  exact ⟨i, hi, by rw [List.getD_eq_getElem?_getD, List.getElem?_eq_getElem hi]; exact e⟩
theorem drop_succD {α : Type} {l : List α} {i : Nat} (d : α) (h : i < l.length) : l.drop i = l.getD i d :: l.drop (i + 1) := by
  rw [List.drop_eq_getElem_cons h, List.getD_eq_getElem?_getD, List.getElem?_eq_getElem h]
  rfl
theorem getD_map {α β : Type} {f : α → β} {l : List α} {i : Nat} {d : α} {d' : β} (h : i < l.length) : (l.map f).getD i d' = f (l.getD i d) := by
  rw [List.getD_eq_getElem?_getD, List.getD_eq_getElem?_getD, List.getElem?_map, List.getElem?_eq_getElem h]
  rfl
theorem nI64 {a b : Nat} (ha : a < 64) (hb : b < 64) : nI a = nI b ↔ a = b := nI_eq (by omega) (by omega)
theorem row_eq {a b : xRow} (ha : RB a) (hb : RB b) (h1 : nI a.1 = nI b.1) (h2 : nI a.2.1 = nI b.2.1) (h3 : nI a.2.2 = nI b.2.2) : a = b := by
  obtain ⟨a1, a2, a3⟩ := a
  obtain ⟨b1, b2, b3⟩ := b
  obtain ⟨x1, x2, x3⟩ := ha
  obtain ⟨y1, y2, y3⟩ := hb
  dsimp only at *
  rw [(nI64 (by omega) (by omega)).mp h1, (nI64 x2 y2).mp h2, (nI64 x3 y3).mp h3]
theorem psub_eq {hi lo t : Nat} (h : t = hi) : psub hi lo t = lo := if_pos h
theorem psub_ne {hi lo t : Nat} (h : ¬ t = hi) : psub hi lo t = t := if_neg h
theorem inc1 (i : Nat) : nI i + xc 1 = nI (i + 1) := nI_add i 1
section CEND
variable {μ : xM} {p m : Nat}
theorem la_t (h : IsPic μ p m) {i : Nat} (hi : i < m) : ldA μ (p + 2) (nI i) = some (xI μ (p + 2) i) := ldA_k h.2.2.2.2.1 hi (by have := h.2.1; omega)
theorem la_a (h : IsPic μ p m) {i : Nat} (hi : i < m) : ldA μ (p + 3) (nI i) = some (xI μ (p + 3) i) := ldA_k h.2.2.2.2.2.1 hi (by have := h.2.1; omega)
theorem la_b (h : IsPic μ p m) {i : Nat} (hi : i < m) : ldA μ (p + 4) (nI i) = some (xI μ (p + 4) i) := ldA_k h.2.2.2.2.2.2.1 hi (by have := h.2.1; omega)
theorem la_h (h : IsPic μ p m) {i : Nat} (hi : i < 3) : ldA μ (p + 1) (nI i) = some (xI μ (p + 1) i) := ldA_k h.2.2.2.1 hi (by omega)
theorem pf (h : IsPic μ p m) (k : Nat) : ldF μ p 5 k = some (xI μ p k) := ldF_k (ci := 5) k h.2.2.1
theorem pHasRow_ok (h : IsPic μ p m) {R : List xRow} (e0 : xI μ p 0 = nI R.length) (hm : R.length ≤ m) (er : ∀ i, i < R.length → RowIs μ (p + 2) (p + 3) (p + 4) i (R.getD i (0, 0, 0))) (bR : RBs R) {r : xRow} (br : RB r) : fP_hasRow p (nI r.1) (nI r.2.1) (nI r.2.2) μ = some (if r ∈ R then xc 1 else xc 0) := by
  have hm12 := h.2.1
  unfold fP_hasRow fP_hasRow_0
  rw [gd_k h.2.2.1]
  have := xwh_inv (body := fun s : Int32 => fP_hasRow_L3 p (nI r.1) (nI r.2.1) (nI r.2.2) s μ) (fun i s => s = nI i ∧ ∀ j, j < i → ¬ R.getD j (0, 0, 0) = r) (fun a => a = if r ∈ R then xc 1 else xc 0) R.length ?_ ?_ R.length 0 (xc 0) (by omega) ⟨rfl, fun j hj => absurd hj (by omega)⟩
  · obtain ⟨a, h1, h2⟩ := this
    rw [h1, h2]
  · rintro i s hi ⟨rfl, hn⟩
    obtain ⟨r1, r2, r3⟩ := er i hi
    have bi := bR _ (getD_memD (d := (0, 0, 0)) hi)
    have c0 : ¬ nI R.length ≤ nI i := nI_ge hi (by omega)
    have t1 := la_t h (i := i) (by omega)
    have t2 := la_a h (i := i) (by omega)
    have t3 := la_b h (i := i) (by omega)
    rw [r1] at t1
    rw [r2] at t2
    rw [r3] at t3
    by_cases e : R.getD i (0, 0, 0) = r
    · right
      refine ⟨xc 1, ?_, (if_pos (e ▸ getD_memD hi)).symm⟩
      subst e
      simp only [fP_hasRow_L3, pf h, e0, Option.bind_some, c0, if_false, pic_t h, pic_a h, pic_b h, t1, t2, t3, if_true, fP_hasRow_45, Option.map_some]
    · left
      refine ⟨nI (i + 1), ?_, rfl, fun j hj => ?_⟩
      · simp only [fP_hasRow_L3, pf h, e0, Option.bind_some, c0, if_false, pic_t h, pic_a h, pic_b h, t1, t2, t3, fP_hasRow_45, fP_hasRow_47, Option.map_some, inc1]
        split
        · rename_i g1
          split
          · rename_i g2
            split
            · rename_i g3
              exact absurd (row_eq bi br g1 g2 g3) e
            · rfl
          · rfl
        · rfl
      · by_cases q : j = i
        · rw [q]; exact e
        · exact hn j (by omega)
  · rintro s ⟨rfl, hn⟩
    refine ⟨xc 0, ?_, ?_⟩
    · simp only [fP_hasRow_L3, pf h, e0, Option.bind_some, Int32.le_refl, if_true, fP_hasRow_53, Option.map_some]
    · rw [if_neg]
      intro hr
      obtain ⟨i, hi, e⟩ := mem_getD (d := (0, 0, 0)) hr
      exact hn i hi e
theorem addRow2 {R : List xRow} {H : List Nat} (h : IsPic μ p m) (c : PicC μ p (R, H)) (t a b : Nat) (hm : R.length < m) : ∃ μ1, fP_addRow p (nI t) (nI a) (nI b) μ = some μ1 ∧ Fr (fun x k => x = p ∧ k = 0 ∨ (p + 2 ≤ x ∧ x < p + 5) ∧ k = R.length) μ μ1 ∧ PicC μ1 p (R ++ [(t, a, b)], H) := by
  have k := h.2.2.1
  have h2 := h.1
  have hm12 := h.2.1
  obtain ⟨c1, c2, c3, c4⟩ := c
  dsimp only at c1 c2 c3 c4
  have s1 : IsPic (xsI μ (p + 2) R.length (nI t)) p m := h
  have s2 : IsPic (xsI (xsI μ (p + 2) R.length (nI t)) (p + 3) R.length (nI a)) p m := h
  have s3 : IsPic (xsI (xsI (xsI μ (p + 2) R.length (nI t)) (p + 3) R.length (nI a)) (p + 4) R.length (nI b)) p m := h
  have e1 : ldF μ p 5 0 = some (nI R.length) := by rw [ldF_k (ci := 5) 0 k, c1]
  have e2 : ldF (xsI μ (p + 2) R.length (nI t)) p 5 0 = some (nI R.length) := by rw [ldF_k (ci := 5) 0 s1.2.2.1, xI_ne (by omega), c1]
  have e3 : ldF (xsI (xsI μ (p + 2) R.length (nI t)) (p + 3) R.length (nI a)) p 5 0 = some (nI R.length) := by rw [ldF_k (ci := 5) 0 s2.2.2.1, xI_ne (by omega), xI_ne (by omega), c1]
  have e4 : ldF (xsI (xsI (xsI μ (p + 2) R.length (nI t)) (p + 3) R.length (nI a)) (p + 4) R.length (nI b)) p 5 0 = some (nI R.length) := by rw [ldF_k (ci := 5) 0 s3.2.2.1, xI_ne (by omega), xI_ne (by omega), xI_ne (by omega), c1]
  refine ⟨xsI (xsI (xsI (xsI μ (p + 2) R.length (nI t)) (p + 3) R.length (nI a)) (p + 4) R.length (nI b)) p 0 (nI (R.length + 1)), ?_, ((((Fr.refl μ).s _ (by omega)).s _ (by omega)).s _ (by omega)).s _ (by omega), ⟨?_, ?_, fun i hi => ?_, fun i hi => ?_⟩⟩
  · unfold fP_addRow fP_addRow_0
    rw [gd_k k, e1, Option.bind_some, pic_t h, Option.bind_some, alen_k h.2.2.2.2.1 (by decide), Option.bind_some, if_neg (nI_ge hm (by omega)), Option.bind_some, Option.bind_some, stA_k _ h.2.2.2.2.1 hm (by omega) (by omega), Option.bind_some, pic_a s1, Option.bind_some, e2, Option.bind_some, stA_k _ s1.2.2.2.2.2.1 hm (by omega) (by omega), Option.bind_some, pic_b s2, Option.bind_some, e3, Option.bind_some, stA_k _ s2.2.2.2.2.2.2.1 hm (by omega) (by omega), Option.bind_some, e4, Option.bind_some, stF_k (ci := 5) 0 _ s3.2.2.1 h2, Option.bind_some, show nI R.length + xc 1 = nI (R.length + 1) from nI_add _ 1]
  · rw [xI_eq, List.length_append]; rfl
  · simp (disch := omega) only [xI_ne]; exact c2
  · rw [List.length_append] at hi
    dsimp only at hi ⊢
    by_cases e : i = R.length
    · subst e
      rw [getD_app_r]
      simp (disch := omega) only [xI_ne, xI_eq, and_self]
    · have hl : i < R.length := by
        have : i < R.length + 1 := hi
        omega
      rw [getD_app_l hl]
      simp (disch := omega) only [xI_ne]
      exact c3 i hl
  · simp (disch := omega) only [xI_ne]
    exact c4 i hi
theorem dropDoubles_ok (h : IsPic μ p m) {R : List xRow} {H : List Nat} (c : PicC μ p (R, H)) (hm : R.length ≤ m) (bR : RBs R) : ∃ μ1, fP_dropDoubles p μ = some μ1 ∧ Fr (fun x k => x = p ∧ k = 0 ∨ p + 2 ≤ x ∧ x < p + 5) μ μ1 ∧ PicC μ1 p (pdd [] R, H) := by
  have hm12 := h.2.1
  have h2 := h.1
  obtain ⟨c1, c2, c3, c4⟩ := c
  dsimp only at c1 c2 c3 c4
  unfold fP_dropDoubles fP_dropDoubles_0
  rw [gd_k h.2.2.1, pf h, Option.bind_some, c1, stF_k (ci := 5) 0 _ h.2.2.1 h2, Option.bind_some]
  refine xwh_inv (fun i s => s.1 = nI i ∧ Fr (fun x k => x = p ∧ k = 0 ∨ p + 2 ≤ x ∧ x < p + 5) μ s.2 ∧ ∃ acc, pdd acc (R.drop i) = pdd [] R ∧ acc.length ≤ i ∧ RBs acc ∧ PicC s.2 p (acc, H) ∧ ∀ j, i ≤ j → j < R.length → RowIs s.2 (p + 2) (p + 3) (p + 4) j (R.getD j (0, 0, 0))) _ R.length ?_ ?_ R.length 0 _ (by omega) ⟨rfl, (Fr.refl μ).s _ (by omega), [], by rw [List.drop_zero], Nat.le_refl _, fun r hr => absurd hr List.not_mem_nil, ⟨?_, ?_, fun i hi => absurd hi (Nat.not_lt_zero i), fun i hi => ?_⟩, fun j _ hj => ?_⟩
  · rintro i ⟨x, μ'⟩ hi ⟨rfl, f, acc, a1, a2, a3, a4, a5⟩
    left
    have h' := f.pic h
    obtain ⟨r1, r2, r3⟩ := a5 i (Nat.le_refl _) hi
    have t1 := la_t h' (i := i) (by omega)
    have t2 := la_a h' (i := i) (by omega)
    have t3 := la_b h' (i := i) (by omega)
    rw [r1] at t1
    rw [r2] at t2
    rw [r3] at t3
    have br := bR _ (getD_memD (d := (0, 0, 0)) hi)
    have hr := pHasRow_ok h' (R := acc) a4.1 (by omega) (fun j hj => a4.2.2.1 j hj) a3 br
    have c0 : ¬ nI R.length ≤ nI i := nI_ge hi (by omega)
    rw [drop_succD (0, 0, 0) hi] at a1
    by_cases e : R.getD i (0, 0, 0) ∈ acc
    · refine ⟨(nI (i + 1), μ'), ?_, rfl, f, acc, ?_, by omega, a3, a4, fun j hj hj2 => a5 j (by omega) hj2⟩
      · simp only [fP_dropDoubles_L12, c0, if_false, pic_t h', pic_a h', pic_b h', t1, t2, t3, Option.bind_some, hr, if_pos e, xc1F, fP_dropDoubles_64, inc1]
      · rw [← a1, pdd_pos e]
    · obtain ⟨μ2, g1, f2, g2⟩ := addRow2 h' a4 (R.getD i (0, 0, 0)).1 (R.getD i (0, 0, 0)).2.1 (R.getD i (0, 0, 0)).2.2 (by omega)
      refine ⟨(nI (i + 1), μ2), ?_, rfl, f.trans (f2.mono (fun a k q => by omega)), acc ++ [R.getD i (0, 0, 0)], ?_, ?_, ?_, g2, fun j hj hj2 => ?_⟩
      · simp only [fP_dropDoubles_L12, c0, if_false, pic_t h', pic_a h', pic_b h', t1, t2, t3, Option.bind_some, hr, if_neg e, xc0T, if_true, g1, fP_dropDoubles_64, inc1]
      · rw [← a1, pdd_neg e]
      · rw [List.length_append, List.length_singleton]; omega
      · intro r hr
        rcases List.mem_append.mp hr with q | q
        · exact a3 r q
        · rw [List.mem_singleton.mp q]; exact br
      · have := a5 j (by omega) hj2
        unfold RowIs at this ⊢
        rw [f2.I (by omega), f2.I (by omega), f2.I (by omega)]
        exact this
  · rintro ⟨x, μ'⟩ ⟨rfl, f, acc, a1, a2, a3, a4, a5⟩
    refine ⟨μ', ?_, f, ?_⟩
    · simp only [fP_dropDoubles_L12, Int32.le_refl, if_true]
    · rw [List.drop_length, pdd_nil] at a1
      rw [← a1]
      exact a4
  · rw [xI_eq]; rfl
  · rw [xI_ne (by omega)]; exact c2
  · rw [xI_ne (by omega)]; exact c4 i hi
  · have := c3 j hj
    unfold RowIs
    rw [xI_ne (by omega), xI_ne (by omega), xI_ne (by omega)]
    exact this
theorem clashOf_no (h : IsPic μ p m) (K : Nat) : fP_clashOf p (xc (-1)) (nI K) μ = some (xc (-1)) := by
  unfold fP_clashOf fP_clashOf_0 fP_clashOf_17
  rw [gd_k h.2.2.1, if_pos (by decide)]
theorem clashOf_ok (h : IsPic μ p m) {P : xPic} (c : PicC μ p P) (hm : P.1.length ≤ m) (bR : RBs P.1) {K i : Nat} (hK : K < 8) (hi : i < P.1.length) : (pclash1 K (prow P i) (P.1.drop (i + 1)) = none ∧ fP_clashOf p (nI i) (nI K) μ = some (xc (-1))) ∨ ∃ j, i < j ∧ j < P.1.length ∧ pclash1 K (prow P i) (P.1.drop (i + 1)) = some (prow P j).2.2 ∧ fP_clashOf p (nI i) (nI K) μ = some (nI j) := by
  have hm12 := h.2.1
  have bi : RB (prow P i) := bR _ (getD_memD hi)
  have u1 := pic_tv h c hm hi
  have u2 := pic_av h c hm hi
  have u3 := pic_bv h c hm hi
  have bt : (nI K >>> (nI (prow P i).1 &&& 31)) &&& xc 1 = if K.testBit (prow P i).1 then xc 1 else xc 0 := nI_bitAt (by omega) (by have := bi.1; omega)
  by_cases kb : K.testBit (prow P i).1 = true
  · have e : fP_clashOf p (nI i) (nI K) μ = xwh (fun s : Int32 => fP_clashOf_L23 p (nI i) s μ) (nI (i + 1)) := by
      simp only [fP_clashOf, fP_clashOf_0, gd_k (ci := 5) h.2.2.1, nI_pos (show i < 2 ^ 31 by omega), if_false, pic_t h, u1, Option.bind_some, bt, kb, if_true, xc1F, inc1]
    rw [e]
    have := xwh_inv (body := fun s : Int32 => fP_clashOf_L23 p (nI i) s μ) (fun k s => s = nI (i + 1 + k) ∧ pclash1 K (prow P i) (P.1.drop (i + 1 + k)) = pclash1 K (prow P i) (P.1.drop (i + 1)))
      (fun a => (pclash1 K (prow P i) (P.1.drop (i + 1)) = none ∧ a = xc (-1)) ∨ ∃ j, i < j ∧ j < P.1.length ∧ pclash1 K (prow P i) (P.1.drop (i + 1)) = some (prow P j).2.2 ∧ a = nI j) (P.1.length - (i + 1)) ?_ ?_ (P.1.length - (i + 1)) 0 (nI (i + 1)) (by omega) ⟨rfl, rfl⟩
    · obtain ⟨a, a1, a2⟩ := this
      rcases a2 with ⟨b1, rfl⟩ | ⟨j, b1, b2, b3, rfl⟩
      · exact Or.inl ⟨b1, a1⟩
      · exact Or.inr ⟨j, b1, b2, b3, a1⟩
    · rintro k s hk ⟨rfl, hp⟩
      have hj : i + 1 + k < P.1.length := by omega
      have bj : RB (prow P (i + 1 + k)) := bR _ (getD_memD hj)
      have t1 := pic_tv h c hm hj
      have t2 := pic_av h c hm hj
      have t3 := pic_bv h c hm hj
      have c0 : ¬ nI P.1.length ≤ nI (i + 1 + k) := nI_ge hj (by omega)
      rw [drop_succD (0, 0, 0) hj, pcl1_cons] at hp
      by_cases e2 : (prow P (i + 1 + k)).1 = (prow P i).1 ∧ (prow P (i + 1 + k)).2.1 = (prow P i).2.1 ∧ ¬ (prow P (i + 1 + k)).2.2 = (prow P i).2.2
      · right
        have n3 : ¬ nI (prow P (i + 1 + k)).2.2 = nI (prow P i).2.2 := fun q => e2.2.2 ((nI64 bj.2.2 bi.2.2).mp q)
        have hp' : some (prow P (i + 1 + k)).2.2 = pclash1 K (prow P i) (P.1.drop (i + 1)) := (if_pos ⟨kb, e2⟩).symm.trans hp
        refine ⟨nI (i + 1 + k), ?_, Or.inr ⟨i + 1 + k, by omega, hj, hp'.symm, rfl⟩⟩
        simp only [fP_clashOf_L23, h.rowCount c, Option.bind_some, c0, if_false, pic_t h, pic_a h, pic_b h, t1, t2, t3, u1, u2, u3, e2.1, e2.2.1, if_true, n3, fP_clashOf_76, Option.map_some]
      · left
        have hp' : pclash1 K (prow P i) (P.1.drop (i + 1 + k + 1)) = pclash1 K (prow P i) (P.1.drop (i + 1)) := (if_neg (fun q => e2 q.2)).symm.trans hp
        refine ⟨nI (i + 1 + (k + 1)), ?_, rfl, hp'⟩
        simp only [fP_clashOf_L23, h.rowCount c, Option.bind_some, c0, if_false, pic_t h, pic_a h, pic_b h, t1, t2, t3, u1, u2, u3, fP_clashOf_76, fP_clashOf_78, Option.map_some, inc1]
        split
        · rename_i g1
          split
          · rename_i g2
            split
            · rfl
            · rename_i g3
              exact absurd ⟨(nI64 (by have := bj.1; omega) (by have := bi.1; omega)).mp g1, (nI64 bj.2.1 bi.2.1).mp g2, fun q => g3 (by rw [q])⟩ e2
          · rfl
        · rfl
    · rintro s ⟨rfl, hp⟩
      rw [show i + 1 + (P.1.length - (i + 1)) = P.1.length by omega] at hp ⊢
      rw [List.drop_length] at hp
      refine ⟨xc (-1), ?_, Or.inl ⟨hp.symm, rfl⟩⟩
      simp only [fP_clashOf_L23, h.rowCount c, Option.bind_some, Int32.le_refl, if_true, fP_clashOf_84, Option.map_some]
  · left
    simp only [Bool.not_eq_true] at kb
    refine ⟨pcl1_no kb _, ?_⟩
    simp only [fP_clashOf, fP_clashOf_0, gd_k (ci := 5) h.2.2.1, nI_pos (show i < 2 ^ 31 by omega), if_false, pic_t h, u1, Option.bind_some, bt, kb, Bool.false_eq_true, xc0T, if_true, fP_clashOf_17]
theorem firstClashing_ok (h : IsPic μ p m) {P : xPic} (c : PicC μ p P) (hm : P.1.length ≤ m) (bR : RBs P.1) {K : Nat} (hK : K < 8) : (pclash K P.1 = none ∧ fP_firstClashing p (nI K) μ = some (xc (-1))) ∨ ∃ i j, i < P.1.length ∧ j < P.1.length ∧ pclash K P.1 = some ((prow P i).2.2, (prow P j).2.2) ∧ fP_firstClashing p (nI K) μ = some (nI i) ∧ fP_clashOf p (nI i) (nI K) μ = some (nI j) := by
  have hm12 := h.2.1
  unfold fP_firstClashing fP_firstClashing_0
  rw [gd_k h.2.2.1]
  have := xwh_inv (body := fun s : Int32 => fP_firstClashing_L2 p (nI K) s μ) (fun k s => s = nI k ∧ pclash K (P.1.drop k) = pclash K P.1)
    (fun a => (pclash K P.1 = none ∧ a = xc (-1)) ∨ ∃ i j, i < P.1.length ∧ j < P.1.length ∧ pclash K P.1 = some ((prow P i).2.2, (prow P j).2.2) ∧ a = nI i ∧ fP_clashOf p (nI i) (nI K) μ = some (nI j)) P.1.length ?_ ?_ P.1.length 0 (xc 0) (by omega) ⟨rfl, rfl⟩
  · obtain ⟨a, a1, a2⟩ := this
    rcases a2 with ⟨b1, rfl⟩ | ⟨i, j, b1, b2, b3, rfl, b5⟩
    · exact Or.inl ⟨b1, a1⟩
    · exact Or.inr ⟨i, j, b1, b2, b3, a1, b5⟩
  · rintro i s hi ⟨rfl, hp⟩
    have c0 : ¬ nI P.1.length ≤ nI i := nI_ge hi (by omega)
    rw [drop_succD (0, 0, 0) hi] at hp
    rcases clashOf_ok h c hm bR hK hi with ⟨q1, q2⟩ | ⟨j, q1, q2, q3, q4⟩
    · left
      refine ⟨nI (i + 1), ?_, rfl, ?_⟩
      · simp only [fP_firstClashing_L2, h.rowCount c, Option.bind_some, c0, if_false, q2, show (xc (-1) < 0) = True from by decide, if_true, inc1]
      · exact (pcl_no q1).symm.trans hp
    · right
      refine ⟨nI i, ?_, Or.inr ⟨i, j, hi, q2, ?_, rfl, q4⟩⟩
      · simp only [fP_firstClashing_L2, h.rowCount c, Option.bind_some, c0, if_false, q4, nI_pos (show j < 2 ^ 31 by omega), fP_firstClashing_19, Option.map_some]
      · exact hp.symm.trans (pcl_yes q3)
  · rintro s ⟨rfl, hp⟩
    rw [List.drop_length] at hp
    refine ⟨xc (-1), ?_, Or.inl ⟨hp.symm, rfl⟩⟩
    simp only [fP_firstClashing_L2, h.rowCount c, Option.bind_some, Int32.le_refl, if_true, fP_firstClashing_27, Option.map_some]
theorem makeOneH_ok (h : IsPic μ p m) {P : xPic} (c : PicC μ p P) (hl : P.2.length ≤ 3) (bH : HBs P.2) {hi lo : Nat} (b1 : hi < 64) : ∃ μ1, fP_makeOne_79 p (nI lo) (nI hi) μ = some μ1 ∧ Fr (fun x k => x = p ∧ k = 6 ∨ x = p + 1) μ μ1 ∧ PicC μ1 p (P.1, P.2.map (psub hi lo)) ∧ xI μ1 p 6 = xI μ p 6 + xc 1 := by
  have h2 := h.1
  obtain ⟨c1, c2, c3, c4⟩ := c
  unfold fP_makeOne_79
  refine xwh_inv (fun i s => s.1 = nI i ∧ Fr (fun x _ => x = p + 1) μ s.2 ∧ (∀ j, j < i → xI s.2 (p + 1) j = nI (psub hi lo (P.2.getD j 0))) ∧ ∀ j, i ≤ j → j < P.2.length → xI s.2 (p + 1) j = nI (P.2.getD j 0)) _ P.2.length ?_ ?_ P.2.length 0 _ (by omega) ⟨rfl, Fr.refl μ, fun j hj => absurd hj (by omega), fun j _ hj => c4 j hj⟩
  · rintro i ⟨x, μ'⟩ hi' ⟨rfl, f, a1, a2⟩
    left
    have h' := f.pic h
    have e0 : xI μ' p 4 = nI P.2.length := (f.I (by omega)).trans c2
    have c0 : ¬ nI P.2.length ≤ nI i := nI_ge hi' (by omega)
    have t1 := la_h h' (i := i) (by omega)
    rw [a2 i (Nat.le_refl _) hi'] at t1
    have bt : P.2.getD i 0 < 64 := bH _ (getD_memD hi')
    refine ⟨(nI (i + 1), xsI μ' (p + 1) i (nI (psub hi lo (P.2.getD i 0)))), ?_, rfl, f.s _ rfl, fun j hj => ?_, fun j hj hj2 => ?_⟩
    · have s1 : ∀ v, stA μ' (p + 1) (nI i) v = some (xsI μ' (p + 1) i v) := fun v => stA_k v h'.2.2.2.1 (by omega) (by omega) (by omega)
      by_cases q : P.2.getD i 0 = hi
      · rw [psub_eq q]
        simp only [fP_makeOne_L81, fP_makeOne_114, pf h', e0, Option.bind_some, c0, if_false, pic_h h', t1, q, if_true, s1, inc1]
      · have q' : ¬ nI (P.2.getD i 0) = nI hi := fun e => q ((nI64 bt b1).mp e)
        rw [psub_ne q]
        simp only [fP_makeOne_L81, fP_makeOne_114, pf h', e0, Option.bind_some, c0, if_false, pic_h h', t1, q', s1, inc1]
    · by_cases q : j = i
      · subst q; rw [xI_eq]
      · rw [xI_ne (by omega)]; exact a1 j (by omega)
    · rw [xI_ne (by omega)]; exact a2 j (by omega) hj2
  · rintro ⟨x, μ'⟩ ⟨rfl, f, a1, a2⟩
    have h' := f.pic h
    have e0 : xI μ' p 4 = nI P.2.length := (f.I (by omega)).trans c2
    refine ⟨xsI μ' p 6 (xI μ' p 6 + xc 1), ?_, (f.mono (fun a k q => Or.inr q)).s _ (by omega), ⟨?_, ?_, fun i hi => ?_, fun i hi => ?_⟩, ?_⟩
    · simp only [fP_makeOne_L81, fP_makeOne_121, pf h', e0, Option.bind_some, Int32.le_refl, if_true, stF_k (ci := 5) 6 _ h'.2.2.1 h2, Option.map_some]
    · rw [xI_ne (by omega), f.I (by omega)]; exact c1
    · rw [xI_ne (by omega), e0, List.length_map]
    · rw [xI_ne (by omega), xI_ne (by omega), xI_ne (by omega), f.I (by omega), f.I (by omega), f.I (by omega)]; exact c3 i hi
    · dsimp only at hi ⊢
      rw [List.length_map] at hi
      rw [xI_ne (by omega), a1 i hi, getD_map (d := 0) hi]
    · rw [xI_eq, f.I (by omega)]
theorem makeOne_ok (h : IsPic μ p m) {P : xPic} (c : PicC μ p P) (hm : P.1.length ≤ m) (hl : P.2.length ≤ 3) (bR : RBs P.1) (bH : HBs P.2) {hi lo : Nat} (b1 : hi < 64) (b2 : 2 ≤ hi) : ∃ μ1, fP_makeOne p (nI lo) (nI hi) μ = some μ1 ∧ Fr (fun x k => x = p ∧ k = 6 ∨ x = p + 1 ∨ x = p + 3 ∨ x = p + 4) μ μ1 ∧ PicC μ1 p (P.1.map (psubR hi lo), P.2.map (psub hi lo)) ∧ xI μ1 p 6 = xI μ p 6 + xc 1 := by
  have hm12 := h.2.1
  have h2 := h.1
  have cc := c
  obtain ⟨c1, c2, c3, c4⟩ := c
  unfold fP_makeOne fP_makeOne_0
  rw [gd_k h.2.2.1, if_pos (show xc 2 ≤ nI hi from nI_le (a := 2) b2 (by omega))]
  refine xwh_inv (fun i s => s.1 = nI i ∧ Fr (fun x _ => x = p + 3 ∨ x = p + 4) μ s.2 ∧ (∀ j, j < i → RowIs s.2 (p + 2) (p + 3) (p + 4) j (psubR hi lo (P.1.getD j (0, 0, 0)))) ∧ ∀ j, i ≤ j → j < P.1.length → RowIs s.2 (p + 2) (p + 3) (p + 4) j (P.1.getD j (0, 0, 0))) _ P.1.length ?_ ?_ P.1.length 0 _ (by omega) ⟨rfl, Fr.refl μ, fun j hj => absurd hj (by omega), ?_⟩
  · rintro i ⟨x, μ'⟩ hi' ⟨rfl, f, a1, a2⟩
    left
    have h' := f.pic h
    have e0 : xI μ' p 0 = nI P.1.length := (f.I (by omega)).trans c1
    have c0 : ¬ nI P.1.length ≤ nI i := nI_ge hi' (by omega)
    obtain ⟨r1, r2, r3⟩ := a2 i (Nat.le_refl _) hi'
    have br : RB (P.1.getD i (0, 0, 0)) := bR _ (getD_memD hi')
    have t2 := la_a h' (i := i) (by omega)
    rw [r2] at t2
    refine ⟨(nI (i + 1), xsI (xsI μ' (p + 3) i (nI (psub hi lo (P.1.getD i (0, 0, 0)).2.1))) (p + 4) i (nI (psub hi lo (P.1.getD i (0, 0, 0)).2.2))), ?_, rfl, (f.s _ (Or.inl rfl)).s _ (Or.inr rfl), fun j hj => ?_, fun j hj hj2 => ?_⟩
    · have s1 : ∀ v, stA μ' (p + 3) (nI i) v = some (xsI μ' (p + 3) i v) := fun v => stA_k v h'.2.2.2.2.2.1 (by omega) (by omega) (by omega)
      have hv : ∀ v, IsPic (xsI μ' (p + 3) i v) p m := fun v => h'
      have t3 : ∀ v, ldA (xsI μ' (p + 3) i v) (p + 4) (nI i) = some (nI (P.1.getD i (0, 0, 0)).2.2) := fun v => by rw [la_b (hv v) (by omega), xI_ne (by omega), r3]
      have s2 : ∀ v w, stA (xsI μ' (p + 3) i v) (p + 4) (nI i) w = some (xsI (xsI μ' (p + 3) i v) (p + 4) i w) := fun v w => stA_k w (hv v).2.2.2.2.2.2.1 (by omega) (by omega) (by omega)
      have two : ∀ v, fP_makeOne_46 p (nI lo) (nI hi) (nI i) v (nI i) (p + 3) μ' = some (.inl (nI (i + 1), xsI (xsI μ' (p + 3) i v) (p + 4) i (nI (psub hi lo (P.1.getD i (0, 0, 0)).2.2)))) := fun v => by
        by_cases q : (P.1.getD i (0, 0, 0)).2.2 = hi
        · rw [psub_eq q]
          simp only [fP_makeOne_46, fP_makeOne_72, s1, Option.bind_some, pic_b (hv v), t3, q, if_true, s2, inc1]
        · have q' : ¬ nI (P.1.getD i (0, 0, 0)).2.2 = nI hi := fun e => q ((nI64 br.2.2 b1).mp e)
          rw [psub_ne q]
          simp only [fP_makeOne_46, fP_makeOne_72, s1, Option.bind_some, pic_b (hv v), t3, q', if_false, s2, inc1]
      by_cases q : (P.1.getD i (0, 0, 0)).2.1 = hi
      · rw [psub_eq q]
        simp only [fP_makeOne_L13, pf h', e0, Option.bind_some, c0, if_false, pic_a h', t2, q, if_true, two]
      · have q' : ¬ nI (P.1.getD i (0, 0, 0)).2.1 = nI hi := fun e => q ((nI64 br.2.1 b1).mp e)
        rw [psub_ne q]
        simp only [fP_makeOne_L13, pf h', e0, Option.bind_some, c0, if_false, pic_a h', t2, q', two]
    · by_cases q : j = i
      · subst q
        refine ⟨?_, ?_, ?_⟩
        · rw [xI_ne (by omega), xI_ne (by omega)]; exact r1
        · rw [xI_ne (by omega), xI_eq]; rfl
        · rw [xI_eq]; rfl
      · have := a1 j (by omega)
        unfold RowIs at this ⊢
        simp (disch := omega) only [xI_ne]
        exact this
    · have := a2 j (by omega) hj2
      unfold RowIs at this ⊢
      simp (disch := omega) only [xI_ne]
      exact this
  · rintro ⟨x, μ'⟩ ⟨rfl, f, a1, a2⟩
    have h' := f.pic h
    have e0 : xI μ' p 0 = nI P.1.length := (f.I (by omega)).trans c1
    have cc' : PicC μ' p (P.1.map (psubR hi lo), P.2) := by
      refine ⟨?_, ?_, fun i hi' => ?_, fun i hi' => ?_⟩
      · rw [e0, List.length_map]
      · rw [f.I (by omega)]; exact c2
      · dsimp only at hi' ⊢
        rw [List.length_map] at hi'
        rw [getD_map (d := (0, 0, 0)) hi']
        exact a1 i hi'
      · rw [f.I (by omega)]; exact c4 i hi'
    obtain ⟨μ1, g1, f2, g2, g3⟩ := makeOneH_ok h' cc' hl bH (lo := lo) b1
    refine ⟨μ1, ?_, (f.mono (fun a k q => by omega)).trans (f2.mono (fun a k q => by omega)), g2, ?_⟩
    · simp only [fP_makeOne_L13, pf h', e0, Option.bind_some, Int32.le_refl, if_true, g1, Option.map_some]
    · rw [g3, f.I (by omega)]
  · intro j _ hj
    exact c3 j hj
theorem nI_max {a b : Nat} (ha : a < 64) (hb : b < 64) : (if nI a < nI b then nI b else nI a) = nI (max a b) := by
  by_cases q : a < b
  · rw [if_pos (nI_lt q (by omega)), Nat.max_eq_right (by omega)]
  · rw [if_neg (nI_nlt (by omega) (by omega)), Nat.max_eq_left (by omega)]
theorem nI_min {a b : Nat} (ha : a < 64) (hb : b < 64) : (if nI b < nI a then nI b else nI a) = nI (min a b) := by
  by_cases q : b < a
  · rw [if_pos (nI_lt q (by omega)), Nat.min_eq_right (by omega)]
  · rw [if_neg (nI_nlt (by omega) (by omega)), Nat.min_eq_left (by omega)]
theorem becomeEnd_ok (h : IsPic μ p m) {P : xPic} (c : PicC μ p P) (hm : P.1.length ≤ m) (hl : P.2.length ≤ 3) (bR : RBs P.1) (bH : HBs P.2) {K : Nat} (hK : K < 8) (z6 : xI μ p 6 = nI 0) (z7 : xI μ p 7 = nI 0) : ∃ μ1, fP_becomeEnd p (nI K) μ = some μ1 ∧ Fr (fun x _ => p ≤ x ∧ x < p + 5) μ μ1 ∧ PicC μ1 p (pEnd K P).1 ∧ xI μ1 p 6 = nI (pEnd K P).2.1 ∧ xI μ1 p 7 = if (pEnd K P).2.2 then 1 else 0 := by
  have hm12 := h.2.1
  have h2 := h.1
  obtain ⟨μ0, d1, f0, d2⟩ := dropDoubles_ok h c hm bR
  have hE : pEnd K P = pend K 60 (pdd [] P.1, P.2) 0 := rfl
  have l0 : (pdd [] P.1).length ≤ m := by
    have := pdd_len P.1 []
    rw [List.length_nil] at this
    omega
  generalize hP0 : ((pdd [] P.1, P.2) : xPic) = P0 at hE d2
  have e01 : P0.1.length ≤ m := by rw [← hP0]; exact l0
  have e02 : P0.2.length ≤ 3 := by rw [← hP0]; exact hl
  have e03 : RBs P0.1 := by rw [← hP0]; exact bR.dd
  have e04 : HBs P0.2 := by rw [← hP0]; exact bH
  have e05 : P0.1.Nodup := by rw [← hP0]; exact pdd_nodup P.1 [] List.nodup_nil
  rw [hE]
  obtain ⟨E, hE0⟩ : ∃ E, E = pend K 60 P0 0 := ⟨_, rfl⟩
  rw [← hE0]
  unfold fP_becomeEnd fP_becomeEnd_0
  rw [gd_k h.2.2.1, d1, Option.bind_some]
  refine xwh_inv (fun k s => s.1 = nI k ∧ Fr (fun x _ => p ≤ x ∧ x < p + 5) μ s.2 ∧ ((∃ P' n', k + pN P'.1 ≤ 2 * m ∧ E = pend K (60 - k) P' n' ∧ PicC s.2 p P' ∧ xI s.2 p 6 = nI n' ∧ xI s.2 p 7 = nI 0 ∧ P'.1.length ≤ m ∧ P'.2.length ≤ 3 ∧ RBs P'.1 ∧ HBs P'.2 ∧ P'.1.Nodup) ∨ (PicC s.2 p (E).1 ∧ xI s.2 p 6 = nI (E).2.1 ∧ xI s.2 p 7 = 1 ∧ (E).2.2 = true))) _ (2 * m + 1) ?_ ?_ (2 * m + 1) 0 _ (by omega) ⟨rfl, f0.mono (fun a k q => by omega), Or.inl ⟨P0, 0, ?_, hE0, d2, ?_, ?_, e01, e02, e03, e04, e05⟩⟩
  · rintro k ⟨x, μ'⟩ hk ⟨rfl, f, hx⟩
    have h' := f.pic h
    have cn : ¬ xc 2 * nI m < nI k := by
      rw [show xc 2 * nI m = nI (2 * m) from pk_mul 2 m]
      exact nI_nlt (by omega) (by omega)
    rcases hx with ⟨P', n', x1, x2, x3, x4, x5, x6, x7, x8, x9, x10⟩ | ⟨x1, x2, x3, x4⟩
    · have x5' : xI μ' p 7 = 0 := x5
      have hf : 60 - k = (59 - k) + 1 := by omega
      rw [hf, pend_succ] at x2
      rcases firstClashing_ok h' x3 x6 x8 hK with ⟨q1, q2⟩ | ⟨i, j, q1, q2, q3, q4, q5⟩
      · right
        rw [q1] at x2
        refine ⟨μ', ?_, f, ?_, ?_, ?_⟩
        · simp only [fP_becomeEnd_L6, pic_t h', Option.bind_some, alen_k h'.2.2.2.2.1 (by decide), cn, if_false, pf h', x5', if_true, q2, clashOf_no h' K, show (0 ≤ xc (-1)) = False from by decide]
        · rw [x2]; exact x3
        · rw [x2]; exact x4
        · rw [x2, x5']; rfl
      · left
        rw [q3] at x2
        dsimp only at x2
        have bi : RB (prow P' i) := x8 _ (getD_memD q1)
        have bj : RB (prow P' j) := x8 _ (getD_memD q2)
        have v1 := pic_bv h' x3 x6 q1
        have v2 := pic_bv h' x3 x6 q2
        obtain ⟨y1, y2, y3⟩ := pcl_some P'.1 q3
        have evm : fP_becomeEnd_L6 p (nI K) (nI k) μ' = (fP_makeOne p (nI (min (prow P' i).2.2 (prow P' j).2.2)) (nI (max (prow P' i).2.2 (prow P' j).2.2)) μ').bind fun r14 => (fP_dropDoubles p r14).bind fun r15 => some (.inl ((nI (k + 1), r15))) := by
          simp only [fP_becomeEnd_L6, pic_t h', Option.bind_some, alen_k h'.2.2.2.2.1 (by decide), cn, if_false, pf h', x5', if_true, q4, q5, nI_pos' (show j < 2 ^ 31 by omega), pic_b h', v1, v2, nI_max bi.2.2 bj.2.2, nI_min bi.2.2 bj.2.2, inc1]
        by_cases hmx : max (prow P' i).2.2 (prow P' j).2.2 < 2
        · rw [if_pos hmx] at x2
          have mk : fP_makeOne p (nI (min (prow P' i).2.2 (prow P' j).2.2)) (nI (max (prow P' i).2.2 (prow P' j).2.2)) μ' = some (xsI μ' p 7 (xc 1)) := by
            unfold fP_makeOne fP_makeOne_0
            rw [gd_k h'.2.2.1, if_neg (show ¬ xc 2 ≤ nI (max (prow P' i).2.2 (prow P' j).2.2) from nI_ge (b := 2) hmx (by decide)), stFZ_k (ci := 5) (μ := μ') (v := xc 1) 7 h'.2.2.1 h2 (Or.inr rfl), Option.bind_some]
          have h'' : IsPic (xsI μ' p 7 (xc 1)) p m := h'
          have c'' : PicC (xsI μ' p 7 (xc 1)) p P' := by
            obtain ⟨c1, c2, c3, c4⟩ := x3
            refine ⟨?_, ?_, fun i hi => ?_, fun i hi => ?_⟩
            · rw [xI_ne (by omega)]; exact c1
            · rw [xI_ne (by omega)]; exact c2
            · rw [xI_ne (by omega), xI_ne (by omega), xI_ne (by omega)]; exact c3 i hi
            · rw [xI_ne (by omega)]; exact c4 i hi
          obtain ⟨μ2, g1, f2, g2⟩ := dropDoubles_ok h'' c'' x6 x8
          have idem : pdd [] P'.1 = P'.1 := pdd_self P'.1 [] x10
          refine ⟨(nI (k + 1), μ2), ?_, rfl, (f.s _ (by omega)).trans (f2.mono (fun a k q => by omega)), Or.inr ⟨?_, ?_, ?_, ?_⟩⟩
          · rw [evm, mk, Option.bind_some, g1, Option.bind_some]
          · rw [x2]; rw [idem] at g2; exact g2
          · rw [x2, f2.I (by omega), xI_ne (by omega)]; exact x4
          · rw [f2.I (by omega), xI_eq]; rfl
          · rw [x2]
        · rw [if_neg hmx] at x2
          have hb64 : max (prow P' i).2.2 (prow P' j).2.2 < 64 := by
            have := bi.2.2
            have := bj.2.2
            omega
          obtain ⟨μ2, g1, f2, g2, g3⟩ := makeOne_ok h' x3 x6 x7 x8 x9 (lo := min (prow P' i).2.2 (prow P' j).2.2) hb64 (by omega)
          have h'' := f2.pic h'
          have bb : RBs (P'.1.map (psubR (max (prow P' i).2.2 (prow P' j).2.2) (min (prow P' i).2.2 (prow P' j).2.2))) := by
            intro r hr
            obtain ⟨q, hq, rfl⟩ := List.mem_map.mp hr
            have := x8 q hq
            have hm : min (prow P' i).2.2 (prow P' j).2.2 < 64 := by omega
            exact ⟨this.1, psub_lt hm this.2.1, psub_lt hm this.2.2⟩
          obtain ⟨μ3, g4, f3, g5⟩ := dropDoubles_ok h'' g2 (by rw [List.length_map]; exact x6) bb
          have hN := pnext_N x8 y1 y2 y3 hmx
          have hB := pnext_b x8 x9 (isTm_lt x8 y2) (isTm_lt x8 y3)
          have hL := pnext_len (prow P' i).2.2 (prow P' j).2.2 P'
          refine ⟨(nI (k + 1), μ3), ?_, rfl, (f.trans (f2.mono (fun a k q => by omega))).trans (f3.mono (fun a k q => by omega)), Or.inl ⟨pnext (prow P' i).2.2 (prow P' j).2.2 P', n' + 1, by omega, ?_, g5, ?_, ?_, by omega, by omega, hB.1, hB.2, pdd_nodup _ [] List.nodup_nil⟩⟩
          · rw [evm, g1, Option.bind_some, g4, Option.bind_some]
          · rw [x2, show 60 - (k + 1) = 59 - k by omega]
          · rw [f3.I (by omega), g3, x4, inc1]
          · rw [f3.I (by omega), f2.I (by omega)]; exact x5
    · right
      refine ⟨μ', ?_, f, x1, x2, ?_⟩
      · simp only [fP_becomeEnd_L6, pic_t h', Option.bind_some, alen_k h'.2.2.2.2.1 (by decide), cn, if_false, pf h', x3, show ((1 : Int32) = 0) = False from by decide]
      · rw [x4, x3]; rfl
  · rintro ⟨x, μ'⟩ ⟨rfl, f, hx⟩
    have h' := f.pic h
    have cn : xc 2 * nI m < nI (2 * m + 1) := by
      rw [show xc 2 * nI m = nI (2 * m) from pk_mul 2 m]
      exact nI_lt (by omega) (by omega)
    rcases hx with ⟨P', n', x1, _⟩ | ⟨x1, x2, x3, x4⟩
    · exact absurd x1 (by omega)
    · refine ⟨μ', ?_, f, x1, x2, ?_⟩
      · simp only [fP_becomeEnd_L6, pic_t h', Option.bind_some, alen_k h'.2.2.2.2.1 (by decide), cn, if_true]
      · rw [x4, x3]; rfl
  · have := pN_le P0.1
    omega
  · rw [f0.I (by omega)]; exact z6
  · rw [f0.I (by omega)]; exact z7
end CEND
