/-! ends and homomorphisms -/
theorem pcl1_none {K : Nat} {r : xRow} : ∀ l, pclash1 K r l = none → ∀ q, q ∈ l → K.testBit r.1 = true → q.1 = r.1 → q.2.1 = r.2.1 → q.2.2 = r.2.2
  | [], _, q, hq, _, _, _ => absurd hq List.not_mem_nil
  | p :: l, h, q, hq, k1, k2, k3 => by
    rw [pcl1_cons] at h
    split at h
    · cases h
    · rename_i c
      rcases List.mem_cons.mp hq with e | e
      · subst e
        by_cases z : q.2.2 = r.2.2
        · exact z
        · exact absurd ⟨k1, k2, k3, z⟩ c
      · exact pcl1_none l h q e k1 k2 k3
theorem pcl_none {K : Nat} : ∀ l, pclash K l = none → ∀ r q, r ∈ l → q ∈ l → K.testBit r.1 = true → q.1 = r.1 → q.2.1 = r.2.1 → q.2.2 = r.2.2
  | [], _, r, _, hr, _, _, _, _ => absurd hr List.not_mem_nil
  | p :: l, h, r, q, hr, hq, k1, k2, k3 => by
    cases hp : pclash1 K p l with
    | some b => rw [pcl_yes hp] at h; cases h
    | none =>
      rw [pcl_no hp] at h
      rcases List.mem_cons.mp hr with e | e
      · subst e
        rcases List.mem_cons.mp hq with e2 | e2
        · rw [e2]
        · exact pcl1_none l hp q e2 k1 k2 k3
      · rcases List.mem_cons.mp hq with e2 | e2
        · subst e2
          exact (pcl1_none l hp r e (by rw [k2]; exact k1) k2.symm k3.symm).symm
        · exact pcl_none l h r q e e2 k1 k2 k3
theorem pcl1_two {K b : Nat} {r : xRow} : ∀ l, pclash1 K r l = some b → ∃ q, q ∈ l ∧ K.testBit r.1 = true ∧ q.1 = r.1 ∧ q.2.1 = r.2.1 ∧ q.2.2 = b
  | [], h => by cases h
  | p :: l, h => by
    rw [pcl1_cons] at h
    split at h
    · rename_i c
      cases h
      exact ⟨p, List.mem_cons_self, c.1, c.2.1, c.2.2.1, rfl⟩
    · obtain ⟨q, h1, h2⟩ := pcl1_two l h
      exact ⟨q, List.mem_cons_of_mem _ h1, h2⟩
theorem pcl_two {K a b : Nat} : ∀ l, pclash K l = some (a, b) → ∃ r q, r ∈ l ∧ q ∈ l ∧ K.testBit r.1 = true ∧ q.1 = r.1 ∧ q.2.1 = r.2.1 ∧ r.2.2 = a ∧ q.2.2 = b
  | [], h => by cases h
  | p :: l, h => by
    cases hp : pclash1 K p l with
    | some c =>
      rw [pcl_yes hp] at h
      cases h
      obtain ⟨q, h1, h2, h3, h4, h5⟩ := pcl1_two l hp
      exact ⟨p, q, List.mem_cons_self, List.mem_cons_of_mem _ h1, h2, h3, h4, rfl, h5⟩
    | none =>
      rw [pcl_no hp] at h
      obtain ⟨r, q, h1, h2, h3⟩ := pcl_two l h
      exact ⟨r, q, List.mem_cons_of_mem _ h1, List.mem_cons_of_mem _ h2, h3⟩
/-- rows to rows, head to head, values to themselves -/
def Hom (f : Nat → Nat) (P Q : xPic) : Prop := (∀ t, t < 2 → f t = t) ∧ (∀ r, r ∈ P.1 → (r.1, f r.2.1, f r.2.2) ∈ Q.1) ∧ P.2.map f = Q.2
theorem Hom.comp {f g : Nat → Nat} {P Q R : xPic} (h : Hom f P Q) (k : Hom g Q R) : Hom (fun t => g (f t)) P R := by
  refine ⟨fun t ht => ?_, fun r hr => ?_, ?_⟩
  · show g (f t) = t
    rw [h.1 t ht]; exact k.1 t ht
  · exact k.2.1 _ (h.2.1 r hr)
  · rw [← k.2.2, ← h.2.2, List.map_map]
    rfl
theorem Hom.dd {f : Nat → Nat} {P Q : xPic} (h : Hom f P Q) : Hom f (pdd [] P.1, P.2) Q := ⟨h.1, fun r hr => h.2.1 r (((pdd_mem _ []).mp hr).resolve_left List.not_mem_nil), h.2.2⟩
theorem Hom.next {f : Nat → Nat} {P Q : xPic} (h : Hom f P Q) {a b : Nat} (e : f a = f b) : Hom f (pnext a b P) Q := by
  have hs : ∀ t, f (psub (max a b) (min a b) t) = f t := fun t => by
    unfold psub
    split
    · rename_i q
      subst q
      rcases Nat.le_total a b with z | z
      · rw [Nat.max_eq_right z, Nat.min_eq_left z, e]
      · rw [Nat.max_eq_left z, Nat.min_eq_right z, e]
    · rfl
  refine ⟨h.1, fun r hr => ?_, ?_⟩
  · obtain ⟨q, hq, rfl⟩ := List.mem_map.mp (((pdd_mem _ []).mp hr).resolve_left List.not_mem_nil)
    show (q.1, f (psub _ _ q.2.1), f (psub _ _ q.2.2)) ∈ Q.1
    rw [hs, hs]
    exact h.2.1 q hq
  · rw [← h.2.2]
    show (P.2.map (psub (max a b) (min a b))).map f = _
    rw [List.map_map]
    apply List.map_congr_left
    intro t _
    exact hs t
/-- what leads into a picture without clashes leads from the end, too -/
theorem pend_hom {K : Nat} {f : Nat → Nat} {Q : xPic} (hQ : pclash K Q.1 = none) : ∀ (n : Nat) (P : xPic) (k : Nat), RBs P.1 → HBs P.2 → pN P.1 < n → Hom f P Q → (pend K n P k).2.2 = false ∧ Hom f (pend K n P k).1 Q
  | 0, P, k, _, _, hn, _ => absurd hn (Nat.not_lt_zero _)
  | n + 1, P, k, hR, hH, hn, h => by
    rw [pend_succ]
    cases hc : pclash K P.1 with
    | none => exact ⟨rfl, h⟩
    | some ab =>
      obtain ⟨a, b⟩ := ab
      dsimp only
      obtain ⟨r, q, r1, r2, r3, r4, r5, r6, r7⟩ := pcl_two P.1 hc
      obtain ⟨y1, y2, y3⟩ := pcl_some P.1 hc
      have h1 := h.2.1 r r1
      have h2 := h.2.1 q r2
      have e : f b = f a := by
        have := pcl_none Q.1 hQ _ _ h1 h2 r3 r4 (by show f q.2.1 = f r.2.1; rw [r5])
        have e2 : f q.2.2 = f r.2.2 := this
        rw [r6, r7] at e2
        exact e2
      by_cases hm : max a b < 2
      · rw [h.1 a (by omega), h.1 b (by omega)] at e
        exact absurd e y1
      · rw [if_neg hm]
        have hB := pnext_b (a := a) (b := b) hR hH (isTm_lt hR y2) (isTm_lt hR y3)
        have hN := pnext_N hR y1 y2 y3 hm
        exact pend_hom hQ n (pnext a b P) (k + 1) hB.1 hB.2 (by omega) (h.next e.symm)
/-- a picture leads into its end, which has no clashes if it isn't nothing -/
theorem pend_into {K : Nat} : ∀ (n : Nat) (P : xPic) (k : Nat), RBs P.1 → HBs P.2 → pN P.1 < n → (∃ f, Hom f P (pend K n P k).1) ∧ ((pend K n P k).2.2 = true ∨ pclash K (pend K n P k).1.1 = none)
  | 0, P, k, _, _, hn => absurd hn (Nat.not_lt_zero _)
  | n + 1, P, k, hR, hH, hn => by
    have hid : Hom (fun t => t) P P := ⟨fun _ _ => rfl, fun r hr => hr, List.map_id _⟩
    rw [pend_succ]
    cases hc : pclash K P.1 with
    | none => exact ⟨⟨_, hid⟩, Or.inr hc⟩
    | some ab =>
      obtain ⟨a, b⟩ := ab
      dsimp only
      obtain ⟨y1, y2, y3⟩ := pcl_some P.1 hc
      by_cases hm : max a b < 2
      · rw [if_pos hm]
        exact ⟨⟨_, hid⟩, Or.inl rfl⟩
      · rw [if_neg hm]
        have hB := pnext_b (a := a) (b := b) hR hH (isTm_lt hR y2) (isTm_lt hR y3)
        have hN := pnext_N hR y1 y2 y3 hm
        obtain ⟨⟨f, hf⟩, h2⟩ := pend_into n (pnext a b P) (k + 1) hB.1 hB.2 (by omega)
        refine ⟨⟨_, Hom.comp (f := psub (max a b) (min a b)) (g := f) ⟨fun t ht => ?_, fun r hr => ?_, rfl⟩ hf⟩, h2⟩
        · exact psub_ne (by omega)
        · exact (pdd_mem _ []).mpr (Or.inr (List.mem_map.mpr ⟨r, hr, rfl⟩))
theorem sat_iff {E : xPic} {q : xPic} (w : PicWf q) (hl : E.2.length = q.2.length) : (∃ g, g ∈ phoms E.1 q.1 gN ∧ q.2.map (pim g) = E.2) ↔ ∃ h, SatR E.1 q.1 h ∧ SatH q.2 E.2 h := by
  constructor
  · rintro ⟨h, hh, e⟩
    refine ⟨h, (phoms_sat _ _ hh).2, fun i hi => ?_⟩
    have hi2 : i < E.2.length := by rw [hl]; exact hi
    rw [List.getD_eq_getElem?_getD, List.getElem?_eq_getElem hi, List.getD_eq_getElem?_getD, List.getElem?_eq_getElem hi2]
    show con h q.2[i] E.2[i]
    refine (pim_con (fun _ => head_led w hh (List.getElem_mem hi))).mpr ?_
    have : (q.2.map (pim h))[i]'(by rw [List.length_map]; exact hi) = E.2[i] := by simp only [e]
    rw [List.getElem_map] at this
    exact this
  · rintro ⟨h, s1, s2⟩
    obtain ⟨k, d1, d2⟩ := sat_phoms q.1 gN (fun t u e => by cases e) s1
    refine ⟨k, d1, ?_⟩
    apply List.ext_getElem
    · rw [List.length_map]; exact hl.symm
    · intro i h1 h2
      rw [List.getElem_map]
      rw [List.length_map] at h1
      have hm : q.2[i] ∈ q.2 := List.getElem_mem h1
      have kn := head_led w d1 hm
      have c := s2 i h1
      rw [List.getD_eq_getElem?_getD, List.getElem?_eq_getElem h1, List.getD_eq_getElem?_getD, List.getElem?_eq_getElem h2] at c
      have c3 : con h q.2[i] E.2[i] := c
      refine (pim_con (fun _ => kn)).mp ?_
      unfold con at c3 ⊢
      have := w.2.2.2.2 _ hm
      rw [if_neg (by omega)] at c3 ⊢
      cases hk : k q.2[i] with
      | none => exact absurd hk kn
      | some u =>
        have := d2 _ _ hk
        rw [c3] at this
        exact this.symm
/-- bounds of a picture that is opened -/
def PB (P : xPic) : Prop := RBs P.1 ∧ HBs P.2 ∧ P.1.length ≤ 12
theorem within_hom {K : Nat} {f : Nat → Nat} {P Q q : xPic} (hP : PB P) (hQ : PB Q) (w : PicWf q) (h : Hom f P Q) (hw : pWithin (pEnd K P) q) : pWithin (pEnd K Q) q := by
  have nP : pN (pdd [] P.1) < 60 := by
    have := pN_le (pdd [] P.1)
    have := pdd_len P.1 []
    rw [List.length_nil] at this
    have := hP.2.2
    omega
  have nQ : pN (pdd [] Q.1) < 60 := by
    have := pN_le (pdd [] Q.1)
    have := pdd_len Q.1 []
    rw [List.length_nil] at this
    have := hQ.2.2
    omega
  obtain ⟨⟨g, hg⟩, hc⟩ := pend_into (K := K) 60 (pdd [] Q.1, Q.2) 0 hQ.1.dd hQ.2.1 nQ
  have tP : TB P 64 := ⟨fun r hr => hP.1 r hr, hP.2.1⟩
  have tQ : TB Q 64 := ⟨fun r hr => hQ.1 r hr, hQ.2.1⟩
  have kP := (pEnd_keep (K := K) tP).2.2
  have kQ := (pEnd_keep (K := K) tQ).2.2
  have hlen : P.2.length = Q.2.length := by rw [← h.2.2, List.length_map]
  have hl : (pEnd K Q).1.2.length = q.2.length := by rw [kQ, ← hlen, ← kP]; exact hw.1
  rcases hc with hc | hc
  · exact ⟨hl, Or.inl hc⟩
  · have into : Hom g Q (pEnd K Q).1 := ⟨hg.1, fun r hr => hg.2.1 r ((pdd_mem _ []).mpr (Or.inr hr)), hg.2.2⟩
    have hom := (h.comp into).dd
    obtain ⟨e1, e2⟩ := pend_hom (K := K) hc 60 (pdd [] P.1, P.2) 0 hP.1.dd hP.2.1 nP hom
    have e2' : Hom (fun t => g (f t)) (pEnd K P).1 (pEnd K Q).1 := e2
    refine ⟨hl, Or.inr ?_⟩
    have hw2 : ∃ g, g ∈ phoms (pEnd K P).1.1 q.1 gN ∧ q.2.map (pim g) = (pEnd K P).1.2 := by
      rcases hw.2 with z | z
      · have e1' : (pEnd K P).2.2 = false := e1
        rw [e1'] at z; cases z
      · exact z
    obtain ⟨a, s1, s2⟩ := (sat_iff w hw.1).mp hw2
    refine (sat_iff w hl).mpr ⟨fun t => (a t).map (fun u => g (f u)), fun r hr => ?_, fun i hi => ?_⟩
    · obtain ⟨e, h1, h2, h3, h4⟩ := s1 r hr
      have cm : ∀ t s, con a t s → con (fun t => (a t).map (fun u => g (f u))) t (g (f s)) := fun t s c => by
        unfold con at c ⊢
        split
        · rename_i z
          rw [if_pos z] at c
          subst c
          exact (e2'.1 t z).symm
        · rename_i z
          rw [if_neg z] at c
          show (a t).map _ = _
          rw [c]
          rfl
      exact ⟨_, e2'.2.1 e h1, h2, cm _ _ h3, cm _ _ h4⟩
    · have c := s2 i hi
      have hi2 : i < (pEnd K P).1.2.length := by rw [hw.1]; exact hi
      have e : (pEnd K Q).1.2.getD i 0 = g (f ((pEnd K P).1.2.getD i 0)) := by
        rw [← e2'.2.2, getD_map (d := 0) hi2]
      rw [e]
      unfold con at c ⊢
      split
      · rename_i z
        rw [if_pos z] at c
        rw [← c]
        exact (e2'.1 _ z).symm
      · rename_i z
        rw [if_neg z] at c
        show (a _).map _ = _
        rw [c]
        rfl
