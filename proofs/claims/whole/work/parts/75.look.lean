/-! the class's sights: ends and shows -/
def WS (s a k : Nat) : Prop := a = s ∧ (k = 2 ∨ k = 3) ∨ a = s + 6
/-- found shows after some more ways, or one too many -/
def More (μ : xM) (s : Nat) (S : List Nat) (C : List Nat) (a : Int32 × xM) : Prop := Fr (WS s) μ a.2 ∧ ∃ S', Srt S' ∧ (∀ y, y ∈ S' → y ∈ S ∨ y ∈ C) ∧ ((a.1 = xc 0 ∧ FoundS a.2 s S' ∧ xI a.2 s 3 = 0 ∧ ∀ y, y ∈ S ∨ y ∈ C → y ∈ S') ∨ (a.1 = xc 1 ∧ S'.length = 13 ∧ xI a.2 s 3 = 1))
section LOOK
variable {s p mp : Nat} {P : xPic} {Q : xPic}
theorem leadA_m1 (f r : Nat) {q : Nat} {view : Int32} (μ : xM) : fL_leadRowsA (f + 1) p q lM1 (nI r) s view μ = some (xc 0, μ) := by
  show fL_leadRowsA_0 _ _ _ _ _ _ _ _ = _
  unfold fL_leadRowsA_0
  rw [if_pos (lg_eq.mpr rfl)]
theorem PicC.ws {μ μ' : xM} {q : Nat} {P : xPic} (c : PicC μ q P) (f : Fr (WS s) μ μ') (d : q + 5 ≤ s ∨ q = s + 1) : PicC μ' q P := c.fr (fun a k h1 h2 => f.I (by unfold WS; omega))
theorem leadA_ok (w : PicWf P) (lp : P.1.length ≤ mp) (dp : p + 5 ≤ s) (bq : TB Q 7) (lq : Q.1.length ≤ 4) {view : Nat} (hv6 : view < 6) : ∀ (k r f : Nat) (g : pG) (v : Int64) (μ : xM) (S : List Nat), IsSight μ s → IsPic μ p mp → PicC μ p P → PicC μ (s + 1) Q → FoundS μ s S → Srt S → (∀ y, y ∈ S → y < 4096) → xI μ s 3 = 0 → r + k = P.1.length → k < f → Led v g → gB 7 g → (∀ t, t ∈ P.2 → k = 0 → g t ≠ none) → (∀ h, h ∈ phoms Q.1 (P.1.drop r) g → ∀ t, t ∈ P.2 → h t ≠ none) → ∃ a, fL_leadRowsA f p (s + 1) v (nI r) s (nI view) μ = some a ∧ More μ s S ((phoms Q.1 (P.1.drop r) g).map (pcd view P)) a
  | k, r, 0, g, v, μ, S, _, _, _, _, _, _, _, _, _, hf, _, _, _, _ => absurd hf (Nat.not_lt_zero k)
  | 0, r, f + 1, g, v, μ, S, hS, hp, cp, cq, hF, hs, hb, h3, hr, _, hl, b7, hn, _ => by
    have hr' : r = P.1.length := hr
    subst hr'
    obtain ⟨⟨x, μ1⟩, t1, t2, S', t3, t4, t5⟩ := takeShow_ok hS hF hs hb hp cp w hv6 hl (fun t ht => by
      cases hg : g t with
      | none => exact absurd hg (hn t ht rfl)
      | some u => exact ⟨u, rfl, b7 t u hg⟩)
    rw [List.drop_length, phoms_nil, List.map_singleton]
    have ev : ∀ z, fL_leadRowsA (f + 1) p (s + 1) v (nI P.1.length) s (nI view) z = (if True then fL_leadRowsA_25 (fL_leadRowsA f) p v s (nI view) z else none) ∨ ¬ (IsPic z p mp ∧ PicC z p P) := fun z => by
      by_cases q : IsPic z p mp ∧ PicC z p P
      · left
        show fL_leadRowsA_0 _ _ _ _ _ _ _ _ = _
        simp only [fL_leadRowsA_0, if_neg (fun e => hl.ne (lg_eq.mp e)), q.1.rowCount q.2, Option.bind_some, Int32.le_refl, if_true]
      · exact Or.inr q
    rcases ev μ with ev | ev
    · rw [ev, if_pos trivial]
      unfold fL_leadRowsA_25
      rw [t1, Option.bind_some]
      rcases t5 with ⟨t5, t6, t7⟩ | ⟨t5, t6, t7⟩
      · have t5' : x = xc 1 := t5
        refine ⟨(xc 0, μ1), by rw [t5']; rfl, t2, S', t3, fun y hy => ?_, Or.inl ⟨rfl, t6, t7.trans h3, fun y hy => ?_⟩⟩
        · exact ((t4 y).mp hy).imp id (fun e => List.mem_singleton.mpr e)
        · exact (t4 y).mpr (hy.imp id (fun e => List.mem_singleton.mp e))
      · have t5' : x = xc 0 := t5
        refine ⟨(xc 1, μ1), by rw [t5']; rfl, t2, S', t3, fun y hy => ?_, Or.inr ⟨rfl, t6, t7⟩⟩
        exact ((t4 y).mp hy).imp id (fun e => List.mem_singleton.mpr e)
    · exact absurd ⟨hp, cp⟩ ev
  | k + 1, r, f + 1, g, v, μ, S, hS, hp, cp, cq, hF, hs, hb, h3, hr, hf, hl, b7, hn, hh => by
    have ih := leadA_ok w lp dp bq lq hv6 k (r + 1) f
    have hrl : r < P.1.length := by omega
    have lp4 := w.2.1
    have ev : fL_leadRowsA (f + 1) p (s + 1) v (nI r) s (nI view) μ = xwh (fun z : Int32 × xM => fL_leadRowsA_L51 (fL_leadRowsA f) p (s + 1) v (nI r) s (nI view) z.1 z.2) (xc 0, μ) := by
      show fL_leadRowsA_0 _ _ _ _ _ _ _ _ = _
      simp only [fL_leadRowsA_0, if_neg (fun e => hl.ne (lg_eq.mp e)), hp.rowCount cp, Option.bind_some, if_neg (nI_ge hrl (show P.1.length < 2 ^ 31 by omega)), if_pos (show nI r < xc 4 from nI_lt (b := 4) (by omega) (by decide))]
    rw [ev]
    have eF : phoms Q.1 (P.1.drop r) g = Q.1.flatMap (pF Q.1 (P.1.drop (r + 1)) (prow P r) g) := by
      rw [drop_succD (0, 0, 0) hrl, phoms_cons]
      rfl
    rw [eF] at hh ⊢
    refine xwh_inv (body := fun z : Int32 × xM => fL_leadRowsA_L51 (fL_leadRowsA f) p (s + 1) v (nI r) s (nI view) z.1 z.2) (fun i z => z.1 = nI i ∧ Fr (WS s) μ z.2 ∧ ∃ S', Srt S' ∧ FoundS z.2 s S' ∧ xI z.2 s 3 = 0 ∧ (∀ y, y ∈ S' → y < 4096) ∧ (∀ y, y ∈ S' → y ∈ S ∨ y ∈ (Q.1.flatMap (pF Q.1 (P.1.drop (r + 1)) (prow P r) g)).map (pcd view P)) ∧ ∀ y, y ∈ S ∨ y ∈ (Q.1.flatMap (pF Q.1 (P.1.drop (r + 1)) (prow P r) g)).map (pcd view P) → y ∈ S' ∨ y ∈ ((Q.1.drop i).flatMap (pF Q.1 (P.1.drop (r + 1)) (prow P r) g)).map (pcd view P)) _ Q.1.length ?_ ?_ Q.1.length 0 _ (by omega) ⟨rfl, Fr.refl μ, S, hs, hF, h3, hb, fun y hy => Or.inl hy, fun y hy => hy⟩
    · rintro i ⟨x, μ'⟩ hi ⟨rfl, ff, S1, s1, s2, s3, s4, s5, s6⟩
      have hS' : IsSight μ' s := ff.sight hS
      have hp' : IsPic μ' p mp := ff.pic hp
      have cp' : PicC μ' p P := cp.ws ff (Or.inl dp)
      have cq' : PicC μ' (s + 1) Q := cq.ws ff (Or.inr rfl)
      have hq' : IsPic μ' (s + 1) 4 := hS'.2.2.2.2.2.2.2
      have br := w.tb.row hrl
      have be := bq.row hi
      have c0 : ¬ nI Q.1.length ≤ nI i := nI_ge hi (by omega)
      rw [drop_succD (0, 0, 0) hi, List.flatMap_cons, show Q.1.getD i (0, 0, 0) = prow Q i from rfl] at s6
      by_cases q1 : (prow Q i).1 = (prow P r).1
      · obtain ⟨v1, v2, g1, g2, g3⟩ := lead2_ok hl (r := prow P r) (e := prow Q i) br.2 (by omega) q1 μ'
        have evb : fL_leadRowsA_L51 (fL_leadRowsA f) p (s + 1) v (nI r) s (nI view) (nI i) μ' = (fL_leadRowsA f p (s + 1) v2 (nI (r + 1)) s (nI view) μ').bind fun r16 => if r16.1 = 0 then some (.inl (nI (i + 1), r16.2)) else some (.inr (xc 1, r16.2)) := by
          simp only [fL_leadRowsA_L51, hq'.rowCount cq', Option.bind_some, c0, if_false, pic_t hq', pic_t hp', pic_a hq', pic_a hp', pic_b hq', pic_b hp', pic_tv hq' cq' lq hi, pic_tv hp' cp' lp hrl, pic_av hq' cq' lq hi, pic_av hp' cp' lp hrl, pic_bv hq' cq' lq hi, pic_bv hp' cp' lp hrl, q1, if_true, g1, g2, inc1, fL_leadRowsA_141, fL_leadRowsA_139, Option.map_some]
        rcases g3 with ⟨g', h1, h2⟩ | ⟨h1, h2⟩
        · have sub : ∀ h, h ∈ phoms Q.1 (P.1.drop (r + 1)) g' → h ∈ Q.1.flatMap (pF Q.1 (P.1.drop (r + 1)) (prow P r) g) := fun h hm => by
            rw [List.mem_flatMap]
            exact ⟨prow Q i, getD_memD hi, by rw [pF_yes h1]; exact hm⟩
          have b7' : gB 7 g' := pstep_B be.2.1 be.2.2 b7 h1
          obtain ⟨⟨x2, μ2⟩, r1, r2, S2, r3, r4, r5⟩ := ih g' v2 μ' S1 hS' hp' cp' cq' s2 s1 s4 s3 (by omega) (by omega) h2 b7' (fun t ht hk => by
            refine hh g' (sub g' ?_) t ht
            have : P.1.drop (r + 1) = [] := List.drop_eq_nil_of_le (by omega)
            rw [this, phoms_nil]
            exact List.mem_singleton.mpr rfl) (fun h hm t ht => hh h (sub h hm) t ht)
          have up : ∀ y, y ∈ S1 ∨ y ∈ (phoms Q.1 (P.1.drop (r + 1)) g').map (pcd view P) → y ∈ S ∨ y ∈ (Q.1.flatMap (pF Q.1 (P.1.drop (r + 1)) (prow P r) g)).map (pcd view P) := fun y hy => by
            rcases hy with hy | hy
            · exact s5 y hy
            · obtain ⟨h, hm, e⟩ := List.mem_map.mp hy
              exact Or.inr (List.mem_map.mpr ⟨h, sub h hm, e⟩)
          rw [pF_yes h1] at s6
          rcases r5 with ⟨r5, r6, r7, r8⟩ | ⟨r5, r6, r7⟩
          · left
            have r5' : x2 = xc 0 := r5
            have bnd : ∀ y, y ∈ S2 → y < 4096 := fun y hy => by
              rcases r4 y hy with z | z
              · exact s4 y z
              · obtain ⟨h, hm, e⟩ := List.mem_map.mp z
                have hB := phoms_B (B := 7) (fun e he => (bq.1 e he).2) (P.1.drop (r + 1)) g' b7' hm
                have : ∀ k, (P.2.map (pim h)).getD k 0 < 7 := fun k => by
                  by_cases q : k < P.2.length
                  · rw [getD_map (d := 0) q]
                    have hm2 := getD_memD (d := 0) q
                    have h27 := w.2.2.2.2 _ hm2
                    unfold pim
                    rw [if_neg (by omega)]
                    cases hg : h (P.2.getD k 0) with
                    | none => exact (by decide)
                    | some u => exact hB _ u hg
                  · rw [List.getD_eq_getElem?_getD, List.getElem?_eq_none (by rw [List.length_map]; omega)]
                    exact (by decide)
                have a0 := this 0
                have a1 := this 1
                have a2 := this 2
                rw [← e]
                unfold pcd pcode
                omega
            refine ⟨(nI (i + 1), μ2), by rw [evb, r1, Option.bind_some, r5']; rfl, rfl, ff.trans r2, S2, r3, r6, r7, bnd, fun y hy => up y (r4 y hy), fun y hy => ?_⟩
            rcases s6 y hy with z | z
            · exact Or.inl (r8 y (Or.inl z))
            · rw [List.map_append, List.mem_append] at z
              rcases z with z | z
              · exact Or.inl (r8 y (Or.inr z))
              · exact Or.inr z
          · right
            have r5' : x2 = xc 1 := r5
            refine ⟨(xc 1, μ2), by rw [evb, r1, Option.bind_some, r5']; rfl, ff.trans r2, S2, r3, fun y hy => up y (r4 y hy), Or.inr ⟨rfl, r6, r7⟩⟩
        · left
          rw [pF_no h1] at s6
          cases f with
          | zero => omega
          | succ f' => exact ⟨(nI (i + 1), μ'), by rw [evb, h2, leadA_m1]; rfl, rfl, ff, S1, s1, s2, s3, s4, s5, s6⟩
      · left
        have q1' : ¬ nI (prow Q i).1 = nI (prow P r).1 := fun z => q1 ((nI64 (by omega) (by omega)).mp z)
        have hno : pstep (prow Q i) (prow P r) g = none := if_neg q1
        rw [pF_no hno] at s6
        refine ⟨(nI (i + 1), μ'), ?_, rfl, ff, S1, s1, s2, s3, s4, s5, s6⟩
        simp only [fL_leadRowsA_L51, hq'.rowCount cq', Option.bind_some, c0, if_false, pic_t hq', pic_t hp', pic_tv hq' cq' lq hi, pic_tv hp' cp' lp hrl, q1', inc1, fL_leadRowsA_141]
    · rintro ⟨x, μ'⟩ ⟨rfl, ff, S1, s1, s2, s3, s4, s5, s6⟩
      have hS' : IsSight μ' s := ff.sight hS
      have cq' : PicC μ' (s + 1) Q := cq.ws ff (Or.inr rfl)
      have hq' : IsPic μ' (s + 1) 4 := hS'.2.2.2.2.2.2.2
      refine ⟨(xc 0, μ'), ?_, ff, S1, s1, s5, Or.inl ⟨rfl, s2, s3, fun y hy => ?_⟩⟩
      · simp only [fL_leadRowsA_L51, hq'.rowCount cq', Option.bind_some, Int32.le_refl, if_true, fL_leadRowsA_147, Option.map_some]
      · rcases s6 y hy with z | z
        · exact z
        · rw [List.drop_length] at z
          exact absurd z List.not_mem_nil
end LOOK
