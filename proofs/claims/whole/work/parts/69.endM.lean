/-! the reference's picture at hand becomes its end -/
def PicE (μ : xM) (P : xPic) : Prop := xI μ 293 29 = nI P.1.length ∧ xI μ 293 33 = nI P.2.length ∧ (∀ i, i < P.1.length → RowIs μ 313 314 315 i (prow P i)) ∧ ∀ i, i < P.2.length → xI μ 316 i = nI (P.2.getD i 0)
def FE (a k : Nat) : Prop := a = 293 ∧ (k = 29 ∨ k = 33 ∨ k = 35 ∨ k = 36) ∨ 313 ≤ a ∧ a ≤ 316
theorem PicE.fr {μ μ' : xM} {P : xPic} {W : Nat → Nat → Prop} (c : PicE μ P) (f : Fr W μ μ') (d : ∀ a k, a = 293 ∧ (k = 29 ∨ k = 33) ∨ 313 ≤ a ∧ a ≤ 316 → ¬ W a k) : PicE μ' P := by
  obtain ⟨c1, c2, c3, c4⟩ := c
  refine ⟨?_, ?_, fun i hi => ?_, fun i hi => ?_⟩
  · rw [f.I (d _ _ (by omega))]; exact c1
  · rw [f.I (d _ _ (by omega))]; exact c2
  · have := c3 i hi
    unfold RowIs at this ⊢
    rw [f.I (d _ _ (by omega)), f.I (d _ _ (by omega)), f.I (d _ _ (by omega))]
    exact this
  · rw [f.I (d _ _ (by omega))]; exact c4 i hi
section MEND
variable {μ : xM}
theorem ix43 (q i : Nat) : xc 4 * nI q + nI i = nI (4 * q + i) := by rw [show xc 4 = nI 4 from rfl, pk_mul, nI_add]
theorem ix33 (q i : Nat) : xc 3 * nI q + nI i = nI (3 * q + i) := by rw [show xc 3 = nI 3 from rfl, pk_mul, nI_add]
theorem loadH_ok (h : Sh μ) {P : xPic} {q : Nat} (c : PicM μ q P) (hq : q < 16) (hl : P.2.length ≤ 3) (e29 : xI μ 293 29 = nI P.1.length) (er : ∀ i, i < P.1.length → RowIs μ 313 314 315 i (prow P i)) : ∃ μ1, fM_load_74 293 (nI q) μ = some μ1 ∧ Fr FE μ μ1 ∧ PicE μ1 P := by
  obtain ⟨c1, c2, c3, c4⟩ := c
  unfold fM_load_74
  have hs : Sh (xsI μ 293 33 (nI P.2.length)) := h
  rw [g293_14 h, Option.bind_some, la303 h hq, Option.bind_some, c2, fs293 h, Option.bind_some]
  refine xwh_inv (fun i s => s.1 = nI i ∧ Fr (fun a k => a = 293 ∧ k = 33 ∨ a = 316) μ s.2 ∧ xI s.2 293 33 = nI P.2.length ∧ ∀ j, j < i → xI s.2 316 j = nI (P.2.getD j 0)) _ P.2.length ?_ ?_ P.2.length 0 _ (by omega) ⟨rfl, (Fr.refl μ).s _ (by omega), xI_eq _ _ _ _, fun j hj => absurd hj (by omega)⟩
  · rintro i ⟨x, μ'⟩ hi ⟨rfl, f, a1, a2⟩
    left
    have h' := f.sh h
    have c0 : ¬ nI P.2.length ≤ nI i := nI_ge hi (by omega)
    have t1 : ldA μ' 304 (nI (3 * q + i)) = some (nI (P.2.getD i 0)) := by rw [la304 h' (by omega), f.I (by omega), c4 i hi]
    refine ⟨(nI (i + 1), xsI μ' 316 i (nI (P.2.getD i 0))), ?_, rfl, f.s _ (by omega), ?_, fun j hj => ?_⟩
    · simp only [fM_load_L86, f293 h', a1, Option.bind_some, c0, if_false, g293_34 h', g293_15 h', ix33, t1, sa316 h' _ (show i < 3 by omega), inc1]
    · rw [xI_ne (by omega)]; exact a1
    · by_cases e : j = i
      · subst e; rw [xI_eq]
      · rw [xI_ne (by omega)]; exact a2 j (by omega)
  · rintro ⟨x, μ'⟩ ⟨rfl, f, a1, a2⟩
    have h' := f.sh h
    refine ⟨μ', ?_, f.mono (fun a k q => by unfold FE; omega), ?_, a1, fun i hi => ?_, a2⟩
    · simp only [fM_load_L86, f293 h', a1, Option.bind_some, Int32.le_refl, if_true]
    · rw [f.I (by omega)]; exact e29
    · have := er i hi
      unfold RowIs at this ⊢
      rw [f.I (by omega), f.I (by omega), f.I (by omega)]
      exact this
theorem load_ok (h : Sh μ) {P : xPic} {q : Nat} (c : PicM μ q P) (hq : q < 16) (hr : P.1.length ≤ 4) (hl : P.2.length ≤ 3) : ∃ μ1, fM_load 293 (nI q) μ = some μ1 ∧ Fr FE μ μ1 ∧ PicE μ1 P := by
  have cc := c
  obtain ⟨c1, c2, c3, c4⟩ := c
  unfold fM_load fM_load_0
  rw [gd293 h, g293_10 h, Option.bind_some, la299 h hq, Option.bind_some, c1, fs293 h, Option.bind_some]
  refine xwh_inv (fun i s => s.1 = nI i ∧ Fr (fun a k => a = 293 ∧ k = 29 ∨ 313 ≤ a ∧ a ≤ 315) μ s.2 ∧ xI s.2 293 29 = nI P.1.length ∧ ∀ j, j < i → RowIs s.2 313 314 315 j (prow P j)) _ P.1.length ?_ ?_ P.1.length 0 _ (by omega) ⟨rfl, (Fr.refl μ).s _ (by omega), xI_eq _ _ _ _, fun j hj => absurd hj (by omega)⟩
  · rintro i ⟨x, μ'⟩ hi ⟨rfl, f, a1, a2⟩
    left
    have h' := f.sh h
    have c0 : ¬ nI P.1.length ≤ nI i := nI_ge hi (by omega)
    have i12 : i < 12 := by omega
    have i64 : 4 * q + i < 64 := by omega
    obtain ⟨r1, r2, r3⟩ := c3 i hi
    have t1 : ldA μ' 300 (nI (4 * q + i)) = some (nI (prow P i).1) := by rw [la300 h' i64, f.I (by omega), r1]; rfl
    have t2 : ∀ v, ldA (xsI μ' 313 i v) 301 (nI (4 * q + i)) = some (nI (prow P i).2.1) := fun v => by rw [la301 (show Sh (xsI μ' 313 i v) from h') i64, xI_ne (by omega), f.I (by omega), r2]; rfl
    have t3 : ∀ v w, ldA (xsI (xsI μ' 313 i v) 314 i w) 302 (nI (4 * q + i)) = some (nI (prow P i).2.2) := fun v w => by rw [la302 (show Sh (xsI (xsI μ' 313 i v) 314 i w) from h') i64, xI_ne (by omega), xI_ne (by omega), f.I (by omega), r3]; rfl
    have k1 : ∀ v, Sh (xsI μ' 313 i v) := fun v => h'
    have k2 : ∀ v w, Sh (xsI (xsI μ' 313 i v) 314 i w) := fun v w => h'
    refine ⟨(nI (i + 1), xsI (xsI (xsI μ' 313 i (nI (prow P i).1)) 314 i (nI (prow P i).2.1)) 315 i (nI (prow P i).2.2)), ?_, rfl, ((f.s _ (by omega)).s _ (by omega)).s _ (by omega), ?_, fun j hj => ?_⟩
    · simp only [fM_load_L12, f293 h', a1, Option.bind_some, c0, if_false, g293_30 h', g293_11 h', ix43, t1, sa313 h' _ i12, g293_31 (k1 _), g293_12 (k1 _), t2, sa314 (k1 _) _ i12, g293_32 (k2 _ _), g293_13 (k2 _ _), t3, sa315 (k2 _ _) _ i12, inc1]
    · simp (disch := omega) only [xI_ne]; exact a1
    · unfold RowIs
      by_cases e : j = i
      · subst e
        simp (disch := omega) only [xI_ne, xI_eq, and_self]
      · have := a2 j (by omega)
        unfold RowIs at this
        simp (disch := omega) only [xI_ne]
        exact this
  · rintro ⟨x, μ'⟩ ⟨rfl, f, a1, a2⟩
    have h' := f.sh h
    have cc' : PicM μ' q P := by
      refine ⟨?_, ?_, fun i hi => ?_, fun i hi => ?_⟩
      · rw [f.I (by omega)]; exact c1
      · rw [f.I (by omega)]; exact c2
      · rw [f.I (by omega), f.I (by omega), f.I (by omega)]; exact c3 i hi
      · rw [f.I (by omega)]; exact c4 i hi
    obtain ⟨μ1, g1, f1, g2⟩ := loadH_ok h' cc' hq hl a1 a2
    refine ⟨μ1, ?_, (f.mono (fun a k q => by unfold FE; omega)).trans f1, g2⟩
    simp only [fM_load_L12, f293 h', a1, Option.bind_some, Int32.le_refl, if_true, g1, Option.map_some]
theorem thinIn_ok (h : Sh μ) {acc : List xRow} {i : Nat} {r : xRow} (hi : i < 12) (ha : acc.length ≤ i) (ea : ∀ j, j < acc.length → RowIs μ 313 314 315 j (acc.getD j (0, 0, 0))) (er : RowIs μ 313 314 315 i r) (bA : RBs acc) (br : RB r) {x : (Int32 × Int32 × xM) ⊕ xM} (hx : fM_thin_87 293 (nI acc.length) (nI i) (if r ∈ acc then xc 1 else xc 0) μ = some x) : xwh (fun s : Int32 × Int32 => fM_thin_L17 293 (nI acc.length) (nI i) s.1 s.2 μ) (xc 0, xc 0) = some x := by
  have := xwh_inv (body := fun s : Int32 × Int32 => fM_thin_L17 293 (nI acc.length) (nI i) s.1 s.2 μ) (fun j s => s = ((if r ∈ acc.take j then xc 1 else xc 0), nI j)) (fun a => a = x) acc.length ?_ ?_ acc.length 0 (xc 0, xc 0) (by omega) ?_
  · obtain ⟨a, h1, h2⟩ := this
    rw [h1, h2]
  · rintro j s hj rfl
    left
    obtain ⟨q1, q2, q3⟩ := ea j hj
    obtain ⟨r1, r2, r3⟩ := er
    have bj := bA _ (getD_memD (d := (0, 0, 0)) hj)
    have c0 : ¬ nI acc.length ≤ nI j := nI_ge hj (by omega)
    have t1 : ldA μ 313 (nI j) = some (nI (acc.getD j (0, 0, 0)).1) := by rw [la313 h (by omega), q1]
    have t2 : ldA μ 314 (nI j) = some (nI (acc.getD j (0, 0, 0)).2.1) := by rw [la314 h (by omega), q2]
    have t3 : ldA μ 315 (nI j) = some (nI (acc.getD j (0, 0, 0)).2.2) := by rw [la315 h (by omega), q3]
    have u1 : ldA μ 313 (nI i) = some (nI r.1) := by rw [la313 h hi, r1]
    have u2 : ldA μ 314 (nI i) = some (nI r.2.1) := by rw [la314 h hi, r2]
    have u3 : ldA μ 315 (nI i) = some (nI r.2.2) := by rw [la315 h hi, r3]
    refine ⟨_, ?_, rfl⟩
    rw [take_succD acc j (0, 0, 0) hj]
    by_cases e1 : r ∈ acc.take j
    · rw [if_pos e1, if_pos (List.mem_append_left _ e1)]
      simp only [fM_thin_L17, c0, if_false, xc1F, fM_thin_75, fM_thin_80, inc1]
    · rw [if_neg e1]
      by_cases e2 : acc.getD j (0, 0, 0) = r
      · rw [if_pos (List.mem_append_right _ (by rw [e2]; exact List.mem_singleton.mpr rfl))]
        simp only [fM_thin_L17, c0, if_false, xc0T, if_true, g293_30 h, g293_31 h, g293_32 h, Option.bind_some, t1, t2, t3, u1, u2, u3, e2, fM_thin_75, fM_thin_80, inc1]
      · rw [if_neg (fun q => (List.mem_append.mp q).elim e1 (fun q => e2 (List.mem_singleton.mp q).symm))]
        simp only [fM_thin_L17, c0, if_false, xc0T, if_true, g293_30 h, g293_31 h, g293_32 h, Option.bind_some, t1, t2, t3, u1, u2, u3, fM_thin_75, fM_thin_79, fM_thin_80, inc1]
        split
        · rename_i g1
          split
          · rename_i g2
            split
            · rename_i g3
              exact absurd (row_eq bj br g1 g2 g3) e2
            · rfl
          · rfl
        · rfl
  · rintro s rfl
    refine ⟨x, ?_, rfl⟩
    rw [List.take_length]
    simp only [fM_thin_L17, Int32.le_refl, if_true, hx, Option.map_some]
  · rw [List.take_zero, if_neg List.not_mem_nil]
    rfl
theorem thin_ok (h : Sh μ) {P : xPic} (c : PicE μ P) (hm : P.1.length ≤ 12) (bR : RBs P.1) : ∃ μ1, fM_thin 293 μ = some μ1 ∧ Fr (fun a k => a = 293 ∧ k = 29 ∨ 313 ≤ a ∧ a ≤ 315) μ μ1 ∧ PicE μ1 (pdd [] P.1, P.2) := by
  obtain ⟨c1, c2, c3, c4⟩ := c
  unfold fM_thin fM_thin_0
  rw [gd293 h]
  refine xwh_inv (fun i s => s.2.1 = nI i ∧ Fr (fun a _ => 313 ≤ a ∧ a ≤ 315) μ s.2.2 ∧ ∃ acc, s.1 = nI acc.length ∧ pdd acc (P.1.drop i) = pdd [] P.1 ∧ acc.length ≤ i ∧ RBs acc ∧ (∀ j, j < acc.length → RowIs s.2.2 313 314 315 j (acc.getD j (0, 0, 0))) ∧ ∀ j, i ≤ j → j < P.1.length → RowIs s.2.2 313 314 315 j (prow P j)) _ P.1.length ?_ ?_ P.1.length 0 _ (by omega) ⟨rfl, Fr.refl μ, [], rfl, by rw [List.drop_zero], Nat.le_refl _, fun r hr => absurd hr List.not_mem_nil, fun j hj => absurd hj (Nat.not_lt_zero j), fun j _ hj => c3 j hj⟩
  · rintro i ⟨y, x, μ'⟩ hi ⟨rfl, f, acc, rfl, a1, a2, a3, a4, a5⟩
    left
    have h' := f.sh h
    have er := a5 i (Nat.le_refl _) hi
    have br : RB (prow P i) := bR _ (getD_memD hi)
    have i12 : i < 12 := by omega
    have ac12 : acc.length < 12 := by omega
    have e29 : xI μ' 293 29 = nI P.1.length := (f.I (by omega)).trans c1
    have c0 : ¬ nI P.1.length ≤ nI i := nI_ge hi (by omega)
    rw [drop_succD (0, 0, 0) hi] at a1
    by_cases e : prow P i ∈ acc
    · have hx : fM_thin_87 293 (nI acc.length) (nI i) (if prow P i ∈ acc then xc 1 else xc 0) μ' = some (.inl (nI acc.length, nI (i + 1), μ')) := by
        rw [if_pos e]
        simp only [fM_thin_87, xc1F, if_false, fM_thin_130, inc1]
      refine ⟨(nI acc.length, nI (i + 1), μ'), ?_, rfl, f, acc, rfl, ?_, by omega, a3, a4, fun j hj hj2 => a5 j (by omega) hj2⟩
      · simp only [fM_thin_L4, f293 h', e29, Option.bind_some, c0, if_false]
        exact thinIn_ok h' i12 a2 a4 er a3 br hx
      · rw [← a1]
        exact (pdd_pos e).symm
    · obtain ⟨r1, r2, r3⟩ := er
      have k1 : ∀ v, Sh (xsI μ' 313 acc.length v) := fun v => h'
      have k2 : ∀ v w, Sh (xsI (xsI μ' 313 acc.length v) 314 acc.length w) := fun v w => h'
      have t1 : ldA μ' 313 (nI i) = some (nI (prow P i).1) := by rw [la313 h' i12, r1]
      have t2 : ∀ v, ldA (xsI μ' 313 acc.length v) 314 (nI i) = some (nI (prow P i).2.1) := fun v => by rw [la314 (k1 v) i12, xI_ne (by omega), r2]
      have t3 : ∀ v w, ldA (xsI (xsI μ' 313 acc.length v) 314 acc.length w) 315 (nI i) = some (nI (prow P i).2.2) := fun v w => by rw [la315 (k2 v w) i12, xI_ne (by omega), xI_ne (by omega), r3]
      have hx : fM_thin_87 293 (nI acc.length) (nI i) (if prow P i ∈ acc then xc 1 else xc 0) μ' = some (.inl (nI (acc.length + 1), nI (i + 1), xsI (xsI (xsI μ' 313 acc.length (nI (prow P i).1)) 314 acc.length (nI (prow P i).2.1)) 315 acc.length (nI (prow P i).2.2))) := by
        rw [if_neg e]
        simp only [fM_thin_87, xc0T, if_true, fM_thin_130, g293_30 h', t1, sa313 h' _ ac12, Option.bind_some, g293_31 (k1 _), t2, sa314 (k1 _) _ ac12, g293_32 (k2 _ _), t3, sa315 (k2 _ _) _ ac12, inc1]
      refine ⟨(nI (acc.length + 1), nI (i + 1), xsI (xsI (xsI μ' 313 acc.length (nI (prow P i).1)) 314 acc.length (nI (prow P i).2.1)) 315 acc.length (nI (prow P i).2.2)), by
        simp only [fM_thin_L4, f293 h', e29, Option.bind_some, c0, if_false]
        exact thinIn_ok h' i12 a2 a4 (a5 i (Nat.le_refl _) hi) a3 br hx, rfl, ((f.s _ (by omega)).s _ (by omega)).s _ (by omega), acc ++ [prow P i], ?_, ?_, ?_, ?_, fun j hj => ?_, fun j hj hj2 => ?_⟩
      · rw [List.length_append]; rfl
      · rw [← a1]
        exact (pdd_neg e).symm
      · rw [List.length_append, List.length_singleton]; omega
      · intro r hr
        rcases List.mem_append.mp hr with q | q
        · exact a3 r q
        · rw [List.mem_singleton.mp q]; exact br
      · rw [List.length_append, List.length_singleton] at hj
        unfold RowIs
        by_cases q : j = acc.length
        · subst q
          rw [getD_app_r]
          simp (disch := omega) only [xI_ne, xI_eq, and_self]
        · have := a4 j (by omega)
          unfold RowIs at this
          rw [getD_app_l (by omega)]
          simp (disch := omega) only [xI_ne]
          exact this
      · have := a5 j (by omega) hj2
        unfold RowIs at this ⊢
        simp (disch := omega) only [xI_ne]
        exact this
  · rintro ⟨y, x, μ'⟩ ⟨rfl, f, acc, rfl, a1, a2, a3, a4, a5⟩
    have h' := f.sh h
    have e29 : xI μ' 293 29 = nI P.1.length := (f.I (by omega)).trans c1
    rw [List.drop_length, pdd_nil] at a1
    refine ⟨xsI μ' 293 29 (nI acc.length), ?_, (f.mono (fun a k q => Or.inr q)).s _ (by omega), ?_, ?_, fun i hi => ?_, fun i hi => ?_⟩
    · simp only [fM_thin_L4, f293 h', e29, Option.bind_some, Int32.le_refl, if_true, fM_thin_136, fs293 h', Option.map_some]
    · rw [xI_eq, ← a1]
    · rw [xI_ne (by omega), f.I (by omega)]; exact c2
    · have hi' : i < acc.length := by rw [a1]; exact hi
      have := a4 i hi'
      rw [a1] at this
      unfold RowIs at this ⊢
      simp (disch := omega) only [xI_ne]
      exact this
    · rw [xI_ne (by omega), f.I (by omega)]; exact c4 i hi
theorem replH_ok (h : Sh μ) {P : xPic} (c : PicE μ P) (hl : P.2.length ≤ 3) (bH : HBs P.2) {hi lo : Nat} (b1 : hi < 64) : ∃ μ1, fM_replace_68 293 (nI hi) (nI lo) μ = some μ1 ∧ Fr (fun x _ => x = 316) μ μ1 ∧ PicE μ1 (P.1, P.2.map (psub hi lo)) := by
  obtain ⟨c1, c2, c3, c4⟩ := c
  unfold fM_replace_68
  refine xwh_inv (fun i s => s.1 = nI i ∧ Fr (fun x _ => x = 316) μ s.2 ∧ (∀ j, j < i → xI s.2 316 j = nI (psub hi lo (P.2.getD j 0))) ∧ ∀ j, i ≤ j → j < P.2.length → xI s.2 316 j = nI (P.2.getD j 0)) _ P.2.length ?_ ?_ P.2.length 0 _ (by omega) ⟨rfl, Fr.refl μ, fun j hj => absurd hj (by omega), fun j _ hj => c4 j hj⟩
  · rintro i ⟨x, μ'⟩ hi' ⟨rfl, f, a1, a2⟩
    left
    have h' := f.sh h
    have e0 : xI μ' 293 33 = nI P.2.length := (f.I (by omega)).trans c2
    have c0 : ¬ nI P.2.length ≤ nI i := nI_ge hi' (by omega)
    have i3 : i < 3 := by omega
    have t1 : ldA μ' 316 (nI i) = some (nI (P.2.getD i 0)) := by rw [la316 h' i3, a2 i (Nat.le_refl _) hi']
    have bt : P.2.getD i 0 < 64 := bH _ (getD_memD hi')
    refine ⟨(nI (i + 1), xsI μ' 316 i (nI (psub hi lo (P.2.getD i 0)))), ?_, rfl, f.s _ rfl, fun j hj => ?_, fun j hj hj2 => ?_⟩
    · by_cases q : P.2.getD i 0 = hi
      · rw [psub_eq q]
        simp only [fM_replace_L70, fM_replace_103, f293 h', e0, Option.bind_some, c0, if_false, g293_34 h', t1, q, if_true, sa316 h' _ i3, inc1]
      · have q' : ¬ nI (P.2.getD i 0) = nI hi := fun e => q ((nI64 bt b1).mp e)
        rw [psub_ne q]
        simp only [fM_replace_L70, fM_replace_103, f293 h', e0, Option.bind_some, c0, if_false, g293_34 h', t1, q', sa316 h' _ i3, inc1]
    · by_cases q : j = i
      · subst q; rw [xI_eq]
      · rw [xI_ne (by omega)]; exact a1 j (by omega)
    · rw [xI_ne (by omega)]; exact a2 j (by omega) hj2
  · rintro ⟨x, μ'⟩ ⟨rfl, f, a1, a2⟩
    have h' := f.sh h
    have e0 : xI μ' 293 33 = nI P.2.length := (f.I (by omega)).trans c2
    refine ⟨μ', ?_, f, ?_, ?_, fun i hi => ?_, fun i hi => ?_⟩
    · simp only [fM_replace_L70, f293 h', e0, Option.bind_some, Int32.le_refl, if_true]
    · rw [f.I (by omega)]; exact c1
    · rw [e0, List.length_map]
    · have := c3 i hi
      unfold RowIs at this ⊢
      rw [f.I (by omega), f.I (by omega), f.I (by omega)]
      exact this
    · dsimp only at hi ⊢
      rw [List.length_map] at hi
      rw [a1 i hi, getD_map (d := 0) hi]
theorem repl_ok (h : Sh μ) {P : xPic} (c : PicE μ P) (hm : P.1.length ≤ 12) (hl : P.2.length ≤ 3) (bR : RBs P.1) (bH : HBs P.2) {hi lo : Nat} (b1 : hi < 64) : ∃ μ1, fM_replace 293 (nI hi) (nI lo) μ = some μ1 ∧ Fr (fun x _ => 314 ≤ x ∧ x ≤ 316) μ μ1 ∧ PicE μ1 (P.1.map (psubR hi lo), P.2.map (psub hi lo)) := by
  obtain ⟨c1, c2, c3, c4⟩ := c
  unfold fM_replace fM_replace_0
  rw [gd293 h]
  refine xwh_inv (fun i s => s.1 = nI i ∧ Fr (fun x _ => x = 314 ∨ x = 315) μ s.2 ∧ (∀ j, j < i → RowIs s.2 313 314 315 j (psubR hi lo (prow P j))) ∧ ∀ j, i ≤ j → j < P.1.length → RowIs s.2 313 314 315 j (prow P j)) _ P.1.length ?_ ?_ P.1.length 0 _ (by omega) ⟨rfl, Fr.refl μ, fun j hj => absurd hj (by omega), fun j _ hj => c3 j hj⟩
  · rintro i ⟨x, μ'⟩ hi' ⟨rfl, f, a1, a2⟩
    left
    have h' := f.sh h
    have e0 : xI μ' 293 29 = nI P.1.length := (f.I (by omega)).trans c1
    have c0 : ¬ nI P.1.length ≤ nI i := nI_ge hi' (by omega)
    have i12 : i < 12 := by omega
    obtain ⟨r1, r2, r3⟩ := a2 i (Nat.le_refl _) hi'
    have br : RB (prow P i) := bR _ (getD_memD hi')
    have t2 : ldA μ' 314 (nI i) = some (nI (prow P i).2.1) := by rw [la314 h' i12, r2]
    refine ⟨(nI (i + 1), xsI (xsI μ' 314 i (nI (psub hi lo (prow P i).2.1))) 315 i (nI (psub hi lo (prow P i).2.2))), ?_, rfl, (f.s _ (Or.inl rfl)).s _ (Or.inr rfl), fun j hj => ?_, fun j hj hj2 => ?_⟩
    · have hv : ∀ v, Sh (xsI μ' 314 i v) := fun v => h'
      have t3 : ∀ v, ldA (xsI μ' 314 i v) 315 (nI i) = some (nI (prow P i).2.2) := fun v => by rw [la315 (hv v) i12, xI_ne (by omega), r3]
      have two : ∀ v, fM_replace_35 293 (nI hi) (nI lo) (nI i) v (nI i) 314 μ' = some (.inl (nI (i + 1), xsI (xsI μ' 314 i v) 315 i (nI (psub hi lo (prow P i).2.2)))) := fun v => by
        by_cases q : (prow P i).2.2 = hi
        · rw [psub_eq q]
          simp only [fM_replace_35, fM_replace_61, sa314 h' _ i12, Option.bind_some, g293_32 (hv v), t3, q, if_true, sa315 (hv v) _ i12, inc1]
        · have q' : ¬ nI (prow P i).2.2 = nI hi := fun e => q ((nI64 br.2.2 b1).mp e)
          rw [psub_ne q]
          simp only [fM_replace_35, fM_replace_61, sa314 h' _ i12, Option.bind_some, g293_32 (hv v), t3, q', if_false, sa315 (hv v) _ i12, inc1]
      by_cases q : (prow P i).2.1 = hi
      · rw [psub_eq q]
        simp only [fM_replace_L2, f293 h', e0, Option.bind_some, c0, if_false, g293_31 h', t2, q, if_true, two]
      · have q' : ¬ nI (prow P i).2.1 = nI hi := fun e => q ((nI64 br.2.1 b1).mp e)
        rw [psub_ne q]
        simp only [fM_replace_L2, f293 h', e0, Option.bind_some, c0, if_false, g293_31 h', t2, q', two]
    · by_cases q : j = i
      · subst q
        refine ⟨?_, ?_, ?_⟩
        · rw [xI_ne (by omega), xI_ne (by omega)]; exact r1
        · rw [xI_ne (by omega), xI_eq]; rfl
        · rw [xI_eq]; rfl
      · have := a1 j (by omega)
        unfold RowIs at this ⊢
        simp (disch := omega) only [xI_ne]
        exact this
    · have := a2 j (by omega) hj2
      unfold RowIs at this ⊢
      simp (disch := omega) only [xI_ne]
      exact this
  · rintro ⟨x, μ'⟩ ⟨rfl, f, a1, a2⟩
    have h' := f.sh h
    have e0 : xI μ' 293 29 = nI P.1.length := (f.I (by omega)).trans c1
    have cc' : PicE μ' (P.1.map (psubR hi lo), P.2) := by
      refine ⟨?_, ?_, fun i hi' => ?_, fun i hi' => ?_⟩
      · rw [e0, List.length_map]
      · rw [f.I (by omega)]; exact c2
      · dsimp only [prow] at hi' ⊢
        rw [List.length_map] at hi'
        rw [getD_map (d := (0, 0, 0)) hi']
        exact a1 i hi'
      · rw [f.I (by omega)]; exact c4 i hi'
    obtain ⟨μ1, g1, f2, g2⟩ := replH_ok h' cc' hl bH (lo := lo) b1
    refine ⟨μ1, ?_, (f.mono (fun a k q => by omega)).trans (f2.mono (fun a k q => by omega)), g2⟩
    simp only [fM_replace_L2, f293 h', e0, Option.bind_some, Int32.le_refl, if_true, g1, Option.map_some]
theorem step81_ok (h : Sh μ) {P : xPic} (c : PicE μ P) (hm : P.1.length ≤ 12) (hl : P.2.length ≤ 3) (bR : RBs P.1) (bH : HBs P.2) {i j : Nat} (hi : i < P.1.length) (hj : j < P.1.length) (e36 : ∃ n, xI μ 293 36 = nI n) :
    ∃ μ1, fM_step_81 293 (nI i) (nI j) μ = some ((if max (prow P i).2.2 (prow P j).2.2 < 2 then xc 0 else xc 1), μ1) ∧ Fr FE μ μ1 ∧ PicE μ1 (if max (prow P i).2.2 (prow P j).2.2 < 2 then P else pnext (prow P i).2.2 (prow P j).2.2 P) ∧ xI μ1 293 35 = (if max (prow P i).2.2 (prow P j).2.2 < 2 then 1 else 0) ∧ xI μ1 293 36 = (if max (prow P i).2.2 (prow P j).2.2 < 2 then xI μ 293 36 else xI μ 293 36 + xc 1) := by
  have cc := c
  obtain ⟨c1, c2, c3, c4⟩ := c
  have bi : RB (prow P i) := bR _ (getD_memD hi)
  have bj : RB (prow P j) := bR _ (getD_memD hj)
  have t1 : ldA μ 315 (nI i) = some (nI (prow P i).2.2) := by rw [la315 h (by omega), (c3 i hi).2.2]
  have t2 : ldA μ 315 (nI j) = some (nI (prow P j).2.2) := by rw [la315 h (by omega), (c3 j hj).2.2]
  have ev : fM_step_81 293 (nI i) (nI j) μ = fM_step_142 293 (nI (min (prow P i).2.2 (prow P j).2.2)) (nI (max (prow P i).2.2 (prow P j).2.2)) μ := by
    by_cases q : (prow P j).2.2 ≤ (prow P i).2.2
    · have q1 : nI (prow P j).2.2 ≤ nI (prow P i).2.2 := nI_le q (by have := bi.2.2; omega)
      rw [Nat.min_eq_right q, Nat.max_eq_left q]
      simp only [fM_step_81, fM_step_111, g293_32 h, Option.bind_some, t1, t2, q1, if_true]
    · have q1 : ¬ nI (prow P j).2.2 ≤ nI (prow P i).2.2 := nI_ge (by omega) (by have := bj.2.2; omega)
      rw [Nat.min_eq_left (by omega), Nat.max_eq_right (by omega)]
      simp only [fM_step_81, fM_step_111, g293_32 h, Option.bind_some, t1, t2, q1, if_false]
  rw [ev]
  have hb64 : max (prow P i).2.2 (prow P j).2.2 < 64 := by
    have := bi.2.2
    have := bj.2.2
    omega
  by_cases hmx : max (prow P i).2.2 (prow P j).2.2 < 2
  · simp only [if_pos hmx]
    have q1 : ¬ xc 2 ≤ nI (max (prow P i).2.2 (prow P j).2.2) := nI_ge (b := 2) hmx (by decide)
    have k1 : Sh (xsI μ 293 35 (xc 1)) := h
    refine ⟨xsI μ 293 35 (xc 1), ?_, (Fr.refl μ).s _ (by unfold FE; omega), cc.fr ((Fr.refl μ).s (W := fun a k => a = 293 ∧ k = 35) _ ⟨rfl, rfl⟩) (fun a k q => by omega), by rw [xI_eq]; rfl, xI_ne (by omega)⟩
    simp only [fM_step_142, q1, if_false, fM_step_156, fz293 h 35 (v := xc 1) (Or.inr rfl), Option.bind_some, f293 k1, xI_eq, xc1F, fM_step_187]
  · simp only [if_neg hmx]
    have q1 : xc 2 ≤ nI (max (prow P i).2.2 (prow P j).2.2) := nI_le (a := 2) (by omega) (by omega)
    have k1 : Sh (xsI μ 293 35 (xc 0)) := h
    have k2 : Sh (xsI (xsI μ 293 35 (xc 0)) 293 36 (xI μ 293 36 + xc 1)) := h
    have f1 : Fr (fun a k => a = 293 ∧ (k = 35 ∨ k = 36)) μ (xsI (xsI μ 293 35 (xc 0)) 293 36 (xI μ 293 36 + xc 1)) := ((Fr.refl μ).s _ (by omega)).s _ (by omega)
    have cc1 := cc.fr f1 (fun a k q => by omega)
    obtain ⟨μ2, g1, f2, g2⟩ := repl_ok k2 cc1 hm hl bR bH (lo := min (prow P i).2.2 (prow P j).2.2) hb64
    have h2 := f2.sh k2
    have bb : RBs (P.1.map (psubR (max (prow P i).2.2 (prow P j).2.2) (min (prow P i).2.2 (prow P j).2.2))) := by
      intro r hr
      obtain ⟨q, hq, rfl⟩ := List.mem_map.mp hr
      have := bR q hq
      have hm : min (prow P i).2.2 (prow P j).2.2 < 64 := by omega
      exact ⟨this.1, psub_lt hm this.2.1, psub_lt hm this.2.2⟩
    obtain ⟨μ3, g3, f3, g4⟩ := thin_ok h2 g2 (by rw [List.length_map]; exact hm) bb
    have h3 := f3.sh h2
    have e35 : xI μ3 293 35 = xc 0 := by rw [f3.I (by omega), f2.I (by omega), xI_ne (by omega), xI_eq]
    refine ⟨μ3, ?_, (f1.mono (fun a k q => by unfold FE; omega)).trans ((f2.mono (fun a k q => by unfold FE; omega)).trans (f3.mono (fun a k q => by unfold FE; omega))), g4, e35, ?_⟩
    · simp only [fM_step_142, q1, if_true, fM_step_156, fz293 h 35 (v := xc 0) (Or.inl rfl), Option.bind_some, f293 k1, xI_eq, xc0T, xI_ne (show ¬ (293 = 293 ∧ 36 = 35) by omega), fs293 k1, g1, g3, fM_step_187, f293 h3, e35]
    · rw [f3.I (by omega), f2.I (by omega), xI_eq]
theorem stepIn_ok (h : Sh μ) {P : xPic} (c : PicE μ P) (hm : P.1.length ≤ 12) (bR : RBs P.1) {K i : Nat} (hk : ∀ t, t < 3 → xI μ 295 t = if K.testBit t then xc 1 else xc 0) (hi : i < P.1.length) (hs : ∀ j, j < P.1.length → ∃ o, fM_step_81 293 (nI i) (nI j) μ = some o) : ∃ a, xwh (fun s : Int32 => fM_step_L14 293 (nI i) s μ) (nI (i + 1)) = some a ∧ ((pclash1 K (prow P i) (P.1.drop (i + 1)) = none ∧ a = .inl (nI (i + 1))) ∨ ∃ j o, j < P.1.length ∧ pclash1 K (prow P i) (P.1.drop (i + 1)) = some (prow P j).2.2 ∧ fM_step_81 293 (nI i) (nI j) μ = some o ∧ a = .inr o) := by
  obtain ⟨c1, c2, c3, c4⟩ := c
  have bi : RB (prow P i) := bR _ (getD_memD hi)
  have u1 : ldA μ 313 (nI i) = some (nI (prow P i).1) := by rw [la313 h (by omega), (c3 i hi).1]
  have u2 : ldA μ 314 (nI i) = some (nI (prow P i).2.1) := by rw [la314 h (by omega), (c3 i hi).2.1]
  have u3 : ldA μ 315 (nI i) = some (nI (prow P i).2.2) := by rw [la315 h (by omega), (c3 i hi).2.2]
  have uk : ldAZ μ 295 (nI (prow P i).1) = some (if K.testBit (prow P i).1 then xc 1 else xc 0) := by rw [lz295 h bi.1, hk _ bi.1]
  have key : ∀ k s, s = nI (i + 1 + k) ∧ pclash1 K (prow P i) (P.1.drop (i + 1 + k)) = pclash1 K (prow P i) (P.1.drop (i + 1)) → k < P.1.length - (i + 1) → (fM_step_L14 293 (nI i) s μ = some (.inl (nI (i + 1 + (k + 1)))) ∧ pclash1 K (prow P i) (P.1.drop (i + 1 + (k + 1))) = pclash1 K (prow P i) (P.1.drop (i + 1))) ∨ (pclash1 K (prow P i) (P.1.drop (i + 1)) = some (prow P (i + 1 + k)).2.2 ∧ fM_step_L14 293 (nI i) s μ = (fM_step_81 293 (nI i) (nI (i + 1 + k)) μ).map (fun o => .inr (.inr o))) := by
    rintro k s ⟨rfl, hp⟩ hk2
    have hj : i + 1 + k < P.1.length := by omega
    have bj : RB (prow P (i + 1 + k)) := bR _ (getD_memD hj)
    have t1 : ldA μ 313 (nI (i + 1 + k)) = some (nI (prow P (i + 1 + k)).1) := by rw [la313 h (by omega), (c3 _ hj).1]
    have t2 : ldA μ 314 (nI (i + 1 + k)) = some (nI (prow P (i + 1 + k)).2.1) := by rw [la314 h (by omega), (c3 _ hj).2.1]
    have t3 : ldA μ 315 (nI (i + 1 + k)) = some (nI (prow P (i + 1 + k)).2.2) := by rw [la315 h (by omega), (c3 _ hj).2.2]
    have c0 : ¬ nI P.1.length ≤ nI (i + 1 + k) := nI_ge hj (by omega)
    rw [drop_succD (0, 0, 0) hj, pcl1_cons] at hp
    by_cases e2 : K.testBit (prow P i).1 = true ∧ (prow P (i + 1 + k)).1 = (prow P i).1 ∧ (prow P (i + 1 + k)).2.1 = (prow P i).2.1 ∧ ¬ (prow P (i + 1 + k)).2.2 = (prow P i).2.2
    · right
      have n3 : ¬ nI (prow P i).2.2 = nI (prow P (i + 1 + k)).2.2 := fun q => e2.2.2.2 ((nI64 bi.2.2 bj.2.2).mp q).symm
      have hp' : some (prow P (i + 1 + k)).2.2 = pclash1 K (prow P i) (P.1.drop (i + 1)) := (if_pos e2).symm.trans hp
      refine ⟨hp'.symm, ?_⟩
      simp only [fM_step_L14, f293 h, c1, Option.bind_some, c0, if_false, g293_1 h, g293_30 h, g293_31 h, g293_32 h, u1, u2, u3, uk, t1, t2, t3, e2.1, e2.2.1, e2.2.2.1, if_true, xc1F, n3]
    · left
      have hp' : pclash1 K (prow P i) (P.1.drop (i + 1 + k + 1)) = pclash1 K (prow P i) (P.1.drop (i + 1)) := (if_neg e2).symm.trans hp
      refine ⟨?_, hp'⟩
      by_cases e3 : K.testBit (prow P i).1 = true
      · simp only [fM_step_L14, f293 h, c1, Option.bind_some, c0, if_false, g293_1 h, g293_30 h, g293_31 h, g293_32 h, u1, u2, u3, uk, t1, t2, t3, e3, if_true, xc1F, fM_step_200, inc1]
        split
        · rename_i g1
          split
          · rename_i g2
            split
            · rfl
            · rename_i g3
              exact absurd ⟨e3, (nI64 (by have := bj.1; omega) (by have := bi.1; omega)).mp g1, ((nI64 bi.2.1 bj.2.1).mp g2).symm, fun q => g3 (by rw [q])⟩ e2
          · rfl
        · rfl
      · simp only [Bool.not_eq_true] at e3
        simp only [fM_step_L14, f293 h, c1, Option.bind_some, c0, if_false, g293_1 h, g293_30 h, u1, uk, e3, Bool.false_eq_true, xc0T, if_true, fM_step_200, inc1]
        rfl
  refine xwh_inv (body := fun s : Int32 => fM_step_L14 293 (nI i) s μ) (fun k s => s = nI (i + 1 + k) ∧ pclash1 K (prow P i) (P.1.drop (i + 1 + k)) = pclash1 K (prow P i) (P.1.drop (i + 1))) _ (P.1.length - (i + 1)) ?_ ?_ (P.1.length - (i + 1)) 0 (nI (i + 1)) (by omega) ⟨rfl, rfl⟩
  · intro k s hk2 hI
    rcases key k s hI hk2 with ⟨g1, g2⟩ | ⟨g1, g2⟩
    · exact Or.inl ⟨_, g1, rfl, g2⟩
    · obtain ⟨o, ho⟩ := hs (i + 1 + k) (by omega)
      exact Or.inr ⟨.inr o, by rw [g2, ho]; rfl, Or.inr ⟨i + 1 + k, o, by omega, g1, ho, rfl⟩⟩
  · rintro s ⟨rfl, hp⟩
    rw [show i + 1 + (P.1.length - (i + 1)) = P.1.length by omega] at hp ⊢
    rw [List.drop_length] at hp
    refine ⟨.inl (nI (i + 1)), ?_, Or.inl ⟨hp.symm, rfl⟩⟩
    simp only [fM_step_L14, f293 h, c1, Option.bind_some, Int32.le_refl, if_true, fM_step_206, Option.map_some, inc1]
theorem step_ok (h : Sh μ) {P : xPic} (c : PicE μ P) (hm : P.1.length ≤ 12) (hl : P.2.length ≤ 3) (bR : RBs P.1) (bH : HBs P.2) {K : Nat} (hk : ∀ t, t < 3 → xI μ 295 t = if K.testBit t then xc 1 else xc 0) (e36 : ∃ n, xI μ 293 36 = nI n) :
    (pclash K P.1 = none ∧ fM_step 293 μ = some (xc 0, μ)) ∨ ∃ a b μ1, pclash K P.1 = some (a, b) ∧ fM_step 293 μ = some ((if max a b < 2 then xc 0 else xc 1), μ1) ∧ Fr FE μ μ1 ∧ PicE μ1 (if max a b < 2 then P else pnext a b P) ∧ xI μ1 293 35 = (if max a b < 2 then 1 else 0) ∧ xI μ1 293 36 = (if max a b < 2 then xI μ 293 36 else xI μ 293 36 + xc 1) := by
  have cc := c
  obtain ⟨c1, c2, c3, c4⟩ := c
  unfold fM_step fM_step_0
  rw [gd293 h]
  have := xwh_inv (body := fun s : Int32 => fM_step_L2 293 s μ) (fun k s => s = nI k ∧ pclash K (P.1.drop k) = pclash K P.1)
    (fun a => (pclash K P.1 = none ∧ a = (xc 0, μ)) ∨ ∃ i j, i < P.1.length ∧ j < P.1.length ∧ pclash K P.1 = some ((prow P i).2.2, (prow P j).2.2) ∧ fM_step_81 293 (nI i) (nI j) μ = some a) P.1.length ?_ ?_ P.1.length 0 (xc 0) (by omega) ⟨rfl, rfl⟩
  · obtain ⟨a, a1, a2⟩ := this
    rcases a2 with ⟨b1, rfl⟩ | ⟨i, j, b1, b2, b3, b4⟩
    · exact Or.inl ⟨b1, a1⟩
    · obtain ⟨μ1, d1, d2, d3, d4, d5⟩ := step81_ok h cc hm hl bR bH b1 b2 e36
      rw [d1] at b4
      cases b4
      exact Or.inr ⟨_, _, μ1, b3, a1, d2, d3, d4, d5⟩
  · rintro i s hi ⟨rfl, hp⟩
    have c0 : ¬ nI P.1.length ≤ nI i := nI_ge hi (by omega)
    rw [drop_succD (0, 0, 0) hi] at hp
    obtain ⟨a, q0, q⟩ := stepIn_ok h cc hm bR hk hi (fun j hj => by
      obtain ⟨μ1, d1, _⟩ := step81_ok h cc hm hl bR bH hi hj e36
      exact ⟨_, d1⟩)
    have ev : fM_step_L2 293 (nI i) μ = some a := by
      simp only [fM_step_L2, f293 h, c1, Option.bind_some, c0, if_false, inc1]
      exact q0
    rcases q with ⟨q1, rfl⟩ | ⟨j, o, q1, q2, q3, rfl⟩
    · left
      refine ⟨nI (i + 1), ev, rfl, ?_⟩
      exact (pcl_no q1).symm.trans hp
    · right
      refine ⟨o, ev, Or.inr ⟨i, j, hi, q1, ?_, q3⟩⟩
      exact hp.symm.trans (pcl_yes q2)
  · rintro s ⟨rfl, hp⟩
    rw [List.drop_length] at hp
    refine ⟨(xc 0, μ), ?_, Or.inl ⟨hp.symm, rfl⟩⟩
    simp only [fM_step_L2, f293 h, c1, Option.bind_some, Int32.le_refl, if_true, fM_step_212, Option.map_some]
theorem goToEnd_ok (h : Sh μ) {P : xPic} (c : PicE μ P) (hm : P.1.length ≤ 12) (hl : P.2.length ≤ 3) (bR : RBs P.1) (bH : HBs P.2) {K : Nat} (hk : ∀ t, t < 3 → xI μ 295 t = if K.testBit t then xc 1 else xc 0) : ∃ μ1, fM_goToEnd 293 μ = some μ1 ∧ Fr FE μ μ1 ∧ PicE μ1 (pEnd K P).1 ∧ xI μ1 293 36 = nI (pEnd K P).2.1 ∧ xI μ1 293 35 = if (pEnd K P).2.2 then 1 else 0 := by
  have k1 : Sh (xsI μ 293 35 (xc 0)) := h
  have k2 : Sh (xsI (xsI μ 293 35 (xc 0)) 293 36 (xc 0)) := h
  have f1 : Fr (fun a k => a = 293 ∧ (k = 35 ∨ k = 36)) μ (xsI (xsI μ 293 35 (xc 0)) 293 36 (xc 0)) := ((Fr.refl μ).s _ (by omega)).s _ (by omega)
  obtain ⟨μ0, d1, f0, d2⟩ := thin_ok k2 (c.fr f1 (fun a k q => by omega)) hm bR
  have hE : pEnd K P = pend K 60 (pdd [] P.1, P.2) 0 := rfl
  have l0 : (pdd [] P.1).length ≤ 12 := by
    have := pdd_len P.1 []
    rw [List.length_nil] at this
    omega
  generalize hP0 : ((pdd [] P.1, P.2) : xPic) = P0 at hE d2
  have e01 : P0.1.length ≤ 12 := by rw [← hP0]; exact l0
  have e02 : P0.2.length ≤ 3 := by rw [← hP0]; exact hl
  have e03 : RBs P0.1 := by rw [← hP0]; exact bR.dd
  have e04 : HBs P0.2 := by rw [← hP0]; exact bH
  rw [hE]
  obtain ⟨E, hE0⟩ : ∃ E, E = pend K 60 P0 0 := ⟨_, rfl⟩
  rw [← hE0]
  unfold fM_goToEnd fM_goToEnd_0
  rw [gd293 h, fz293 h 35 (v := xc 0) (Or.inl rfl), Option.bind_some, fs293 k1, Option.bind_some, d1, Option.bind_some]
  refine xwh_inv (fun k s => Fr FE μ s.2 ∧ ((∃ P' n', s.1 = xc 1 ∧ k + pN P'.1 ≤ 24 ∧ E = pend K (60 - k) P' n' ∧ PicE s.2 P' ∧ xI s.2 293 36 = nI n' ∧ xI s.2 293 35 = 0 ∧ P'.1.length ≤ 12 ∧ P'.2.length ≤ 3 ∧ RBs P'.1 ∧ HBs P'.2) ∨ (s.1 = xc 0 ∧ PicE s.2 (E).1 ∧ xI s.2 293 36 = nI (E).2.1 ∧ xI s.2 293 35 = if (E).2.2 then 1 else 0))) _ 25 ?_ ?_ 25 0 _ (by omega) ⟨(f1.mono (fun a k q => by unfold FE; omega)).trans (f0.mono (fun a k q => by unfold FE; omega)), Or.inl ⟨P0, 0, rfl, ?_, hE0, d2, ?_, ?_, e01, e02, e03, e04⟩⟩
  · rintro k ⟨x, μ'⟩ hk' ⟨f, hx⟩
    have h' := f.sh h
    rcases hx with ⟨P', n', rfl, x1, x2, x3, x4, x5, x6, x7, x8, x9⟩ | ⟨rfl, x1, x2, x3⟩
    · left
      have hf : 60 - k = (59 - k) + 1 := by omega
      rw [hf, pend_succ] at x2
      have hk2 : ∀ t, t < 3 → xI μ' 295 t = if K.testBit t then xc 1 else xc 0 := fun t ht => by rw [f.I (by unfold FE; omega)]; exact hk t ht
      rcases step_ok h' x3 x6 x7 x8 x9 hk2 ⟨n', x4⟩ with ⟨q1, q2⟩ | ⟨a, b, μ1, q1, q2, q3, q4, q5, q6⟩
      · rw [q1] at x2
        refine ⟨(xc 0, μ'), ?_, f, Or.inr ⟨rfl, ?_, ?_, ?_⟩⟩
        · simp only [fM_goToEnd_L16, xc1F, if_false, q2, Option.bind_some]
        · rw [x2]; exact x3
        · rw [x2]; exact x4
        · rw [x2, x5]; rfl
      · rw [q1] at x2
        dsimp only at x2
        refine ⟨((if max a b < 2 then xc 0 else xc 1), μ1), ?_, f.trans q3, ?_⟩
        · simp only [fM_goToEnd_L16, xc1F, if_false, q2, Option.bind_some]
        · by_cases hmx : max a b < 2
          · simp only [if_pos hmx] at x2 q4 q5 q6 ⊢
            refine Or.inr ⟨by first | rfl | trivial, ?_, ?_, ?_⟩
            · rw [x2]; exact q4
            · rw [x2, q6]; exact x4
            · rw [x2, q5]; rfl
          · simp only [if_neg hmx] at x2 q4 q5 q6 ⊢
            obtain ⟨y1, y2, y3⟩ := pcl_some P'.1 q1
            have hN := pnext_N x8 y1 y2 y3 hmx
            have hB := pnext_b x8 x9 (isTm_lt x8 y2) (isTm_lt x8 y3)
            have hL := pnext_len a b P'
            refine Or.inl ⟨pnext a b P', n' + 1, by first | rfl | trivial, by omega, ?_, q4, ?_, q5, by omega, by omega, hB.1, hB.2⟩
            · rw [x2, show 60 - (k + 1) = 59 - k by omega]
            · rw [q6, x4, inc1]
    · right
      refine ⟨μ', ?_, f, x1, x2, x3⟩
      simp only [fM_goToEnd_L16, xc0T, if_true]
  · rintro ⟨x, μ'⟩ ⟨f, hx⟩
    rcases hx with ⟨P', n', _, x1, _⟩ | ⟨rfl, x1, x2, x3⟩
    · exact absurd x1 (by omega)
    · refine ⟨μ', ?_, f, x1, x2, x3⟩
      simp only [fM_goToEnd_L16, xc0T, if_true]
  · have := pN_le P0.1
    omega
  · rw [f0.I (by omega), xI_eq]; rfl
  · rw [f0.I (by omega), xI_ne (by omega), xI_eq]; rfl
theorem findEnd_ok (h : Sh μ) {P : xPic} {q : Nat} (c : PicM μ q P) (hq : q < 16) (w : PicWf P) {K : Nat} (hk : ∀ t, t < 3 → xI μ 295 t = if K.testBit t then xc 1 else xc 0) : ∃ μ1, fM_findEnd 293 (nI q) μ = some μ1 ∧ Fr FE μ μ1 ∧ PicE μ1 (pEnd K P).1 ∧ xI μ1 293 36 = nI (pEnd K P).2.1 ∧ xI μ1 293 35 = if (pEnd K P).2.2 then 1 else 0 := by
  obtain ⟨w1, w2, w3, w4, w5⟩ := w
  obtain ⟨μ0, d1, f0, d2⟩ := load_ok h c hq w2 w3
  obtain ⟨μ1, e1, f1, e2⟩ := goToEnd_ok (f0.sh h) d2 (by omega) w3 (fun r hr => ⟨(w4 r hr).1, by have := (w4 r hr).2.1; omega, by have := (w4 r hr).2.2; omega⟩) (fun t ht => by have := (w5 t ht).2.1; omega) (K := K) (fun t ht => by rw [f0.I (by unfold FE; omega)]; exact hk t ht)
  refine ⟨μ1, ?_, f0.trans f1, e2⟩
  simp only [fM_findEnd, fM_findEnd_0, gd293 h, d1, Option.bind_some, e1]
end MEND
