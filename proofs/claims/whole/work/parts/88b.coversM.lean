/-! the reference: covers of an ask -/
section COVM2
variable {μ : xM} {V : Nat → xPic} {nv K q : Nat} {sh : List Nat} {E : xPic × Nat × Bool} {a : xPic}
/-- what a check of a cover stands on -/
def QBase (μ : xM) (V : Nat → xPic) (nv K q : Nat) (sh : List Nat) (E : xPic × Nat × Bool) (a : xPic) : Prop := MBase μ V nv sh ∧ AskM μ E ∧ TB E.1 7 ∧ E.1.2.length ≤ 3 ∧ (∀ t, t < 3 → xI μ 295 t = if K.testBit t then xc 1 else xc 0) ∧ q < 16 ∧ PicWf a ∧ PicM μ q a
theorem QBase.fr {μ' : xM} (h : QBase μ V nv K q sh E a) (f : Fr WCv μ μ') : QBase μ' V nv K q sh E a := by
  obtain ⟨h1, ⟨h2, h3, h4⟩, h5, h6, h7, h8, h9, h10⟩ := h
  exact ⟨h1.fr f, ⟨(f.I (by unfold WCv FE; omega)).trans h2, (f.I (by unfold WCv FE; omega)).trans h3, fun i hi => (f.I (by unfold WCv FE; omega)).trans (h4 i hi)⟩, h5, h6, fun t ht => (f.I (by unfold WCv FE; omega)).trans (h7 t ht), h8, h9, h10.fr' f (fun a k q => by unfold WCv FE; omega)⟩
theorem MBase.lok (h : MBase μ V nv sh) : LOk V sh := fun x hx => ⟨(h.2.2.2.2 _ (h.2.2.2.1 x hx).1).1, (h.2.2.2.1 x hx).2.2.2.1⟩
theorem lsOf_suc {set i : Nat} : lsOf sh set (i + 1) = lsOf sh set i ++ (if set.testBit i = true then [sh.getD i 0] else []) := by
  unfold lsOf
  rw [pbits_suc, List.map_append]
  split <;> rfl
theorem lsOf_lok (hl : LOk V sh) {set i : Nat} (hi : i ≤ sh.length) : LOk V (lsOf sh set i) := fun x hx => by
  obtain ⟨y, h1, rfl⟩ := List.mem_map.mp hx
  exact hl _ (getD_memD (by have := (pbits_mem.mp h1).1; omega))
theorem pbits_le (set : Nat) {i n : Nat} (h : i ≤ n) : (pbits set i).length ≤ (pbits set n).length := srt_len (pbits_srt set i) (pbits_srt set n) (fun y hy => by
  obtain ⟨z1, z2⟩ := pbits_mem.mp hy
  exact pbits_mem.mpr ⟨by omega, z2⟩)
theorem popen_snoc {x : Nat} (l : List Nat) (b : Nat) : popen V (l ++ [x]) b = popen V l b ++ popen1 (V (x / 512)) x (b + 10 * l.length) := by
  rw [← popS_10, ← popS_10]
  exact popS_snoc l b
/-- shows are opened one by one, then the end, then whether it lies within -/
theorem mopenAll_ok (h : QBase μ V nv K q sh E a) {set : Nat} (hs : set < 2 ^ sh.length) (h3 : (pbits set sh.length).length ≤ 3) (c0 : PicE μ ([], E.1.2)) : ∃ v μ1, fM_isCover_101 293 (nI q) (nI set) μ = some (v, μ1) ∧ Fr WCv μ μ1 ∧ Tells v (pWithin (pEnd K (popen V (lsOf sh set sh.length) 10, E.1.2)) a) := by
  have goal : ∃ r, fM_isCover_101 293 (nI q) (nI set) μ = some r ∧ Fr WCv μ r.2 ∧ Tells r.1 (pWithin (pEnd K (popen V (lsOf sh set sh.length) 10, E.1.2)) a) := by
    have l12 := h.1.2.1.1
    have hp := pow_le12 l12
    have lok := h.1.lok
    unfold fM_isCover_101
    refine xwh_inv (body := fun s : Int32 × Int32 × xM => fM_isCover_L107 293 (nI q) (nI set) s.1 s.2.1 s.2.2) (fun i s => s.2.1 = nI i ∧ s.1 = nI (10 + 10 * (pbits set i).length) ∧ Fr WCv μ s.2.2 ∧ PicE s.2.2 (popen V (lsOf sh set i) 10, E.1.2)) _ sh.length ?_ ?_ sh.length 0 _ (by omega) ⟨rfl, rfl, Fr.refl μ, c0⟩
    · rintro i ⟨x, y, μ'⟩ hi ⟨rfl, rfl, f, c⟩
      left
      have B := h.fr f
      have h' := B.1.1
      have c1 : ¬ nI sh.length ≤ nI i := nI_ge hi (by omega)
      have mb := mbit (set := set) (i := i) (by omega) (by omega)
      have ec : (pbits set (i + 1)).length = (pbits set i).length + (if set.testBit i = true then 1 else 0) := by
        rw [pbits_suc, List.length_append]
        split <;> rfl
      by_cases z : set.testBit i = true
      · have mb' := mb.mpr z
        rw [if_pos z] at ec
        have cn := pbits_le set (show i + 1 ≤ sh.length by omega)
        have ll : (lsOf sh set i).length = (pbits set i).length := by unfold lsOf; rw [List.length_map]
        have rl := popS_len (V := V) (st := 10) (lsOf sh set i) 10 (lsOf_lok lok (by omega))
        rw [popS_10, ll] at rl
        have hx := B.1.2.2.2.1 _ (getD_memD (d := 0) hi)
        have r4 := (B.1.2.2.2.2 _ hx.1).1.2.1
        obtain ⟨μ2, o1, o2, o3⟩ := mopen_ok B.1 hi (b := 10 + 10 * (pbits set i).length) (by omega) c (by show (popen V (lsOf sh set i) 10).length + _ ≤ 12; omega)
        refine ⟨(nI (10 + 10 * (pbits set (i + 1)).length), nI (i + 1), μ2), ?_, rfl, rfl, f.trans o2, ?_⟩
        · have e5 : nI (10 + 10 * (pbits set i).length) + xc 10 = nI (10 + 10 * (pbits set (i + 1)).length) := by
            rw [show xc 10 = nI 10 from rfl, nI_add, ec]
            congr 1
          simp only [fM_isCover_L107, f293 h', B.1.2.1.2.1, Option.bind_some, c1, if_false, mb', if_true, o1, fM_isCover_136, e5, inc1]
        · rw [lsOf_suc, if_pos z, popen_snoc, ll]
          exact o3
      · have mb' : ¬ (nI set >>> (nI i &&& 31)) &&& xc 1 = xc 1 := fun w => z (mb.mp w)
        rw [if_neg z] at ec
        refine ⟨(nI (10 + 10 * (pbits set i).length), nI (i + 1), μ'), ?_, rfl, by rw [ec]; rfl, f, ?_⟩
        · simp only [fM_isCover_L107, f293 h', B.1.2.1.2.1, Option.bind_some, c1, if_false, mb', fM_isCover_136, inc1]
        · rw [lsOf_suc, if_neg z, List.append_nil]
          exact c
    · rintro ⟨x, y, μ'⟩ ⟨rfl, rfl, f, c⟩
      have B := h.fr f
      have h' := B.1.1
      have ll : (lsOf sh set sh.length).length ≤ 3 := by unfold lsOf; rw [List.length_map]; exact h3
      have lk := lsOf_lok (set := set) lok (Nat.le_refl _)
      have pb : PB (popS V 10 (lsOf sh set sh.length) 10, E.1.2) := popS_PB lk ll (by decide) (by decide) h.2.2.1.2
      rw [popS_10] at pb
      obtain ⟨μ2, g1, g2, g3, _, g5⟩ := goToEnd_ok h' c pb.2.2 h.2.2.2.1 pb.1 pb.2.1 B.2.2.2.2.1
      have h2 := g2.sh h'
      have f2 : Fr WCv μ' μ2 := g2.mono (fun a k q => Or.inl q)
      have tb : TB (popen V (lsOf sh set sh.length) 10, E.1.2) 64 := ⟨fun r hr => pb.1 r hr, pb.2.1⟩
      have keep := pEnd_keep (K := K) tb
      have B2 := B.fr f2
      obtain ⟨v, μ3, l1, l2, l3⟩ := lies_ok h2 B2.2.2.2.2.2.2.2 h.2.2.2.2.2.1 h.2.2.2.2.2.2.1 g3 (Nat.le_trans keep.2.1 pb.2.2) (by rw [keep.2.2]; exact h.2.2.2.1) keep.1 g5
      have tl : Tells v (pWithin (pEnd K (popen V (lsOf sh set sh.length) 10, E.1.2)) a) := l3.imp (fun z => ⟨z.2, z.1⟩) (fun z => ⟨z.2, z.1⟩)
      refine ⟨(v, μ3), ?_, f.trans (f2.trans (l2.mono (fun a k q => by unfold WCv; omega))), tl⟩
      simp only [fM_isCover_L107, f293 h', B.1.2.1.2.1, Option.bind_some, Int32.le_refl, if_true, fM_isCover_142, g1, l1, tl.zo, Option.map_some]
  obtain ⟨⟨v, μ1⟩, g⟩ := goal
  exact ⟨v, μ1, g⟩
theorem mcopyHead_ok (h : QBase μ V nv K q sh E a) {set : Nat} (hs : set < 2 ^ sh.length) (h3 : (pbits set sh.length).length ≤ 3) : ∃ v μ1, fM_isCover_60 293 (nI q) (nI set) μ = some (v, μ1) ∧ Fr WCv μ μ1 ∧ Tells v (pWithin (pEnd K (popen V (lsOf sh set sh.length) 10, E.1.2)) a) := by
  have goal : ∃ r, fM_isCover_60 293 (nI q) (nI set) μ = some r ∧ Fr WCv μ r.2 ∧ Tells r.1 (pWithin (pEnd K (popen V (lsOf sh set sh.length) 10, E.1.2)) a) := by
    have h' := h.1.1
    have l3 := h.2.2.2.1
    have k1 : Sh (xsI μ 293 29 (xc 0)) := h'
    have f2 : Fr WCv μ (xsI (xsI μ 293 29 (xc 0)) 293 33 (nI E.1.2.length)) := ((Fr.refl μ).s _ (by unfold WCv FE; omega)).s _ (by unfold WCv FE; omega)
    have e47 : xI (xsI μ 293 29 (xc 0)) 293 47 = nI E.1.2.length := (xI_ne (by omega)).trans h.2.1.2.1
    unfold fM_isCover_60
    rw [fs293 h', Option.bind_some, f293 k1, Option.bind_some, e47, fs293 k1, Option.bind_some]
    refine xwh_inv (body := fun s : Int32 × xM => fM_isCover_L75 293 (nI q) (nI set) s.1 s.2) (fun i s => s.1 = nI i ∧ Fr WCv μ s.2 ∧ xI s.2 293 29 = nI 0 ∧ xI s.2 293 33 = nI E.1.2.length ∧ ∀ j, j < i → xI s.2 316 j = nI (E.1.2.getD j 0)) _ E.1.2.length ?_ ?_ E.1.2.length 0 _ (by omega) ⟨rfl, f2, by rw [xI_ne (by omega), xI_eq]; rfl, xI_eq _ _ _ _, fun j hj => absurd hj (Nat.not_lt_zero j)⟩
    · rintro i ⟨x, μ'⟩ hi ⟨rfl, f, a1, a2, a3⟩
      left
      have B := h.fr f
      have k' := B.1.1
      have c1 : ¬ nI E.1.2.length ≤ nI i := nI_ge hi (by omega)
      have t1 : ldA μ' 324 (nI i) = some (nI (E.1.2.getD i 0)) := by rw [la324 k' (by omega), B.2.1.2.2 i hi]
      refine ⟨(nI (i + 1), xsI μ' 316 i (nI (E.1.2.getD i 0))), ?_, rfl, f.s _ (by unfold WCv FE; omega), (xI_ne (by omega)).trans a1, (xI_ne (by omega)).trans a2, fun j hj => ?_⟩
      · simp only [fM_isCover_L75, f293 k', B.2.1.2.1, Option.bind_some, c1, if_false, g293_34 k', g293_48 k', t1, sa316 k' _ (show i < 3 by omega), inc1]
      · by_cases z : j = i
        · subst z; rw [xI_eq]
        · rw [xI_ne (by omega)]; exact a3 j (by omega)
    · rintro ⟨x, μ'⟩ ⟨rfl, f, a1, a2, a3⟩
      have B := h.fr f
      have k' := B.1.1
      obtain ⟨v, μ1, m1, m2, m3⟩ := mopenAll_ok B hs h3 ⟨a1, a2, fun i hi => absurd hi (Nat.not_lt_zero i), a3⟩
      refine ⟨(v, μ1), ?_, f.trans m2, m3⟩
      simp only [fM_isCover_L75, f293 k', B.2.1.2.1, Option.bind_some, Int32.le_refl, if_true, m1, Option.map_some]
  obtain ⟨⟨v, μ1⟩, g⟩ := goal
  exact ⟨v, μ1, g⟩
theorem misCover_ok (h : QBase μ V nv K q sh E a) {set : Nat} (hs : set < 2 ^ sh.length) (h3 : (pbits set sh.length).length ≤ 3) : ∃ v μ1, fM_isCover 293 (nI q) (nI set) μ = some (v, μ1) ∧ Fr WCv μ μ1 ∧ Tells v (pCov K V a E sh set) := by
  have h' := h.1.1
  have l12 := h.1.2.1.1
  have hp := pow_le12 l12
  have e49 := h.2.1.1
  have z0 : set = 0 ↔ nI set = 0 := by
    rw [← nI_0]
    exact (nI_eq (by omega) (by decide)).symm
  cases hN : E.2.2 with
  | true =>
    rw [hN] at e49
    have e49' : ¬ xI μ 293 49 = 0 := by rw [e49]; decide
    by_cases q0 : set = 0
    · refine ⟨xc 1, μ, ?_, Fr.refl μ, Or.inl ⟨rfl, Or.inl ⟨hN, q0⟩⟩⟩
      have q0' := z0.mp q0
      simp only [fM_isCover, fM_isCover_0, gd293 h', f293 h', Option.bind_some, e49', if_false, fM_isCover_11, q0', if_true]
    · have q0' : ¬ nI set = 0 := fun w => q0 (z0.mpr w)
      refine ⟨xc 0, μ, ?_, Fr.refl μ, Or.inr ⟨rfl, ?_⟩⟩
      · simp only [fM_isCover, fM_isCover_0, gd293 h', f293 h', Option.bind_some, e49', if_false, fM_isCover_11, q0', fM_isCover_26]
      · rintro (⟨_, w⟩ | ⟨w, _⟩)
        · exact q0 w
        · rw [hN] at w; cases w
  | false =>
    rw [hN] at e49
    have e49' : xI μ 293 49 = 0 := e49
    by_cases q0 : set = 0
    · have q0' := z0.mp q0
      refine ⟨xc 0, μ, ?_, Fr.refl μ, Or.inr ⟨rfl, ?_⟩⟩
      · simp only [fM_isCover, fM_isCover_0, gd293 h', f293 h', Option.bind_some, e49', if_true, fM_isCover_11, q0', fM_isCover_26]
      · rintro (⟨w, _⟩ | ⟨_, w, _⟩)
        · rw [hN] at w; cases w
        · rw [q0] at w
          have : pbits 0 sh.length = [] := by
            unfold pbits
            rw [List.filter_eq_nil_iff]
            intro x _
            rw [Nat.zero_testBit]
            decide
          rw [this] at w
          exact absurd w (by decide)
    · have q0' : ¬ nI set = 0 := fun w => q0 (z0.mpr w)
      have one : 1 ≤ (pbits set sh.length).length := by
        by_cases w : 1 ≤ (pbits set sh.length).length
        · exact w
        · exfalso
          apply q0
          apply Nat.eq_of_testBit_eq
          intro i
          rw [Nat.zero_testBit]
          cases w2 : set.testBit i with
          | false => rfl
          | true =>
            have hi : i < sh.length := by
              by_cases w3 : i < sh.length
              · exact w3
              · rw [tb_hi hs (by omega)] at w2; cases w2
            have : i ∈ pbits set sh.length := pbits_mem.mpr ⟨hi, w2⟩
            rw [List.eq_nil_of_length_eq_zero (show (pbits set sh.length).length = 0 by omega)] at this
            exact absurd this List.not_mem_nil
      have cov : pCov K V a E sh set ↔ pCovL K V a E (lsOf sh set sh.length) := by
        unfold pCov
        constructor
        · rintro (⟨w, _⟩ | ⟨_, _, _, w⟩)
          · rw [hN] at w; cases w
          · exact w
        · exact fun w => Or.inr ⟨hN, one, h3, w⟩
      have ev : fM_isCover 293 (nI q) (nI set) μ = xwh (fun s : Int32 => fM_isCover_L30 293 (nI q) (nI set) s μ) (xc 0) := by
        simp only [fM_isCover, fM_isCover_0, gd293 h', f293 h', Option.bind_some, e49', if_true, q0', if_false]
      rw [ev]
      have goal : ∃ r, xwh (fun s : Int32 => fM_isCover_L30 293 (nI q) (nI set) s μ) (xc 0) = some r ∧ Fr WCv μ r.2 ∧ Tells r.1 (pCov K V a E sh set) := by
        have l3 := h.2.2.2.1
        refine xwh_inv (body := fun s : Int32 => fM_isCover_L30 293 (nI q) (nI set) s μ) (fun i s => s = nI i ∧ ∀ j, j < i → pshown V (lsOf sh set sh.length) (E.1.2.getD j 0)) _ E.1.2.length ?_ ?_ E.1.2.length 0 _ (by omega) ⟨rfl, fun j hj => absurd hj (Nat.not_lt_zero j)⟩
        · rintro i s hi ⟨rfl, hno⟩
          have c1 : ¬ nI E.1.2.length ≤ nI i := nI_ge hi (by omega)
          have b7 := h.2.2.1.head hi
          have t1 : ldA μ 324 (nI i) = some (nI (E.1.2.getD i 0)) := by rw [la324 h' (by omega), h.2.1.2.2 i hi]
          obtain ⟨v, v1, v2⟩ := mshown_ok h.1 (set := set) (t := E.1.2.getD i 0) (by omega) (by omega)
          rcases v2 with ⟨e, v2⟩ | ⟨e, v2⟩
          · left
            refine ⟨nI (i + 1), ?_, rfl, fun j hj => ?_⟩
            · simp only [fM_isCover_L30, f293 h', h.2.1.2.1, Option.bind_some, c1, if_false, g293_48 h', t1, v1, e, xc1F, inc1]
            · by_cases w : j = i
              · rw [w]; exact v2
              · exact hno j (by omega)
          · right
            refine ⟨(xc 0, μ), ?_, Fr.refl μ, Or.inr ⟨rfl, fun w => v2 ((cov.mp w).1 _ (getD_memD hi))⟩⟩
            simp only [fM_isCover_L30, f293 h', h.2.1.2.1, Option.bind_some, c1, if_false, g293_48 h', t1, v1, e, xc0T, if_true, fM_isCover_52, Option.map_some]
        · rintro s ⟨rfl, hno⟩
          obtain ⟨v, μ1, m1, m2, m3⟩ := mcopyHead_ok h hs h3
          refine ⟨(v, μ1), ?_, m2, m3.iff ?_⟩
          · simp only [fM_isCover_L30, f293 h', h.2.1.2.1, Option.bind_some, Int32.le_refl, if_true, m1, Option.map_some]
          · rw [cov]
            refine ⟨fun w => ⟨fun t ht => ?_, w⟩, fun w => w.2⟩
            obtain ⟨j, h1, h2⟩ := mem_getD (d := 0) ht
            rw [← h2]
            exact hno j h1
      obtain ⟨⟨v, μ1⟩, g⟩ := goal
      exact ⟨v, μ1, g⟩
end COVM2
