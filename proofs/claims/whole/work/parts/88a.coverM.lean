/-! the reference: is a set a cover -/
/-- what a show's number keeps to -/
def ShX (V : Nat → xPic) (nv x : Nat) : Prop := x / 512 < nv ∧ x < 4096 ∧ CodeOf (x / 512) (V (x / 512)).2.length x ∧ (∀ k, pterm x k < 7) ∧ ∀ k k', k < (V (x / 512)).2.length → k' < (V (x / 512)).2.length → (V (x / 512)).2.getD k 0 = (V (x / 512)).2.getD k' 0 → pterm x k = pterm x k'
def MBase (μ : xM) (V : Nat → xPic) (nv : Nat) (sh : List Nat) : Prop := Sh μ ∧ ShowsM μ V sh ∧ nv ≤ 6 ∧ (∀ x, x ∈ sh → ShX V nv x) ∧ ∀ u, u < nv → PicWf (V u) ∧ PicM μ (10 + u) (V u)
/-- cells that a cover's check changes -/
def WCv (a k : Nat) : Prop := FE a k ∨ a = 317 ∨ a = 318 ∨ a = 326
theorem MBase.fr {μ μ' : xM} {V : Nat → xPic} {nv : Nat} {sh : List Nat} (h : MBase μ V nv sh) (f : Fr WCv μ μ') : MBase μ' V nv sh := ⟨f.sh h.1, h.2.1.fr f (fun a k q => by unfold WCv FE; omega), h.2.2.1, h.2.2.2.1, fun u hu => ⟨(h.2.2.2.2 u hu).1, (h.2.2.2.2 u hu).2.fr' f (fun a k q => by unfold WCv FE; omega)⟩⟩
section COVM
variable {μ : xM} {V : Nat → xPic} {nv : Nat} {sh : List Nat}
theorem MBase.term (h : MBase μ V nv sh) {i : Nat} (hi : i < sh.length) {k : Nat} (hk : k < (V (sh.getD i 0 / 512)).2.length) : fM_termOf 293 (nI i) (nI k) μ = some (nI (pterm (sh.getD i 0) k)) := by
  obtain ⟨h1, h2, h3, h4, h5⟩ := h
  obtain ⟨x1, x2, x3, _⟩ := h4 _ (getD_memD (d := 0) hi)
  obtain ⟨w, cM⟩ := h5 _ x1
  exact mtermOf_ok h1 h2 hi (by omega) rfl w cM x3 hk
theorem MBase.view (h : MBase μ V nv sh) {i : Nat} (hi : i < sh.length) : ldA μ 319 (nI i) = some (nI (sh.getD i 0 / 512)) := by
  have := h.2.1.1
  rw [la319 h.1 (by omega), (h.2.1.2.2 i hi).1]
theorem MBase.head (h : MBase μ V nv sh) {u : Nat} (hu : u < nv) : ldA μ 303 (nI (10 + u)) = some (nI (V u).2.length) := by
  have := h.2.2.1
  rw [la303 h.1 (by omega), (h.2.2.2.2 u hu).2.2.1]
theorem mbit {set i : Nat} (h : set < 2 ^ 31) (hi : i < 32) : ((nI set >>> (nI i &&& 31)) &&& xc 1 = xc 1) ↔ set.testBit i = true := by
  rw [nI_bitAt h hi]
  by_cases q : set.testBit i = true
  · rw [if_pos q]; exact ⟨fun _ => q, fun _ => rfl⟩
  · rw [if_neg q]; exact ⟨fun z => absurd z (by decide), fun z => absurd z q⟩
def shownAt (V : Nat → xPic) (sh : List Nat) (set t s : Nat) : Prop := t < 2 ∨ ∃ i, i < s ∧ set.testBit i = true ∧ ∃ k, k < (V (sh.getD i 0 / 512)).2.length ∧ pterm (sh.getD i 0) k = t
theorem shownAt_iff {set t : Nat} : shownAt V sh set t sh.length ↔ pshown V (lsOf sh set sh.length) t := by
  unfold shownAt pshown
  constructor
  · rintro (h | ⟨i, h1, h2, h3⟩)
    · exact Or.inl h
    · exact Or.inr ⟨_, List.mem_map.mpr ⟨i, pbits_mem.mpr ⟨h1, h2⟩, rfl⟩, h3⟩
  · rintro (h | ⟨x, h1, h3⟩)
    · exact Or.inl h
    · obtain ⟨i, h4, rfl⟩ := List.mem_map.mp h1
      obtain ⟨h5, h6⟩ := pbits_mem.mp h4
      exact Or.inr ⟨i, h5, h6, h3⟩
/-- a flag that tells a proposition -/
def Tells (v : Int32) (p : Prop) : Prop := (v = xc 1 ∧ p) ∨ (v = xc 0 ∧ ¬ p)
theorem Tells.iff {v : Int32} {p q : Prop} (h : Tells v p) (e : p ↔ q) : Tells v q := h.imp (fun z => ⟨z.1, e.mp z.2⟩) (fun z => ⟨z.1, fun w => z.2 (e.mpr w)⟩)
theorem Tells.zo {v : Int32} {p : Prop} (h : Tells v p) : v = 0 ∨ v = 1 := h.elim (fun z => Or.inr z.1) (fun z => Or.inl z.1)
theorem mshown_ok (h : MBase μ V nv sh) {set t : Nat} (hs : set < 2 ^ 31) (ht : t < 64) : ∃ v, fM_isShown 293 (nI set) (nI t) μ = some v ∧ Tells v (pshown V (lsOf sh set sh.length) t) := by
  have hh := h.1
  have l12 := h.2.1.1
  have outer : ∀ v0, Tells v0 (shownAt V sh set t 0) → ∃ v, fM_isShown_10 293 (nI set) (nI t) v0 μ = some v ∧ Tells v (pshown V (lsOf sh set sh.length) t) := fun v0 hv0 => by
    unfold fM_isShown_10
    refine xwh_inv (body := fun s : Int32 × Int32 => fM_isShown_L14 293 (nI set) (nI t) s.1 s.2 μ) (fun i z => z.2 = nI i ∧ Tells z.1 (shownAt V sh set t i)) _ sh.length ?_ ?_ sh.length 0 _ (by omega) ⟨rfl, hv0⟩
    · rintro i ⟨v, x⟩ hi ⟨rfl, hv⟩
      left
      have c0 : ¬ nI sh.length ≤ nI i := nI_ge hi (by omega)
      have hx := h.2.2.2.1 _ (getD_memD (d := 0) hi)
      have n6 := h.2.2.1
      have mb := mbit (i := i) hs (by omega)
      have lh := (h.2.2.2.2 _ hx.1).1.2.2.1
      have tH := h.head hx.1
      have tV := h.view hi
      have inner : ∃ r, xwh (fun s : Int32 × Int32 => fM_isShown_L26 293 (nI set) (nI t) s.1 (nI i) s.2 μ) (v, xc 0) = some r ∧ ∃ v', r = .inl (v', nI (i + 1)) ∧ Tells v' (shownAt V sh set t (i + 1)) := by
        by_cases q : set.testBit i = true
        · have mb' := mb.mpr q
          refine xwh_inv (body := fun s : Int32 × Int32 => fM_isShown_L26 293 (nI set) (nI t) s.1 (nI i) s.2 μ) (fun k z => z.2 = nI k ∧ Tells z.1 (shownAt V sh set t i ∨ ∃ k', k' < k ∧ pterm (sh.getD i 0) k' = t)) _ (V (sh.getD i 0 / 512)).2.length ?_ ?_ (V (sh.getD i 0 / 512)).2.length 0 _ (by omega) ⟨rfl, hv.iff ⟨Or.inl, fun z => z.elim id (fun ⟨k, y, _⟩ => absurd y (Nat.not_lt_zero k))⟩⟩
          · rintro k ⟨w, y⟩ hk ⟨rfl, hw⟩
            left
            have c1 : ¬ nI (V (sh.getD i 0 / 512)).2.length ≤ nI k := nI_ge hk (by omega)
            have tT := h.term hi hk
            have p7 := hx.2.2.2.1 k
            rcases hw with ⟨hw1, hw2⟩ | ⟨hw1, hw2⟩
            · have e : w = xc 1 := hw1
              subst e
              refine ⟨(xc 1, nI (k + 1)), ?_, rfl, Or.inl ⟨rfl, hw2.imp id (fun ⟨k', y1, y2⟩ => ⟨k', by omega, y2⟩)⟩⟩
              simp only [fM_isShown_L26, g293_14 hh, g293_41 hh, tV, Option.bind_some, ix10, tH, c1, if_false, mb', if_true, xc1F, fM_isShown_72, fM_isShown_77, inc1]
            · have e : w = xc 0 := hw1
              subst e
              by_cases z : pterm (sh.getD i 0) k = t
              · refine ⟨(xc 1, nI (k + 1)), ?_, rfl, Or.inl ⟨rfl, Or.inr ⟨k, by omega, z⟩⟩⟩
                simp only [fM_isShown_L26, g293_14 hh, g293_41 hh, tV, Option.bind_some, ix10, tH, c1, if_false, mb', if_true, xc0T, tT, z, fM_isShown_72, fM_isShown_77, inc1]
              · have z' : ¬ nI (pterm (sh.getD i 0) k) = nI t := fun y => z ((nI64 (by omega) ht).mp y)
                refine ⟨(xc 0, nI (k + 1)), ?_, rfl, Or.inr ⟨rfl, fun y => ?_⟩⟩
                · simp only [fM_isShown_L26, g293_14 hh, g293_41 hh, tV, Option.bind_some, ix10, tH, c1, if_false, mb', if_true, xc0T, tT, z', fM_isShown_77, inc1]
                · rcases y with y | ⟨k', y1, y2⟩
                  · exact hw2 (Or.inl y)
                  · by_cases e : k' = k
                    · rw [e] at y2; exact z y2
                    · exact hw2 (Or.inr ⟨k', by omega, y2⟩)
          · rintro ⟨w, y⟩ ⟨rfl, hw⟩
            refine ⟨.inl (w, nI (i + 1)), ?_, w, rfl, hw.iff ⟨?_, ?_⟩⟩
            · simp only [fM_isShown_L26, g293_14 hh, g293_41 hh, tV, Option.bind_some, ix10, tH, Int32.le_refl, if_true, fM_isShown_84, Option.map_some, inc1]
            · rintro ((y | ⟨i', y1, y2⟩) | ⟨k, y1, y2⟩)
              · exact Or.inl y
              · exact Or.inr ⟨i', by omega, y2⟩
              · exact Or.inr ⟨i, by omega, q, k, y1, y2⟩
            · rintro (y | ⟨i', y1, y2, k, y3, y4⟩)
              · exact Or.inl (Or.inl y)
              · by_cases e : i' = i
                · subst e
                  exact Or.inr ⟨k, y3, y4⟩
                · exact Or.inl (Or.inr ⟨i', by omega, y2, k, y3, y4⟩)
        · have mb' : ¬ (nI set >>> (nI i &&& 31)) &&& xc 1 = xc 1 := fun z => q (mb.mp z)
          refine ⟨.inl (v, nI (i + 1)), xwh_stop ?_, v, rfl, hv.iff ⟨?_, ?_⟩⟩
          · by_cases z : (V (sh.getD i 0 / 512)).2.length = 0
            · have c1 : nI (V (sh.getD i 0 / 512)).2.length ≤ xc 0 := by rw [z]; decide
              simp only [fM_isShown_L26, g293_14 hh, g293_41 hh, tV, Option.bind_some, ix10, tH, c1, if_true, fM_isShown_84, Option.map_some, inc1]
            · have c1 : ¬ nI (V (sh.getD i 0 / 512)).2.length ≤ xc 0 := nI_ge (a := 0) (by omega) (by omega)
              simp only [fM_isShown_L26, g293_14 hh, g293_41 hh, tV, Option.bind_some, ix10, tH, c1, if_false, mb', fM_isShown_84, Option.map_some, inc1]
          · rintro (y | ⟨i', y1, y2⟩)
            · exact Or.inl y
            · exact Or.inr ⟨i', by omega, y2⟩
          · rintro (y | ⟨i', y1, y2, y3⟩)
            · exact Or.inl y
            · by_cases e : i' = i
              · rw [e] at y2; exact absurd y2 q
              · exact Or.inr ⟨i', by omega, y2, y3⟩
      obtain ⟨r, r1, v', rfl, r2⟩ := inner
      refine ⟨(v', nI (i + 1)), ?_, rfl, r2⟩
      simp only [fM_isShown_L14, f293 hh, h.2.1.2.1, Option.bind_some, c0, if_false, r1]
    · rintro ⟨v, x⟩ ⟨rfl, hv⟩
      refine ⟨v, ?_, hv.iff shownAt_iff⟩
      have zo := hv.zo
      simp only [fM_isShown_L14, f293 hh, h.2.1.2.1, Option.bind_some, Int32.le_refl, if_true, fM_isShown_90, zo, Option.map_some]
  by_cases q : t < 2
  · have c0 : ¬ xc 2 ≤ nI t := nI_ge (b := 2) q (by decide)
    obtain ⟨v, v1, v2⟩ := outer (xc 1) (Or.inl ⟨rfl, Or.inl q⟩)
    refine ⟨v, ?_, v2⟩
    simp only [fM_isShown, fM_isShown_0, gd293 hh, c0, if_false, v1]
  · have c0 : xc 2 ≤ nI t := nI_le (a := 2) (by omega) (by omega)
    obtain ⟨v, v1, v2⟩ := outer (xc 0) (Or.inr ⟨rfl, fun z => z.elim q (fun ⟨i, y, _⟩ => absurd y (Nat.not_lt_zero i))⟩)
    refine ⟨v, ?_, v2⟩
    simp only [fM_isShown, fM_isShown_0, gd293 hh, c0, if_true, v1]
/-- names of a view as the reference names them, after some places of its head -/
def nmd (v : xPic) (x b : Nat) : Nat → Nat → Nat
  | 0, t => if t < 2 then t else b + t
  | k + 1, t => if t = v.2.getD k 0 then pterm x k else nmd v x b k t
theorem nmd_no {v : xPic} {x b t : Nat} (ht : 2 ≤ t) : ∀ k, (∀ i, i < k → ¬ v.2.getD i 0 = t) → nmd v x b k t = b + t
  | 0, _ => if_neg (by omega)
  | k + 1, h => by
    unfold nmd
    rw [if_neg (fun e => h k (by omega) e.symm)]
    exact nmd_no ht k (fun i hi => h i (by omega))
theorem nmd_yes {v : xPic} {x b t i : Nat} (hc : ∀ k k', k < v.2.length → k' < v.2.length → v.2.getD k 0 = v.2.getD k' 0 → pterm x k = pterm x k') (e : v.2.getD i 0 = t) : ∀ k, k ≤ v.2.length → i < k → nmd v x b k t = pterm x i
  | 0, _, h => absurd h (Nat.not_lt_zero i)
  | k + 1, hk, h => by
    unfold nmd
    by_cases q : t = v.2.getD k 0
    · rw [if_pos q]
      exact hc k i (by omega) (by omega) (by rw [← q, e])
    · rw [if_neg q]
      have : ¬ i = k := fun z => by rw [z] at e; exact q e.symm
      exact nmd_yes hc e k (by omega) (by omega)
theorem nmd_popT {v : xPic} {x b t : Nat} (w : PicWf v) (hc : ∀ k k', k < v.2.length → k' < v.2.length → v.2.getD k 0 = v.2.getD k' 0 → pterm x k = pterm x k') : nmd v x b v.2.length t = popen1.popenT v x b t := by
  unfold popen1.popenT
  by_cases q : t < 2
  · rw [if_pos q]
    have : ∀ k, k ≤ v.2.length → nmd v x b k t = t := fun k => by
      induction k with
      | zero => intro _; exact if_pos q
      | succ k ih =>
        intro hk
        unfold nmd
        have := (w.2.2.2.2 _ (getD_memD (d := 0) (show k < v.2.length by omega))).1
        rw [if_neg (by omega)]
        exact ih (by omega)
    exact this _ (Nat.le_refl _)
  · rw [if_neg q]
    cases h : v.2.idxOf? t with
    | some k =>
      obtain ⟨h1, h2⟩ := idx_lt h
      exact nmd_yes hc h2 _ (Nat.le_refl _) h1
    | none =>
      refine nmd_no (by omega) _ (fun i hi e => ?_)
      have hm : t ∈ v.2 := e ▸ getD_memD hi
      rw [List.idxOf?_eq_none_iff] at h
      exact h hm
theorem nmd_lt {v : xPic} {x b : Nat} (hp : ∀ k, pterm x k < 7) {t : Nat} (ht : t < 7) : ∀ k, nmd v x b k t < b + 7
  | 0 => by unfold nmd; split <;> omega
  | k + 1 => by
    unfold nmd
    split
    · have := hp k; omega
    · exact nmd_lt hp ht k
theorem mopen_ok (h : MBase μ V nv sh) {i : Nat} (hi : i < sh.length) {b : Nat} (hb : b < 100) {P : xPic} (cE : PicE μ P) (hP : P.1.length + (V (sh.getD i 0 / 512)).1.length ≤ 12) : ∃ μ1, fM_open 293 (nI i) (nI b) μ = some μ1 ∧ Fr WCv μ μ1 ∧ PicE μ1 (P.1 ++ popen1 (V (sh.getD i 0 / 512)) (sh.getD i 0) b, P.2) := by
  have hh := h.1
  obtain ⟨x, ex⟩ : ∃ x, x = sh.getD i 0 := ⟨_, rfl⟩
  have hx := h.2.2.2.1 _ (getD_memD (d := 0) hi)
  have n6 := h.2.2.1
  have tV := h.view hi
  have tm : ∀ μ', Fr WCv μ μ' → ∀ k, k < (V (sh.getD i 0 / 512)).2.length → fM_termOf 293 (nI i) (nI k) μ' = some (nI (pterm (sh.getD i 0) k)) := fun μ' f k hk => (h.fr f).term hi hk
  have hu := h.2.2.2.2 _ hx.1
  rw [← ex] at hx tV tm hu hP ⊢
  obtain ⟨w, cM⟩ := hu
  have lh := w.2.2.1
  have l4 := w.2.1
  have q16 : 10 + x / 512 < 16 := by have := hx.1; omega
  -- rows, last
  have rows : ∀ μ', Fr WCv μ μ' → PicE μ' P → (∀ t, t < 7 → xI μ' 326 t = nI (popen1.popenT (V (x / 512)) x b t)) → ∃ μ1, fM_open_91 293 (nI (10 + x / 512)) μ' = some μ1 ∧ Fr WCv μ μ1 ∧ PicE μ1 (P.1 ++ popen1 (V (x / 512)) x b, P.2) := fun μ' f c e => by
    have lp : (popen1 (V (x / 512)) x b).length = (V (x / 512)).1.length := by unfold popen1; rw [List.length_map]
    unfold fM_open_91
    rw [show xc 4 * nI (10 + x / 512) = nI (4 * (10 + x / 512) + 0) from pk_mul 4 _]
    refine xwh_inv (body := fun s : Int32 × xM => fM_open_L96 293 (nI (10 + x / 512)) s.1 s.2) (fun r s => s.1 = nI (4 * (10 + x / 512) + r) ∧ Fr WCv μ s.2 ∧ Fr (fun a k => a = 293 ∧ k = 29 ∨ 313 ≤ a ∧ a ≤ 315) μ' s.2 ∧ PicE s.2 (P.1 ++ (popen1 (V (x / 512)) x b).take r, P.2)) _ (V (x / 512)).1.length ?_ ?_ (V (x / 512)).1.length 0 _ (by omega) ⟨rfl, f, Fr.refl μ', by rw [List.take_zero, List.append_nil]; exact c⟩
    · rintro r ⟨y, μ2⟩ hr ⟨rfl, f2, f3, c2⟩
      left
      have h2 := f2.sh hh
      have cM2 := cM.fr' f2 (fun a k q => by unfold WCv FE; omega)
      obtain ⟨r1, r2, r3⟩ := cM2.2.2.1 r hr
      have br := w.tb.row hr
      have i64 : 4 * (10 + x / 512) + r < 64 := by omega
      have tR : ldA μ2 299 (nI (10 + x / 512)) = some (nI (V (x / 512)).1.length) := by rw [la299 h2 q16, cM2.1]
      have c0 : ¬ nI (4 * (10 + x / 512) + (V (x / 512)).1.length) ≤ nI (4 * (10 + x / 512) + r) := nI_ge (by omega) (by omega)
      have lt : (P.1 ++ (popen1 (V (x / 512)) x b).take r).length = P.1.length + r := by rw [List.length_append, List.length_take, lp]; omega
      have e29 : xI μ2 293 29 = nI (P.1.length + r) := by rw [c2.1, lt]
      have i12 : P.1.length + r < 12 := by omega
      have nm : ∀ t, t < 7 → xI μ2 326 t = nI (popen1.popenT (V (x / 512)) x b t) := fun t ht => (f3.I (by omega)).trans (e t ht)
      have tT : ldA μ2 300 (nI (4 * (10 + x / 512) + r)) = some (nI (prow (V (x / 512)) r).1) := by rw [la300 h2 i64, r1]; rfl
      have k1 : ∀ a, Sh (xsI μ2 313 (P.1.length + r) a) := fun a => h2
      have k2 : ∀ a c, Sh (xsI (xsI μ2 313 (P.1.length + r) a) 314 (P.1.length + r) c) := fun a c => h2
      have k3 : ∀ a c d, Sh (xsI (xsI (xsI μ2 313 (P.1.length + r) a) 314 (P.1.length + r) c) 315 (P.1.length + r) d) := fun a c d => h2
      have tA : ∀ a, ldA (xsI μ2 313 (P.1.length + r) a) 301 (nI (4 * (10 + x / 512) + r)) = some (nI (prow (V (x / 512)) r).2.1) := fun a => by rw [la301 (k1 a) i64, xI_ne (by omega), r2]; rfl
      have tB : ∀ a c, ldA (xsI (xsI μ2 313 (P.1.length + r) a) 314 (P.1.length + r) c) 302 (nI (4 * (10 + x / 512) + r)) = some (nI (prow (V (x / 512)) r).2.2) := fun a c => by rw [la302 (k2 a c) i64, xI_ne (by omega), xI_ne (by omega), r3]; rfl
      have nA : ∀ a, ldA (xsI μ2 313 (P.1.length + r) a) 326 (nI (prow (V (x / 512)) r).2.1) = some (nI (popen1.popenT (V (x / 512)) x b (prow (V (x / 512)) r).2.1)) := fun a => by rw [la326 (k1 a) br.2.1, xI_ne (by omega), nm _ br.2.1]
      have nB : ∀ a c, ldA (xsI (xsI μ2 313 (P.1.length + r) a) 314 (P.1.length + r) c) 326 (nI (prow (V (x / 512)) r).2.2) = some (nI (popen1.popenT (V (x / 512)) x b (prow (V (x / 512)) r).2.2)) := fun a c => by rw [la326 (k2 a c) br.2.2, xI_ne (by omega), xI_ne (by omega), nm _ br.2.2]
      have e1 : ∀ a, xI (xsI μ2 313 (P.1.length + r) a) 293 29 = nI (P.1.length + r) := fun a => (xI_ne (by omega)).trans e29
      have e2 : ∀ a c, xI (xsI (xsI μ2 313 (P.1.length + r) a) 314 (P.1.length + r) c) 293 29 = nI (P.1.length + r) := fun a c => (xI_ne (by omega)).trans (e1 a)
      have e3 : ∀ a c d, xI (xsI (xsI (xsI μ2 313 (P.1.length + r) a) 314 (P.1.length + r) c) 315 (P.1.length + r) d) 293 29 = nI (P.1.length + r) := fun a c d => (xI_ne (by omega)).trans (e2 a c)
      obtain ⟨μ4, e4⟩ : ∃ μ4, μ4 = xsI (xsI (xsI (xsI μ2 313 (P.1.length + r) (nI (prow (V (x / 512)) r).1)) 314 (P.1.length + r) (nI (popen1.popenT (V (x / 512)) x b (prow (V (x / 512)) r).2.1))) 315 (P.1.length + r) (nI (popen1.popenT (V (x / 512)) x b (prow (V (x / 512)) r).2.2))) 293 29 (nI (P.1.length + r + 1)) := ⟨_, rfl⟩
      have fin : Fr (fun a k => a = 293 ∧ k = 29 ∨ 313 ≤ a ∧ a ≤ 315) μ2 μ4 := by
        rw [e4]
        exact ((((Fr.refl μ2).s _ (by omega)).s _ (by omega)).s _ (by omega)).s _ (by omega)
      have eg : (popen1 (V (x / 512)) x b).getD r (0, 0, 0) = ((prow (V (x / 512)) r).1, popen1.popenT (V (x / 512)) x b (prow (V (x / 512)) r).2.1, popen1.popenT (V (x / 512)) x b (prow (V (x / 512)) r).2.2) := by
        unfold popen1
        rw [getD_map (d := (0, 0, 0)) hr]
        rfl
      refine ⟨(nI (4 * (10 + x / 512) + (r + 1)), μ4), ?_, rfl, f2.trans (fin.mono (fun a k q => by unfold WCv FE; omega)), f3.trans fin, ?_, ?_, fun k hk => ?_, fun k hk => ?_⟩
      · rw [e4]
        simp only [fM_open_L96, g293_10 h2, tR, Option.bind_some, ix43, c0, if_false, g293_30 h2, f293 h2, e29, g293_11 h2, tT, sa313 h2 _ i12, g293_31 (k1 _), f293 (k1 _), e1, g293_51 (k1 _), g293_12 (k1 _), tA, nA, sa314 (k1 _) _ i12, g293_32 (k2 _ _), f293 (k2 _ _), e2, g293_51 (k2 _ _), g293_13 (k2 _ _), tB, nB, sa315 (k2 _ _) _ i12, f293 (k3 _ _ _), e3, fs293 (k3 _ _ _), inc1, show 4 * (10 + x / 512) + r + 1 = 4 * (10 + x / 512) + (r + 1) from rfl]
      · rw [e4, xI_eq, List.length_append, List.length_take, lp]
        congr 1
        omega
      · rw [fin.I (by omega)]; exact c2.2.1
      · have hk' : k < P.1.length + (r + 1) := by
          have : k < (P.1 ++ (popen1 (V (x / 512)) x b).take (r + 1)).length := hk
          rw [List.length_append, List.length_take, lp] at this
          omega
        unfold RowIs
        have ep : prow (P.1 ++ (popen1 (V (x / 512)) x b).take (r + 1), P.2) k = ((P.1 ++ (popen1 (V (x / 512)) x b).take r) ++ [(popen1 (V (x / 512)) x b).getD r (0, 0, 0)]).getD k (0, 0, 0) := by
          unfold prow
          rw [take_succD _ _ (0, 0, 0) (by rw [lp]; exact hr), ← List.append_assoc]
        rw [ep, e4]
        by_cases z : k = P.1.length + r
        · subst z
          rw [← lt, getD_app_r, eg, lt]
          simp (disch := omega) only [xI_ne, xI_eq, and_self]
        · rw [getD_app_l (by rw [lt]; omega)]
          simp (disch := omega) only [xI_ne]
          exact c2.2.2.1 k (by show k < (P.1 ++ (popen1 (V (x / 512)) x b).take r).length; rw [lt]; omega)
      · rw [fin.I (by omega)]; exact c2.2.2.2 k hk
    · rintro ⟨y, μ2⟩ ⟨rfl, f2, f3, c2⟩
      have h2 := f2.sh hh
      have cM2 := cM.fr' f2 (fun a k q => by unfold WCv FE; omega)
      have tR : ldA μ2 299 (nI (10 + x / 512)) = some (nI (V (x / 512)).1.length) := by rw [la299 h2 q16, cM2.1]
      refine ⟨μ2, ?_, f2, ?_⟩
      · simp only [fM_open_L96, g293_10 h2, tR, Option.bind_some, ix43, Int32.le_refl, if_true]
      · rw [← lp, List.take_length] at c2
        exact c2
  -- names of the head
  have names : ∀ μ', Fr WCv μ μ' → PicE μ' P → (∀ t, t < 7 → xI μ' 326 t = nI (nmd (V (x / 512)) x b 0 t)) → ∃ μ1, fM_open_48 293 (nI i) (nI (10 + x / 512)) μ' = some μ1 ∧ Fr WCv μ μ1 ∧ PicE μ1 (P.1 ++ popen1 (V (x / 512)) x b, P.2) := fun μ' f c e => by
    unfold fM_open_48
    refine xwh_inv (body := fun s : Int32 × xM => fM_open_L51 293 (nI i) (nI (10 + x / 512)) s.1 s.2) (fun k s => s.1 = nI k ∧ Fr WCv μ s.2 ∧ PicE s.2 P ∧ ∀ t, t < 7 → xI s.2 326 t = nI (nmd (V (x / 512)) x b k t)) _ (V (x / 512)).2.length ?_ ?_ (V (x / 512)).2.length 0 _ (by omega) ⟨rfl, f, c, e⟩
    · rintro k ⟨y, μ2⟩ hk ⟨rfl, f2, c2, e2⟩
      left
      have h2 := f2.sh hh
      have cM2 := cM.fr' f2 (fun a k q => by unfold WCv FE; omega)
      have tH : ldA μ2 303 (nI (10 + x / 512)) = some (nI (V (x / 512)).2.length) := by rw [la303 h2 q16, cM2.2.1]
      have c0 : ¬ nI (V (x / 512)).2.length ≤ nI k := nI_ge hk (by omega)
      have bh := w.tb.head hk
      have t1 : ldA μ2 304 (nI (3 * (10 + x / 512) + k)) = some (nI ((V (x / 512)).2.getD k 0)) := by rw [la304 h2 (by omega), cM2.2.2.2 k hk]
      have fx : Fr (fun a _ => a = 326) μ2 (xsI μ2 326 ((V (x / 512)).2.getD k 0) (nI (pterm x k))) := (Fr.refl μ2).s _ rfl
      refine ⟨(nI (k + 1), xsI μ2 326 ((V (x / 512)).2.getD k 0) (nI (pterm x k))), ?_, rfl, f2.trans (fx.mono (fun a k q => by unfold WCv; omega)), c2.fr fx (fun a k q => by omega), fun t ht => ?_⟩
      · simp only [fM_open_L51, g293_14 h2, tH, Option.bind_some, c0, if_false, g293_51 h2, g293_15 h2, ix33, t1, tm μ2 f2 k hk, sa326 h2 _ bh, inc1]
      · show _ = nI (if t = (V (x / 512)).2.getD k 0 then pterm x k else nmd (V (x / 512)) x b k t)
        by_cases z : t = (V (x / 512)).2.getD k 0
        · rw [if_pos z, z, xI_eq]
        · rw [if_neg z, xI_ne (by omega)]; exact e2 t ht
    · rintro ⟨y, μ2⟩ ⟨rfl, f2, c2, e2⟩
      have h2 := f2.sh hh
      have cM2 := cM.fr' f2 (fun a k q => by unfold WCv FE; omega)
      have tH : ldA μ2 303 (nI (10 + x / 512)) = some (nI (V (x / 512)).2.length) := by rw [la303 h2 q16, cM2.2.1]
      obtain ⟨μ1, r1, r2⟩ := rows μ2 f2 c2 (fun t ht => by rw [e2 t ht, nmd_popT w hx.2.2.2.2])
      refine ⟨μ1, ?_, r2⟩
      simp only [fM_open_L51, g293_14 h2, tH, Option.bind_some, Int32.le_refl, if_true, r1, Option.map_some]
  have ev : fM_open 293 (nI i) (nI b) μ = xwh (fun s : Int32 × xM => fM_open_L13 293 (nI i) (nI b) (nI (10 + x / 512)) s.1 s.2) (xc 0, μ) := by
    simp only [fM_open, fM_open_0, gd293 hh, g293_41 hh, Option.bind_some, tV, ix10]
  rw [ev]
  refine xwh_inv (body := fun s : Int32 × xM => fM_open_L13 293 (nI i) (nI b) (nI (10 + x / 512)) s.1 s.2) (fun n s => s.1 = nI n ∧ Fr WCv μ s.2 ∧ PicE s.2 P ∧ ∀ t, t < n → xI s.2 326 t = nI (nmd (V (x / 512)) x b 0 t)) _ 7 ?_ ?_ 7 0 _ (by omega) ⟨rfl, Fr.refl μ, cE, fun t ht => absurd ht (Nat.not_lt_zero t)⟩
  · rintro n ⟨y, μ2⟩ hn ⟨rfl, f2, c2, e2⟩
    left
    have h2 := f2.sh hh
    have c0 : ¬ xc 7 ≤ nI n := nI_ge (b := 7) hn (by decide)
    have fx : Fr (fun a _ => a = 326) μ2 (xsI μ2 326 n (nI (nmd (V (x / 512)) x b 0 n))) := (Fr.refl μ2).s _ rfl
    refine ⟨(nI (n + 1), xsI μ2 326 n (nI (nmd (V (x / 512)) x b 0 n))), ?_, rfl, f2.trans (fx.mono (fun a k q => by unfold WCv; omega)), c2.fr fx (fun a k q => by omega), fun t ht => ?_⟩
    · by_cases z : n < 2
      · have c1 : ¬ xc 2 ≤ nI n := nI_ge (b := 2) z (by decide)
        rw [show nmd (V (x / 512)) x b 0 n = n from if_pos z]
        simp only [fM_open_L13, c0, if_false, g293_51 h2, Option.bind_some, c1, fM_open_41, sa326 h2 _ hn, inc1]
      · have c1 : xc 2 ≤ nI n := nI_le (a := 2) (by omega) (by omega)
        rw [show nmd (V (x / 512)) x b 0 n = b + n from if_neg z]
        simp only [fM_open_L13, c0, if_false, g293_51 h2, Option.bind_some, c1, if_true, nI_add, fM_open_41, sa326 h2 _ hn, inc1]
    · by_cases z : t = n
      · subst z; rw [xI_eq]
      · rw [xI_ne (by omega)]; exact e2 t (by omega)
  · rintro ⟨y, μ2⟩ ⟨rfl, f2, c2, e2⟩
    obtain ⟨μ1, r1, r2⟩ := names μ2 f2 c2 e2
    refine ⟨μ1, ?_, r2⟩
    simp only [fM_open_L13, show (xc 7 ≤ nI 7) = True from by decide, if_true, r1, Option.map_some]
end COVM
