/-! the class opens sets of shows -/
section OPENC
variable {μ : xM} {s p : Nat} {P : xPic}
theorem place_ok (hp : IsPic μ p 4) (cp : PicC μ p P) (w : PicWf P) {t : Nat} (ht : t < 7) : fP_placeInHead p (nI t) μ = some (match P.2.idxOf? t with
    | some k => nI k
    | none => xc (-1)) := by
  have lph := w.2.2.1
  unfold fP_placeInHead fP_placeInHead_0
  rw [gd_k (ci := 5) hp.2.2.1]
  have := xwh_inv (body := fun z : Int32 => fP_placeInHead_L2 p (nI t) z μ) (fun k z => z = nI k ∧ P.2.idxOf? t = ((P.2.drop k).idxOf? t).map (· + k)) (fun a => a = match P.2.idxOf? t with
    | some k => nI k
    | none => xc (-1)) P.2.length ?_ ?_ P.2.length 0 (xc 0) (by omega) ⟨rfl, ?_⟩
  · obtain ⟨a, h1, h2⟩ := this
    rw [h1, h2]
  · rintro k z hk ⟨rfl, e⟩
    have c0 : ¬ nI P.2.length ≤ nI k := nI_ge hk (by omega)
    have hb := w.tb.head hk
    have t1 := pic_hv hp cp lph hk
    rw [drop_succD 0 hk, List.idxOf?_cons] at e
    by_cases q : P.2.getD k 0 = t
    · right
      rw [if_pos (by simp only [q, beq_self_eq_true])] at e
      refine ⟨nI k, ?_, ?_⟩
      · simp only [fP_placeInHead_L2, hp.headLen cp, Option.bind_some, c0, if_false, pic_h hp, t1, q, if_true, fP_placeInHead_20, Option.map_some]
      · rw [e]
        show nI k = nI (0 + k)
        rw [Nat.zero_add]
    · left
      have q' : ¬ nI (P.2.getD k 0) = nI t := fun z => q ((nI64 (by omega) (by omega)).mp z)
      rw [if_neg (by simp only [beq_iff_eq]; exact q)] at e
      refine ⟨nI (k + 1), ?_, rfl, ?_⟩
      · simp only [fP_placeInHead_L2, hp.headLen cp, Option.bind_some, c0, if_false, pic_h hp, t1, q', inc1]
      · rw [e, Option.map_map]
        congr 1
        funext x
        show x + 1 + k = x + (k + 1)
        omega
  · rintro z ⟨rfl, e⟩
    rw [List.drop_length, List.idxOf?_nil] at e
    refine ⟨xc (-1), ?_, ?_⟩
    · simp only [fP_placeInHead_L2, hp.headLen cp, Option.bind_some, Int32.le_refl, if_true, fP_placeInHead_28, Option.map_some]
    · rw [e]; rfl
  · rw [List.drop_zero]
    cases P.2.idxOf? t <;> rfl
theorem idx_lt {l : List Nat} {t k : Nat} (h : l.idxOf? t = some k) : k < l.length ∧ l.getD k 0 = t := by
  induction l generalizing k with
  | nil => cases h
  | cons a l ih =>
    rw [List.idxOf?_cons] at h
    by_cases q : (a == t) = true
    · rw [if_pos q] at h
      cases h
      exact ⟨by simp, by simpa using q⟩
    · rw [if_neg q] at h
      cases hl : l.idxOf? t with
      | none => rw [hl] at h; cases h
      | some j =>
        rw [hl] at h
        cases h
        obtain ⟨h1, h2⟩ := ih hl
        exact ⟨by rw [List.length_cons]; exact Nat.succ_lt_succ h1, h2⟩
theorem openTerm_ok (hs : IsSight μ s) (hp : IsPic μ p 4) (cp : PicC μ p P) (w : PicWf P) {i x : Nat} (hi : i < 12) (ex : xI μ (s + 6) i = nI x) (hx : x < 4096) {t : Nat} (ht : t < 7) {b : Nat} (hb : b < 1000) : fS_openTerm s p (nI t) (nI i) (nI (b + 2)) μ = some (nI (popen1.popenT P x b t)) := by
  unfold popen1.popenT
  by_cases q : t < 2
  · have c0 : ¬ xc 2 ≤ nI t := nI_ge (b := 2) q (by decide)
    rw [if_pos q]
    simp only [fS_openTerm, fS_openTerm_0, gd_k (ci := 6) hs.2.1, c0, if_false]
  · have c0 : xc 2 ≤ nI t := nI_le (a := 2) (by omega) (by omega)
    have pl := place_ok hp cp w ht
    rw [if_neg q]
    cases h : P.2.idxOf? t with
    | some k =>
      rw [h] at pl
      have hk := (idx_lt h).1
      have lph := w.2.2.1
      have tk := xtermOf_ok hs hi ex hx (show k < 3 by omega)
      have p0 : 0 ≤ nI k := nI_pos' (by omega)
      simp only [fS_openTerm, fS_openTerm_0, gd_k (ci := 6) hs.2.1, c0, if_true, pl, Option.bind_some, p0, tk]
    | none =>
      rw [h] at pl
      have p0 : ¬ 0 ≤ xc (-1) := by decide
      have e : nI (b + 2) + nI t - xc 2 = nI (b + t) := by
        rw [nI_add, show xc 2 = nI 2 from rfl, pk_sub (by omega)]
        congr 1
        omega
      simp only [fS_openTerm, fS_openTerm_0, gd_k (ci := 6) hs.2.1, c0, if_true, pl, Option.bind_some, p0, if_false, e]
theorem openShow_ok (hs : IsSight μ s) (h188 : 193 ≤ s) (ho : IsPic μ 188 12) (hp : IsPic μ p 4) (dp : p + 5 ≤ 188) (cp : PicC μ p P) (w : PicWf P) {i x : Nat} (hi : i < 12) (ex : xI μ (s + 6) i = nI x) (hx : x < 4096) (hx7 : ∀ k, pterm x k < 7) {b : Nat} (hb : b < 40) {R : List xRow} (cR : PicC μ 188 (R, [])) (hR : R.length + P.1.length ≤ 12) : ∃ μ1, fS_openShow s 188 p (nI i) (nI (b + 2)) μ = some μ1 ∧ Fr (fun a k => a = 188 ∧ k = 0 ∨ 190 ≤ a ∧ a < 193) μ μ1 ∧ PicC μ1 188 (R ++ popen1 P x b, []) := by
  have w4 := w.2.1
  unfold fS_openShow fS_openShow_0
  rw [gd_k (ci := 6) hs.2.1]
  refine xwh_inv (body := fun z : Int32 × xM => fS_openShow_L3 s 188 p (nI i) (nI (b + 2)) z.1 z.2) (fun k z => z.1 = nI k ∧ Fr (fun a k => a = 188 ∧ k = 0 ∨ 190 ≤ a ∧ a < 193) μ z.2 ∧ PicC z.2 188 (R ++ (popen1 P x b).take k, [])) _ P.1.length ?_ ?_ P.1.length 0 _ (by omega) ⟨rfl, Fr.refl μ, by rw [List.take_zero, List.append_nil]; exact cR⟩
  · rintro k ⟨z, μ'⟩ hk ⟨rfl, f, c⟩
    left
    have hs' := f.sight hs
    have ho' := f.pic ho
    have hp' := f.pic hp
    have cp' : PicC μ' p P := cp.fr (fun a k q r => f.I (by omega))
    have c0 : ¬ nI P.1.length ≤ nI k := nI_ge hk (by omega)
    have br := w.tb.row hk
    have ex' : xI μ' (s + 6) i = nI x := (f.I (by omega)).trans ex
    have o1 := openTerm_ok hs' hp' cp' w hi ex' hx br.2.1 (b := b) (by omega)
    have o2 := openTerm_ok hs' hp' cp' w hi ex' hx br.2.2 (b := b) (by omega)
    have lp : (popen1 P x b).length = P.1.length := by unfold popen1; rw [List.length_map]
    have lt : (R ++ (popen1 P x b).take k).length = R.length + k := by rw [List.length_append, List.length_take, lp]; omega
    obtain ⟨μ2, g1, f2, g2⟩ := addRow2 ho' c (prow P k).1 (popen1.popenT P x b (prow P k).2.1) (popen1.popenT P x b (prow P k).2.2) (by rw [lt]; omega)
    refine ⟨(nI (k + 1), μ2), ?_, rfl, f.trans (f2.mono (fun a k q => by omega)), ?_⟩
    · simp only [fS_openShow_L3, hp'.rowCount cp', Option.bind_some, c0, if_false, pic_a hp', pic_b hp', pic_t hp', pic_av hp' cp' w4 hk, pic_bv hp' cp' w4 hk, pic_tv hp' cp' w4 hk, o1, o2, g1, inc1]
    · rw [take_succD _ _ (0, 0, 0) (by rw [lp]; exact hk), ← List.append_assoc]
      have e : (popen1 P x b).getD k (0, 0, 0) = ((prow P k).1, popen1.popenT P x b (prow P k).2.1, popen1.popenT P x b (prow P k).2.2) := by
        unfold popen1
        rw [getD_map (d := (0, 0, 0)) hk]
        rfl
      rw [e]
      exact g2
  · rintro ⟨z, μ'⟩ ⟨rfl, f, c⟩
    have hp' := f.pic hp
    have cp' : PicC μ' p P := cp.fr (fun a k q r => f.I (by omega))
    have lp : (popen1 P x b).length = P.1.length := by unfold popen1; rw [List.length_map]
    refine ⟨μ', ?_, f, ?_⟩
    · simp only [fS_openShow_L3, hp'.rowCount cp', Option.bind_some, Int32.le_refl, if_true]
    · rw [← lp, List.take_length] at c
      exact c
def tB (x : Nat) : Nat := 2 ^ pterm x 0 ||| 2 ^ pterm x 1 ||| 2 ^ pterm x 2
theorem tB_bit {x t : Nat} : (tB x).testBit t = true ↔ ∃ k, k < 3 ∧ pterm x k = t := by
  unfold tB
  rw [Nat.testBit_or, Nat.testBit_or, Bool.or_eq_true, Bool.or_eq_true, Nat.testBit_two_pow, Nat.testBit_two_pow, Nat.testBit_two_pow, decide_eq_true_eq, decide_eq_true_eq, decide_eq_true_eq]
  constructor
  · rintro ((h | h) | h)
    · exact ⟨0, by decide, h⟩
    · exact ⟨1, by decide, h⟩
    · exact ⟨2, by decide, h⟩
  · rintro ⟨k, hk, h⟩
    obtain rfl | rfl | rfl : k = 0 ∨ k = 1 ∨ k = 2 := by omega
    · exact Or.inl (Or.inl h)
    · exact Or.inl (Or.inr h)
    · exact Or.inr h
theorem tB_lt {x : Nat} (h : ∀ k, pterm x k < 7) : tB x < 2 ^ 7 := Nat.or_lt_two_pow (Nat.or_lt_two_pow (Nat.pow_lt_pow_right (by decide) (h 0)) (Nat.pow_lt_pow_right (by decide) (h 1))) (Nat.pow_lt_pow_right (by decide) (h 2))
theorem xtermsOf_ok (hs : IsSight μ s) {i x : Nat} (hi : i < 12) (ex : xI μ (s + 6) i = nI x) (hx : x < 4096) (hx7 : ∀ k, pterm x k < 7) : fS_termsOf s (nI i) μ = some (nI (tB x)) := by
  unfold fS_termsOf fS_termsOf_0
  rw [gd_k (ci := 6) hs.2.1]
  have st : ∀ k n, k < 3 → fS_termsOf_L4 s (nI i) (nI n) (nI k) μ = some (.inl (nI (n ||| 2 ^ pterm x k), nI (k + 1))) := fun k n hk => by
    have c0 : ¬ xc 3 ≤ nI k := nI_ge (b := 3) hk (by decide)
    have := hx7 k
    simp only [fS_termsOf_L4, c0, if_false, xtermOf_ok hs hi ex hx hk, Option.bind_some, nI_bit (show pterm x k < 32 by omega), nI_or, inc1]
  refine xwh_go (st 0 0 (by decide)) (xwh_go (st 1 _ (by decide)) (xwh_go (st 2 _ (by decide)) (xwh_stop ?_)))
  have e : (0 ||| 2 ^ pterm x 0 ||| 2 ^ pterm x 1 ||| 2 ^ pterm x 2) = tB x := by
    unfold tB
    rw [Nat.zero_or]
  rw [e]
  simp only [fS_termsOf_L4, show (xc 3 ≤ nI (2 + 1)) = True from by decide, if_true, fS_termsOf_26, Option.map_some]
theorem headNames_ok {m : Nat} {H : xPic} (hp : IsPic μ p m) (cp : PicC μ p H) (lh : H.2.length ≤ 3) (hb : ∀ t, t ∈ H.2 → t < 7) : ∃ B, fP_headNames p μ = some (nI B) ∧ B < 2 ^ 7 ∧ ∀ t, B.testBit t = true ↔ 2 ≤ t ∧ t ∈ H.2 := by
  have ol : orUp (fun i => 2 ^ H.2.getD i 0) H.2.length < 2 ^ 7 := orUp_lt _ (fun i hi => Nat.pow_lt_pow_right (by decide) (hb _ (getD_memD hi)))
  refine ⟨orUp (fun i => 2 ^ H.2.getD i 0) H.2.length / 4 * 4, ?_, by omega, fun t => ?_⟩
  · unfold fP_headNames fP_headNames_0
    rw [gd_k (ci := 5) hp.2.2.1]
    refine xwh_for (fun i => (nI (orUp (fun i => 2 ^ H.2.getD i 0) i), nI i)) H.2.length _ (fun i hi => ?_) ?_ H.2.length 0 (by omega)
    · have c0 : ¬ nI H.2.length ≤ nI i := nI_ge hi (by omega)
      have b7 := hb _ (getD_memD (d := 0) hi)
      have t1 : ldA μ (p + 1) (nI i) = some (nI (H.2.getD i 0)) := pic_hv hp cp lh hi
      dsimp only
      simp only [fP_headNames_L4, hp.headLen cp, Option.bind_some, c0, if_false, pic_h hp, t1, nI_bit (show H.2.getD i 0 < 32 by omega), nI_or, inc1]
      rfl
    · dsimp only
      simp only [fP_headNames_L4, hp.headLen cp, Option.bind_some, Int32.le_refl, if_true, fP_headNames_29, Option.map_some]
      rw [show xc 2 = nI 2 from rfl, nI_shr (by omega) (by decide), nI_shl (by decide) (by omega)]
  · have e : orUp (fun i => 2 ^ H.2.getD i 0) H.2.length / 4 * 4 = 2 ^ 2 * (orUp (fun i => 2 ^ H.2.getD i 0) H.2.length / 2 ^ 2) := by omega
    rw [e, Nat.testBit_two_pow_mul, Nat.testBit_div_two_pow, Bool.and_eq_true, decide_eq_true_eq]
    constructor
    · rintro ⟨h1, h2⟩
      rw [show t - 2 + 2 = t by omega, orUp_bit] at h2
      obtain ⟨i, h3, h4⟩ := h2
      rw [Nat.testBit_two_pow, decide_eq_true_eq] at h4
      exact ⟨h1, h4 ▸ getD_memD h3⟩
    · rintro ⟨h1, h2⟩
      refine ⟨h1, ?_⟩
      rw [show t - 2 + 2 = t by omega, orUp_bit]
      obtain ⟨i, h3, h4⟩ := mem_getD (d := 0) h2
      exact ⟨i, h3, by rw [h4, Nat.testBit_two_pow, decide_eq_true rfl]⟩
end OPENC
/-- shows with what their numbers keep to -/
def ShC (V : Nat → xPic) (nv : Nat) (sh : List Nat) : Prop := sh.length ≤ 12 ∧ ∀ x, x ∈ sh → x / 512 < nv ∧ x < 4096 ∧ PicWf (V (x / 512)) ∧ (∀ k, pterm x k < 7) ∧ ∀ k, (V (x / 512)).2.length ≤ k → k < 3 → pterm x k = 0
theorem ShC.ok {V : Nat → xPic} {nv : Nat} {sh : List Nat} (h : ShC V nv sh) : ShOk V sh := ⟨fun x hx => ⟨(h.2 x hx).2.2.1, (h.2 x hx).2.2.2.1⟩, h.1⟩
def lsOf (sh : List Nat) (set n : Nat) : List Nat := (pbits set n).map (fun i => sh.getD i 0)
theorem pbits_suc (set i : Nat) : pbits set (i + 1) = pbits set i ++ (if set.testBit i = true then [i] else []) := by
  unfold pbits
  rw [List.range_succ, List.filter_append, List.filter_cons]
  by_cases q : set.testBit i = true
  · rw [if_pos q, if_pos q]; rfl
  · rw [if_neg q, if_neg q]; rfl
theorem popS_snoc {V : Nat → xPic} {st x : Nat} : ∀ (l : List Nat) (b : Nat), popS V st (l ++ [x]) b = popS V st l b ++ popen1 (V (x / 512)) x (b + st * l.length)
  | [], b => by
    show popen1 (V (x / 512)) x b ++ [] = [] ++ popen1 (V (x / 512)) x (b + st * 0)
    rw [List.append_nil, List.nil_append, Nat.mul_zero, Nat.add_zero]
  | y :: l, b => by
    show popen1 (V (y / 512)) y b ++ popS V st (l ++ [x]) (b + st) = (popen1 (V (y / 512)) y b ++ popS V st l (b + st)) ++ _
    rw [popS_snoc l (b + st), List.append_assoc, List.length_cons, Nat.mul_add, Nat.mul_one]
    congr 3
    omega
section OPENS
variable {μ : xM} {V : Nat → xPic} {nv K j : Nat} {sh : List Nat} {E : xPic × Nat × Bool}
theorem openSet_ok (hh : Sh μ) (hj : j < 10) (hC : ShC V nv sh) (hF : FoundS μ (213 + 8 * j) sh) (n6 : nv ≤ 6) (hV : ∀ u, u < nv → PicC μ (62 + 5 * u) (V u)) (cE : PicC μ (213 + 8 * j + 1) E.1) (bE : TB E.1 7) (lE : E.1.2.length ≤ 3) (hK : K < 8) (e1 : xI μ 3 1 = nI K) {set : Nat} (hs : set < 2 ^ sh.length) (h3 : (pbits set sh.length).length ≤ 3) : ∃ a, fS_openSet (213 + 8 * j) 188 (nI set) 3 μ = some a ∧ Fr (fun a _ => 188 ≤ a ∧ a < 193) μ a.2 ∧ ((a.1 = xc 0 ∧ ¬ ∀ t, t ∈ E.1.2 → pshown V (lsOf sh set sh.length) t) ∨ (a.1 = xc 1 ∧ (∀ t, t ∈ E.1.2 → pshown V (lsOf sh set sh.length) t) ∧ PicC a.2 188 (pEnd K (popS V 5 (lsOf sh set sh.length) 5, E.1.2)).1 ∧ xI a.2 188 7 = if (pEnd K (popS V 5 (lsOf sh set sh.length) 5, E.1.2)).2.2 then 1 else 0)) := by
  have hp12 := pow_le12 hC.1
  have hs0 := sight_at hh j hj
  have ho := pic_opened hh
  obtain ⟨μ0, c1, f0, c2, c3, c4⟩ := clear_ok ho
  have cnt : ∀ i, i ≤ sh.length → (pbits set i).length ≤ 3 := fun i hi => by
    have := srt_len (pbits_srt set i) (pbits_srt set sh.length) (fun y hy => by
      obtain ⟨z1, z2⟩ := pbits_mem.mp hy
      exact pbits_mem.mpr ⟨by omega, z2⟩)
    omega
  have lok : ∀ i, i ≤ sh.length → LOk V (lsOf sh set i) := fun i hi x hx => by
    obtain ⟨y, h1, rfl⟩ := List.mem_map.mp hx
    exact hC.ok.1 _ (getD_memD (by have := (pbits_mem.mp h1).1; omega))
  have ev : fS_openSet (213 + 8 * j) 188 (nI set) 3 μ = xwh (fun z : Int32 × Int32 × Int32 × xM => fS_openSet_L14 (213 + 8 * j) 188 (nI set) 3 z.1 z.2.1 z.2.2.1 z.2.2.2) (nI 0, nI 7, nI 0, μ0) := by
    simp only [fS_openSet, fS_openSet_0, gd_k (ci := 6) hs0.2.1, c1, Option.bind_some]
    rfl
  rw [ev]
  refine xwh_inv (body := fun z : Int32 × Int32 × Int32 × xM => fS_openSet_L14 (213 + 8 * j) 188 (nI set) 3 z.1 z.2.1 z.2.2.1 z.2.2.2) (fun i z => z.2.2.1 = nI i ∧ z.2.1 = nI (7 + 5 * (pbits set i).length) ∧ Fr (fun a _ => 188 ≤ a ∧ a < 193) μ z.2.2.2 ∧ PicC z.2.2.2 188 (popS V 5 (lsOf sh set i) 5, []) ∧ xI z.2.2.2 188 6 = nI 0 ∧ xI z.2.2.2 188 7 = nI 0 ∧ ∃ B, z.1 = nI B ∧ B < 2 ^ 7 ∧ ∀ t, B.testBit t = true ↔ ∃ x, x ∈ lsOf sh set i ∧ ∃ k, k < 3 ∧ pterm x k = t) _ sh.length ?_ ?_ sh.length 0 _ (by omega) ⟨rfl, rfl, f0.mono (fun a k q => by omega), c2, c3, c4, 0, rfl, by decide, fun t => ⟨fun q => (by rw [Nat.zero_testBit] at q; cases q), fun ⟨x, q, _⟩ => absurd q List.not_mem_nil⟩⟩
  · rintro i ⟨x1, x2, x3, μ'⟩ hi ⟨rfl, rfl, f, a1, a2, a3, B, rfl, b1, b2⟩
    left
    have h' := f.sh hh
    have hs' := f.sight hs0
    have hF' : FoundS μ' (213 + 8 * j) sh := hF.fr f (fun a k q => by omega)
    have c0 : ¬ nI sh.length ≤ nI i := nI_ge hi (by have := hC.1; omega)
    have l12 := hC.1
    have ba := nI_bitAt (n := set) (r := i) (by omega) (by omega)
    have el : lsOf sh set (i + 1) = lsOf sh set i ++ (if set.testBit i = true then [sh.getD i 0] else []) := by
      unfold lsOf
      rw [pbits_suc, List.map_append]
      split <;> rfl
    have ec : (pbits set (i + 1)).length = (pbits set i).length + (if set.testBit i = true then 1 else 0) := by
      rw [pbits_suc, List.length_append]
      split <;> rfl
    by_cases q : set.testBit i = true
    · rw [if_pos q] at ba el ec
      obtain ⟨y1, y2, y3, y4, y5⟩ := hC.2 _ (getD_memD (d := 0) hi)
      have cn := cnt (i + 1) (by omega)
      have ho' := pic_opened h'
      have hpv := pic_view h' (sh.getD i 0 / 512) (by omega)
      have cv' : PicC μ' (62 + 5 * (sh.getD i 0 / 512)) (V (sh.getD i 0 / 512)) := (hV _ y1).fr (fun a k q r => f.I (by omega))
      have exi := hF'.2.2 i hi
      have vo := xviewOf_ok hs' (show i < 12 by omega) exi y2
      have ll : (lsOf sh set i).length = (pbits set i).length := by unfold lsOf; rw [List.length_map]
      have rl := popS_len (V := V) (st := 5) (lsOf sh set i) 5 (lok i (by omega))
      have r4 := y3.2.1
      obtain ⟨μ2, o1, o2, o3⟩ := openShow_ok hs' (by omega) ho' hpv (by omega) cv' y3 (show i < 12 by omega) exi y2 y4 (b := 5 + 5 * (pbits set i).length) (by omega) a1 (by rw [ll] at rl; omega)
      have e72 : 5 + 5 * (pbits set i).length + 2 = 7 + 5 * (pbits set i).length := by omega
      rw [e72] at o1
      have h2 := o2.sh h'
      have to := xtermsOf_ok (o2.sight hs') (show i < 12 by omega) ((o2.I (by omega)).trans exi) y2 y4
      refine ⟨(nI (B ||| tB (sh.getD i 0)), nI (7 + 5 * (pbits set (i + 1)).length), nI (i + 1), μ2), ?_, rfl, rfl, f.trans (o2.mono (fun a k q => by omega)), ?_, (o2.I (by omega)).trans a2, (o2.I (by omega)).trans a3, _, rfl, Nat.or_lt_two_pow b1 (tB_lt y4), fun t => ?_⟩
      · have e5 : nI (7 + 5 * (pbits set i).length) + xc 5 = nI (7 + 5 * (pbits set (i + 1)).length) := by
          rw [show xc 5 = nI 5 from rfl, nI_add, ec]
          congr 1
        simp only [fS_openSet_L14, sf hs', hF'.2.1, Option.bind_some, c0, if_false, ba, xc1F, g3_9 h', vo, ar_view h' (show sh.getD i 0 / 512 < 6 by omega), o1, to, nI_or, e5, fS_openSet_66, inc1]
      · rw [el, popS_snoc, ll]
        exact o3
      · rw [Nat.testBit_or, Bool.or_eq_true, b2 t, tB_bit, el]
        constructor
        · rintro (⟨x, z1, z2⟩ | z)
          · exact ⟨x, List.mem_append_left _ z1, z2⟩
          · exact ⟨_, List.mem_append_right _ (List.mem_singleton.mpr rfl), z⟩
        · rintro ⟨x, z1, z2⟩
          rcases List.mem_append.mp z1 with z | z
          · exact Or.inl ⟨x, z, z2⟩
          · rw [List.mem_singleton.mp z] at z2
            exact Or.inr z2
    · rw [if_neg q] at ba el ec
      rw [List.append_nil] at el
      refine ⟨(nI B, nI (7 + 5 * (pbits set i).length), nI (i + 1), μ'), ?_, rfl, by rw [ec]; rfl, f, by rw [el]; exact a1, a2, a3, B, rfl, b1, by rw [el]; exact b2⟩
      simp only [fS_openSet_L14, sf hs', hF'.2.1, Option.bind_some, c0, if_false, ba, xc0T, if_true, fS_openSet_66, inc1]
  · rintro ⟨x1, x2, x3, μ'⟩ ⟨rfl, rfl, f, a1, a2, a3, B, rfl, b1, b2⟩
    have h' := f.sh hh
    have hs' := f.sight hs0
    have hF' : FoundS μ' (213 + 8 * j) sh := hF.fr f (fun a k q => by omega)
    have ho' := pic_opened h'
    have hpE : IsPic μ' (213 + 8 * j + 1) 4 := hs'.2.2.2.2.2.2.2
    have cE' : PicC μ' (213 + 8 * j + 1) E.1 := cE.fr (fun a k q r => f.I (by omega))
    have r0 : ldFR μ' (213 + 8 * j) 6 0 = some (213 + 8 * j + 1) := ldFR_k (ci := 6) hs'.2.1 hs'.2.2.1
    obtain ⟨N, n1, n2, n3⟩ := headNames_ok hpE cE' lE bE.2
    have lok' := lok sh.length (Nat.le_refl _)
    have shn : pSub N B ↔ ∀ t, t ∈ E.1.2 → pshown V (lsOf sh set sh.length) t := by
      rw [pSub_iff (by omega)]
      constructor
      · intro h t ht
        by_cases q : t < 2
        · exact Or.inl q
        · obtain ⟨x, h1, k, h2, h4⟩ := (b2 t).mp (h t ((n3 t).mpr ⟨by omega, ht⟩))
          refine Or.inr ⟨x, h1, k, ?_, h4⟩
          obtain ⟨y, y1, rfl⟩ := List.mem_map.mp h1
          have := (hC.2 _ (getD_memD (d := 0) (pbits_mem.mp y1).1)).2.2.2.2 k
          by_cases z : k < (V (sh.getD y 0 / 512)).2.length
          · exact z
          · have := this (by omega) h2
            omega
      · intro h t ht
        obtain ⟨h1, h2⟩ := (n3 t).mp ht
        rcases h t h2 with q | ⟨x, q1, k, q2, q3⟩
        · omega
        · refine (b2 t).mpr ⟨x, q1, k, ?_, q3⟩
          obtain ⟨y, y1, rfl⟩ := List.mem_map.mp q1
          have := (hC.2 _ (getD_memD (d := 0) (pbits_mem.mp y1).1)).2.2.1.2.2.1
          omega
    by_cases q : pSub N B
    · have q' : nI N &&& (nI B ^^^ xc (-1)) = 0 := (pSub_w (by omega)).mpr q
      obtain ⟨μ2, d1, f2, d2⟩ := copyHead_ok ho' hpE a1 cE' lE (by omega)
      have h2 := f2.sh h'
      have ho2 := pic_opened h2
      have hlen : (popS V 5 (lsOf sh set sh.length) 5).length ≤ 12 := by
        have := popS_len (V := V) (st := 5) (lsOf sh set sh.length) 5 lok'
        have ll : (lsOf sh set sh.length).length = (pbits set sh.length).length := by unfold lsOf; rw [List.length_map]
        omega
      have pb : PB (popS V 5 (lsOf sh set sh.length) 5, E.1.2) := popS_PB lok' (by unfold lsOf; rw [List.length_map]; exact h3) (by decide) (by decide) bE.2
      obtain ⟨μ3, g1, f3, g2, g3, g4⟩ := becomeEnd_ok ho2 d2 hlen lE pb.1 pb.2.1 hK ((f2.I (by omega)).trans a2) ((f2.I (by omega)).trans a3)
      have ek : ldF μ2 3 3 1 = some (nI K) := by rw [ldF_k (ci := 3) 1 (kd3 h2), f2.I (by omega), f.I (by omega), e1]
      refine ⟨(xc 1, μ3), ?_, f.trans ((f2.mono (fun a k q => by omega)).trans (f3.mono (fun a k q => by omega))), Or.inr ⟨rfl, shn.mp q, g2, g4⟩⟩
      simp only [fS_openSet_L14, sf hs', hF'.2.1, Option.bind_some, Int32.le_refl, if_true, fS_openSet_72, r0, n1, q', d1, ek, g1, Option.map_some]
    · have q' : ¬ nI N &&& (nI B ^^^ xc (-1)) = 0 := fun z => q ((pSub_w (by omega)).mp z)
      refine ⟨(xc 0, μ'), ?_, f, Or.inl ⟨rfl, fun z => q (shn.mpr z)⟩⟩
      simp only [fS_openSet_L14, sf hs', hF'.2.1, Option.bind_some, Int32.le_refl, if_true, fS_openSet_72, r0, n1, q', if_false, Option.map_some]
end OPENS
