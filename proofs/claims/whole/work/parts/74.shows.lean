/-! the class gathers shows -/
theorem pnext_TB {a b B : Nat} {P : xPic} (h : TB P B) (ha : isTm P.1 a) (hb : isTm P.1 b) : TB (pnext a b P) B := by
  have tm : ∀ t, isTm P.1 t → t < B := fun t ⟨r, hr, e⟩ => by
    have := h.1 r hr
    omega
  have hA := tm a ha
  have hBb := tm b hb
  have hm : min a b < B := by omega
  have ps : ∀ t, t < B → psub (max a b) (min a b) t < B := fun t ht => by unfold psub; split <;> assumption
  constructor
  · intro r hr
    obtain ⟨q, hq, rfl⟩ := List.mem_map.mp (((pdd_mem _ []).mp hr).resolve_left List.not_mem_nil)
    have := h.1 q hq
    exact ⟨this.1, ps _ this.2.1, ps _ this.2.2⟩
  · intro t ht
    obtain ⟨u, hu, rfl⟩ := List.mem_map.mp ht
    exact ps _ (h.2 u hu)
theorem pend_keep {K B n : Nat} : ∀ (f : Nat) (P : xPic) (k : Nat), TB P B → P.1.length ≤ n → TB (pend K f P k).1 B ∧ (pend K f P k).1.1.length ≤ n ∧ (pend K f P k).1.2.length = P.2.length
  | 0, P, k, h, hn => ⟨h, hn, rfl⟩
  | f + 1, P, k, h, hn => by
    rw [pend_succ]
    cases hc : pclash K P.1 with
    | none => exact ⟨h, hn, rfl⟩
    | some ab =>
      obtain ⟨a, b⟩ := ab
      dsimp only
      split
      · exact ⟨h, hn, rfl⟩
      · obtain ⟨_, y2, y3⟩ := pcl_some P.1 hc
        have hl := pnext_len a b P
        obtain ⟨z1, z2, z3⟩ := pend_keep f (pnext a b P) (k + 1) (pnext_TB h y2 y3) (Nat.le_trans hl.1 hn)
        exact ⟨z1, z2, z3.trans hl.2⟩
theorem pEnd_keep {K B : Nat} {P : xPic} (h : TB P B) : TB (pEnd K P).1 B ∧ (pEnd K P).1.1.length ≤ P.1.length ∧ (pEnd K P).1.2.length = P.2.length := by
  have l0 := pdd_len P.1 []
  rw [List.length_nil, Nat.zero_add] at l0
  exact pend_keep 60 (pdd [] P.1, P.2) 0 ⟨fun r hr => h.1 r (((pdd_mem _ []).mp hr).resolve_left List.not_mem_nil), h.2⟩ l0
def Srt (S : List Nat) : Prop := S.Pairwise (· < ·)
theorem srt_eq : ∀ (S T : List Nat), Srt S → Srt T → (∀ y, y ∈ S ↔ y ∈ T) → S = T
  | [], [], _, _, _ => rfl
  | [], t :: T, _, _, h => absurd ((h t).mpr List.mem_cons_self) List.not_mem_nil
  | s :: S, [], _, _, h => absurd ((h s).mp List.mem_cons_self) List.not_mem_nil
  | s :: S, t :: T, hs, ht, h => by
    obtain ⟨s1, s2⟩ := List.pairwise_cons.mp hs
    obtain ⟨t1, t2⟩ := List.pairwise_cons.mp ht
    have e : s = t := by
      rcases List.mem_cons.mp ((h s).mp List.mem_cons_self) with q | q
      · exact q
      · rcases List.mem_cons.mp ((h t).mpr List.mem_cons_self) with r | r
        · exact r.symm
        · have := t1 s q
          have := s1 t r
          omega
    subst e
    congr 1
    refine srt_eq S T s2 t2 (fun y => ⟨fun q => ?_, fun q => ?_⟩)
    · rcases List.mem_cons.mp ((h y).mp (List.mem_cons_of_mem _ q)) with r | r
      · have := s1 y q
        omega
      · exact r
    · rcases List.mem_cons.mp ((h y).mpr (List.mem_cons_of_mem _ q)) with r | r
      · have := t1 y q
        omega
      · exact r
theorem srt_filter {S : List Nat} (p : Nat → Bool) (h : Srt S) : Srt (S.filter p) := List.Pairwise.sublist List.filter_sublist h
theorem srt_range (n : Nat) : Srt (List.range n) := List.pairwise_lt_range
theorem srt_len {S T : List Nat} (hs : Srt S) (ht : Srt T) (h : ∀ y, y ∈ S → y ∈ T) : S.length ≤ T.length := by
  have e : S = T.filter (fun y => decide (y ∈ S)) := srt_eq S _ hs (srt_filter _ ht) (fun y => by
    rw [List.mem_filter, decide_eq_true_eq]
    exact ⟨fun q => ⟨h y q, q⟩, fun q => q.2⟩)
  rw [e]
  exact List.length_filter_le _ _
def FoundS (μ : xM) (s : Nat) (S : List Nat) : Prop := S.length ≤ 12 ∧ xI μ s 2 = nI S.length ∧ ∀ i, i < S.length → xI μ (s + 6) i = nI (S.getD i 0)
theorem FoundS.fr {μ μ' : xM} {s : Nat} {S : List Nat} {W : Nat → Nat → Prop} (h : FoundS μ s S) (f : Fr W μ μ') (d : ∀ a k, a = s ∧ k = 2 ∨ a = s + 6 → ¬ W a k) : FoundS μ' s S := ⟨h.1, (f.I (d _ _ (Or.inl ⟨rfl, rfl⟩))).trans h.2.1, fun i hi => (f.I (d _ _ (Or.inr rfl))).trans (h.2.2 i hi)⟩
theorem or8 {n t : Nat} (ht : t < 8) : n * 8 ||| t = n * 8 + t := by
  have := Nat.two_pow_add_eq_or_of_lt (i := 3) ht n
  rw [show n * 8 = 2 ^ 3 * n by omega]
  exact this.symm
def pcd (view : Nat) (P : xPic) (g : pG) : Nat := 512 * view + pcode (P.2.map (pim g))
section TAKE
variable {μ : xM} {s p mp : Nat} {P : xPic}
theorem srt_ins {S : List Nat} {a x : Nat} (h : Srt S) (ha : a ≤ S.length) (h1 : ∀ i, i < a → S.getD i 0 < x) (h2 : ∀ i, a ≤ i → i < S.length → x < S.getD i 0) : Srt (S.take a ++ x :: S.drop a) ∧ (∀ y, y ∈ S.take a ++ x :: S.drop a ↔ y ∈ S ∨ y = x) ∧ (S.take a ++ x :: S.drop a).length = S.length + 1 := by
  have m1 : ∀ y, y ∈ S.take a → y < x := fun y hy => by
    obtain ⟨i, hi, e⟩ := mem_getD (d := 0) hy
    rw [List.length_take] at hi
    have := h1 i (by omega)
    rw [List.getD_eq_getElem?_getD, List.getElem?_take_of_lt (by omega), ← List.getD_eq_getElem?_getD] at e
    omega
  have m2 : ∀ y, y ∈ S.drop a → x < y := fun y hy => by
    obtain ⟨i, hi, e⟩ := mem_getD (d := 0) hy
    rw [List.length_drop] at hi
    have := h2 (a + i) (by omega) (by omega)
    rw [List.getD_eq_getElem?_getD, List.getElem?_drop, ← List.getD_eq_getElem?_getD] at e
    omega
  refine ⟨?_, fun y => ?_, ?_⟩
  · refine List.pairwise_append.mpr ⟨List.Pairwise.sublist (List.take_sublist a S) h, List.pairwise_cons.mpr ⟨m2, List.Pairwise.sublist (List.drop_sublist a S) h⟩, fun y hy z hz => ?_⟩
    rcases List.mem_cons.mp hz with q | q
    · rw [q]; exact m1 y hy
    · have := m1 y hy
      have := m2 z q
      omega
  · rw [List.mem_append, List.mem_cons]
    have e := List.take_append_drop a S
    constructor
    · rintro (q | q | q)
      · exact Or.inl (List.mem_of_mem_take q)
      · exact Or.inr q
      · exact Or.inl (List.mem_of_mem_drop q)
    · rintro (q | q)
      · rw [← e, List.mem_append] at q
        rcases q with q | q
        · exact Or.inl q
        · exact Or.inr (Or.inr q)
      · exact Or.inr (Or.inl q)
  · rw [List.length_append, List.length_cons, List.length_take, List.length_drop]
    omega
/-- where a number is put, once it is known -/
theorem put_ok (h : IsSight μ s) {S : List Nat} (hS : FoundS μ s S) (hs : Srt S) {x : Nat} (hx : x < 4096) (hb : ∀ y, y ∈ S → y < 4096) {at_ : Nat} (ha : at_ ≤ S.length) (h1 : ∀ i, i < at_ → S.getD i 0 < x) (h2 : ∀ i, at_ ≤ i → i < S.length → x ≤ S.getD i 0) : ∃ a, fS_takeShow_84 s (nI x) (nI at_) μ = some a ∧ Fr (fun a k => a = s ∧ (k = 2 ∨ k = 3) ∨ a = s + 6) μ a.2 ∧ ∃ S', Srt S' ∧ (∀ y, y ∈ S' ↔ y ∈ S ∨ y = x) ∧ ((a.1 = xc 1 ∧ FoundS a.2 s S' ∧ xI a.2 s 3 = xI μ s 3) ∨ (a.1 = xc 0 ∧ S'.length = 13 ∧ xI a.2 s 3 = 1)) := by
  obtain ⟨b1, b2, b3⟩ := hS
  have hk := h.2.1
  have h2' := h.1
  have r6 : ldFR μ s 6 1 = some (s + 6) := ldFR_k (ci := 6) hk h.2.2.2.1
  have fs : ∀ k, ldF μ s 6 k = some (xI μ s k) := fun k => ldF_k (ci := 6) k hk
  have k6 := h.2.2.2.2.2.1
  by_cases hin : x ∈ S
  · obtain ⟨i, hi, e⟩ := mem_getD (d := 0) hin
    have hai : at_ = i := by
      by_cases q : i < at_
      · have := h1 i q; omega
      · by_cases q2 : at_ < i
        · have := h2 at_ (Nat.le_refl _) (by omega)
          have lt : S.getD at_ 0 < S.getD i 0 := by
            have := List.pairwise_iff_getElem.mp hs at_ i (by omega) hi q2
            rw [List.getD_eq_getElem?_getD, List.getD_eq_getElem?_getD, List.getElem?_eq_getElem (by omega), List.getElem?_eq_getElem hi]
            exact this
          omega
        · omega
    subst hai
    refine ⟨(xc 1, μ), ?_, Fr.refl μ, S, hs, fun y => ⟨Or.inl, fun q => q.elim id (fun q => q ▸ hin)⟩, Or.inl ⟨rfl, ⟨b1, b2, b3⟩, rfl⟩⟩
    have t1 : ldA μ (s + 6) (nI at_) = some (nI x) := by rw [ldA_k k6 (by omega) (by decide), b3 at_ hi, e]
    have c0 : ¬ nI S.length ≤ nI at_ := nI_ge hi (by omega)
    simp only [fS_takeShow_84, fs, Option.bind_some, b2, c0, if_false, r6, t1, if_true]
  · have h2s : ∀ i, at_ ≤ i → i < S.length → x < S.getD i 0 := fun i q1 q2 => by
      have := h2 i q1 q2
      have ne : ¬ S.getD i 0 = x := fun e => hin (e ▸ getD_memD q2)
      omega
    obtain ⟨i1, i2, i3⟩ := srt_ins hs ha h1 h2s
    have ev : fS_takeShow_84 s (nI x) (nI at_) μ = fS_takeShow_107 s (nI x) (nI at_) μ := by
      by_cases q : at_ < S.length
      · have c0 : ¬ nI S.length ≤ nI at_ := nI_ge q (by omega)
        have t1 : ldA μ (s + 6) (nI at_) = some (nI (S.getD at_ 0)) := by rw [ldA_k k6 (by omega) (by decide), b3 at_ q]
        have ne : ¬ nI (S.getD at_ 0) = nI x := fun z => by
          have hlt := hb _ (getD_memD (d := 0) q)
          have := (nI_eq (by omega) (by omega)).mp z
          have := h2s at_ (Nat.le_refl _) q
          omega
        simp only [fS_takeShow_84, fs, Option.bind_some, b2, c0, if_false, r6, t1, ne]
      · have c0 : nI S.length ≤ nI at_ := nI_le (by omega) (by omega)
        simp only [fS_takeShow_84, fs, Option.bind_some, b2, c0, if_true]
    rw [ev]
    by_cases q12 : S.length < 12
    · have c1 : nI S.length < xc 12 := nI_lt (b := 12) q12 (by decide)
      let μc : xM := (μ.1, μ.2.1, μ.2.2.1, (fun c j => if c = s + 6 then va_cpy (μ.2.2.2.1 (s + 6)) (μ.2.2.2.1 (s + 6)) at_ (at_ + 1) (S.length - at_) j else μ.2.2.2.1 c j), μ.2.2.2.2)
      have hcp : xcopy μ (s + 6) (nI at_) (s + 6) (nI (at_ + 1)) (nI (S.length - at_)) = some μc := by
        unfold xcopy
        rw [k6, nI_clamp (by omega), nI_clamp (by omega), nI_clamp (by omega)]
        rw [if_pos ⟨⟨⟨rfl, by omega⟩, rfl, by omega⟩, nI_pos (by omega), nI_pos (by omega), nI_pos (by omega), by omega, by omega⟩]
      have fc : Fr (fun a k => a = s ∧ (k = 2 ∨ k = 3) ∨ a = s + 6) μ μc := ⟨rfl, rfl, rfl, fun a k q => if_neg (fun e => q (Or.inr e)), fun a k q => rfl⟩
      have hc : IsSight μc s := fc.sight h
      have r6c : ldFR μc s 6 1 = some (s + 6) := ldFR_k (ci := 6) hc.2.1 hc.2.2.2.1
      have st1 : stA μc (s + 6) (nI at_) (nI x) = some (xsI μc (s + 6) at_ (nI x)) := stA_k _ hc.2.2.2.2.2.1 (by omega) (by decide) (by omega)
      have hd : IsSight (xsI μc (s + 6) at_ (nI x)) s := hc
      have e2 : xI (xsI μc (s + 6) at_ (nI x)) s 2 = nI S.length := by
        rw [xI_ne (by omega)]
        exact (if_neg (show ¬ s = s + 6 by omega)).trans b2
      refine ⟨(xc 1, xsI (xsI μc (s + 6) at_ (nI x)) s 2 (nI (S.length + 1))), ?_, (fc.s _ (Or.inr rfl)).s _ (Or.inl ⟨rfl, Or.inl rfl⟩), _, i1, i2, Or.inl ⟨rfl, ⟨by omega, ?_, fun i hi => ?_⟩, ?_⟩⟩
      · have esub : nI S.length - nI at_ = nI (S.length - at_) := pk_sub ha
        simp only [fS_takeShow_107, fs, Option.bind_some, b2, c1, if_true, r6, inc1, esub, hcp, r6c, st1, ldF_k (ci := 6) 2 hd.2.1, e2, stF_k (ci := 6) 2 (nI (S.length + 1)) hd.2.1 h2']
      · rw [xI_eq, i3]
      · rw [i3] at hi
        rw [xI_ne (by omega)]
        by_cases e : i = at_
        · subst e
          rw [xI_eq, List.getD_eq_getElem?_getD, List.getElem?_append_right (by rw [List.length_take]; omega), List.length_take, show i - min i S.length = 0 by omega]
          rfl
        · rw [xI_ne (by omega)]
          show (if s + 6 = s + 6 then va_cpy (μ.2.2.2.1 (s + 6)) (μ.2.2.2.1 (s + 6)) at_ (at_ + 1) (S.length - at_) i else μ.2.2.2.1 (s + 6) i) = _
          rw [if_pos rfl]
          unfold va_cpy
          by_cases q : i < at_
          · rw [if_neg (by omega), List.getD_eq_getElem?_getD, List.getElem?_append_left (by rw [List.length_take]; omega), List.getElem?_take_of_lt q, ← List.getD_eq_getElem?_getD]
            exact b3 i (by omega)
          · rw [if_pos (by omega), List.getD_eq_getElem?_getD, List.getElem?_append_right (by rw [List.length_take]; omega), List.length_take]
            obtain ⟨j, rfl⟩ : ∃ j, i = at_ + 1 + j := ⟨i - at_ - 1, by omega⟩
            rw [show at_ + 1 + j - min at_ S.length = j + 1 by omega, List.getElem?_cons_succ, List.getElem?_drop, ← List.getD_eq_getElem?_getD, show at_ + (at_ + 1 + j - (at_ + 1)) = at_ + j by omega]
            exact b3 (at_ + j) (by omega)
      · rw [xI_ne (by omega), xI_ne (by omega)]
        exact if_neg (show ¬ s = s + 6 by omega)
    · have c1 : ¬ nI S.length < xc 12 := nI_nlt (a := S.length) (b := 12) (by omega) (by omega)
      refine ⟨(xc 0, xsI μ s 3 (xc 1)), ?_, (Fr.refl μ).s _ (Or.inl ⟨rfl, Or.inr rfl⟩), _, i1, i2, Or.inr ⟨rfl, by omega, by rw [xI_eq]; rfl⟩⟩
      simp only [fS_takeShow_107, fs, Option.bind_some, b2, c1, if_false, stFZ_k (ci := 6) (v := xc 1) 3 hk h2' (Or.inr rfl)]
theorem takeShow_ok (h : IsSight μ s) {S : List Nat} (hS : FoundS μ s S) (hs : Srt S) (hb : ∀ y, y ∈ S → y < 4096) (hp : IsPic μ p mp) (cp : PicC μ p P) (w : PicWf P) {view : Nat} (hv : view < 6) {v : Int64} {g : pG} (hl : Led v g) (ht : ∀ t, t ∈ P.2 → ∃ u, g t = some u ∧ u < 7) : ∃ a, fS_takeShow s (nI view) p v μ = some a ∧ Fr (fun a k => a = s ∧ (k = 2 ∨ k = 3) ∨ a = s + 6) μ a.2 ∧ ∃ S', Srt S' ∧ (∀ y, y ∈ S' ↔ y ∈ S ∨ y = pcd view P g) ∧ ((a.1 = xc 1 ∧ FoundS a.2 s S' ∧ xI a.2 s 3 = xI μ s 3) ∨ (a.1 = xc 0 ∧ S'.length = 13 ∧ xI a.2 s 3 = 1)) := by
  have lph := w.2.2.1
  have hk := h.2.1
  have c7 : ∀ k, (P.2.map (pim g)).getD k 0 < 7 := fun k => by
    by_cases q : k < P.2.length
    · rw [getD_map (d := 0) q]
      have hm := getD_memD (d := 0) q
      obtain ⟨u, e1, e2⟩ := ht _ hm
      have := (w.2.2.2.2 _ hm).1
      unfold pim
      rw [if_neg (by omega), e1]
      exact e2
    · rw [List.getD_eq_getElem?_getD, List.getElem?_eq_none (by rw [List.length_map]; omega)]
      exact (by decide)
  have code : pcd view P g = ((view * 8 + (P.2.map (pim g)).getD 0 0) * 8 + (P.2.map (pim g)).getD 1 0) * 8 + (P.2.map (pim g)).getD 2 0 := by
    unfold pcd pcode
    omega
  have b0 := c7 0
  have b1 := c7 1
  have b2 := c7 2
  have hx : pcd view P g < 4096 := by rw [code]; omega
  have fs : ∀ k, ldF μ s 6 k = some (xI μ s k) := fun k => ldF_k (ci := 6) k hk
  have r6 : ldFR μ s 6 1 = some (s + 6) := ldFR_k (ci := 6) hk h.2.2.2.1
  have k6 := h.2.2.2.2.2.1
  -- the search for its place
  have srch : ∃ a, xwh (fun z : Int32 => fS_takeShow_L59 s (nI (pcd view P g)) z μ) (nI S.length) = some a ∧ Fr (fun a k => a = s ∧ (k = 2 ∨ k = 3) ∨ a = s + 6) μ a.2 ∧ ∃ S', Srt S' ∧ (∀ y, y ∈ S' ↔ y ∈ S ∨ y = pcd view P g) ∧ ((a.1 = xc 1 ∧ FoundS a.2 s S' ∧ xI a.2 s 3 = xI μ s 3) ∨ (a.1 = xc 0 ∧ S'.length = 13 ∧ xI a.2 s 3 = 1)) := by
    obtain ⟨d1, d2, d3⟩ := hS
    refine xwh_dec (body := fun z : Int32 => fS_takeShow_L59 s (nI (pcd view P g)) z μ) (fun m z => z = nI m ∧ m ≤ S.length ∧ ∀ i, m ≤ i → i < S.length → pcd view P g ≤ S.getD i 0) _ ?_ (S.length + 1) S.length (nI S.length) (Nat.lt_succ_self _) ⟨rfl, Nat.le_refl _, fun i q1 q2 => absurd q2 (by omega)⟩
    rintro m z ⟨rfl, m1, m2⟩
    by_cases q0 : m = 0
    · right
      subst q0
      obtain ⟨a, a1, a2⟩ := put_ok h ⟨d1, d2, d3⟩ hs hx hb (Nat.zero_le _) (fun i hi => absurd hi (Nat.not_lt_zero i)) m2
      refine ⟨a, ?_, a2⟩
      simp only [fS_takeShow_L59, show (nI 0 ≤ 0) = True from by decide, if_true, a1, Option.map_some]
    · have c0 : ¬ nI m ≤ 0 := nI_ge (a := 0) (by omega) (by omega)
      have em : nI m - xc 1 = nI (m - 1) := pk_sub (b := 1) (by omega)
      have t1 : ldA μ (s + 6) (nI (m - 1)) = some (nI (S.getD (m - 1) 0)) := by rw [ldA_k k6 (by omega) (by decide), d3 (m - 1) (by omega)]
      have hlt := hb _ (getD_memD (d := 0) (show m - 1 < S.length by omega))
      by_cases q1 : S.getD (m - 1) 0 < pcd view P g
      · right
        have below : ∀ i, i < m → S.getD i 0 < pcd view P g := fun i hi => by
          by_cases e : i = m - 1
          · rw [e]; exact q1
          · have := List.pairwise_iff_getElem.mp hs i (m - 1) (by omega) (by omega) (by omega)
            rw [List.getD_eq_getElem?_getD, List.getElem?_eq_getElem (by omega)] at q1
            rw [List.getD_eq_getElem?_getD, List.getElem?_eq_getElem (by omega)]
            exact Nat.lt_trans this q1
        obtain ⟨a, a1, a2⟩ := put_ok h ⟨d1, d2, d3⟩ hs hx hb m1 below m2
        refine ⟨a, ?_, a2⟩
        have c1 : nI (S.getD (m - 1) 0) < nI (pcd view P g) := nI_lt q1 (by omega)
        simp only [fS_takeShow_L59, c0, if_false, r6, Option.bind_some, em, t1, c1, if_true, a1, Option.map_some]
      · left
        have c1 : ¬ nI (S.getD (m - 1) 0) < nI (pcd view P g) := nI_nlt (by omega) (by omega)
        refine ⟨nI (m - 1), m - 1, by omega, ?_, rfl, by omega, fun i q2 q3 => ?_⟩
        · have e2 : nI m + xc (-1) = nI (m - 1) := by rw [← em, Int32.sub_eq_add_neg]; rfl
          simp only [fS_takeShow_L59, c0, if_false, r6, Option.bind_some, em, t1, c1, e2]
        · by_cases e : i = m - 1
          · rw [e]; omega
          · exact m2 i (by omega) q3
  obtain ⟨a, a1, a2⟩ := srch
  refine ⟨a, ?_, a2⟩
  unfold fS_takeShow fS_takeShow_0
  rw [gd_k (ci := 6) hk]
  have tstep : ∀ k n, k < 3 → n < 2 ^ 20 → fS_takeShow_L6 s p v (nI n) (nI k) μ = some (.inl (nI (n * 8 + (P.2.map (pim g)).getD k 0), nI (k + 1))) := fun k n hk3 hn => by
    have c0 : ¬ xc 3 ≤ nI k := nI_ge (b := 3) hk3 (by decide)
    have sh3 : nI n <<< (xc 3 &&& 31) = nI (n * 8) := nI_shl (n := n) (r := 3) (by decide) (by omega)
    have b7 := c7 k
    by_cases q : k < P.2.length
    · have c1 : ¬ nI P.2.length ≤ nI k := nI_ge q (by omega)
      have hm := getD_memD (d := 0) q
      obtain ⟨u, e1, e2⟩ := ht _ hm
      have h27 := w.2.2.2.2 _ hm
      have ef : fld g (P.2.getD k 0) = (P.2.map (pim g)).getD k 0 := by
        rw [getD_map (d := 0) q]
        unfold fld pim
        rw [if_neg (by omega), if_neg (by omega), e1]
        rfl
      have tt := target_ok hl h27.2.1 μ
      rw [ef] at tt
      simp only [fS_takeShow_L6, c0, if_false, hp.headLen cp, Option.bind_some, c1, pic_h hp, pic_hv hp cp lph q, tt, fS_takeShow_36, sh3, nI_or, or8 (show (P.2.map (pim g)).getD k 0 < 8 by omega), inc1]
    · have c1 : nI P.2.length ≤ nI k := nI_le (by omega) (by omega)
      have e0 : (P.2.map (pim g)).getD k 0 = 0 := by
        rw [List.getD_eq_getElem?_getD, List.getElem?_eq_none (by rw [List.length_map]; omega)]
        rfl
      have so : nI (n * 8) ||| xc 0 = nI (n * 8 + 0) := by
        rw [show xc 0 = nI 0 from rfl, nI_or, or8 (by decide)]
      rw [e0]
      simp only [fS_takeShow_L6, c0, if_false, hp.headLen cp, Option.bind_some, c1, if_true, fS_takeShow_36, sh3, so, inc1]
  refine xwh_go (tstep 0 view (by decide) (by omega)) (xwh_go (tstep 1 _ (by decide) (by omega)) (xwh_go (tstep 2 _ (by decide) (by omega)) (xwh_stop ?_)))
  rw [← code]
  simp only [fS_takeShow_L6, show (xc 3 ≤ nI (2 + 1)) = True from by decide, if_true, fS_takeShow_53, fs, Option.bind_some, hS.2.1, a1, Option.map_some]
end TAKE
