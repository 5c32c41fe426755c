/-! parts of the relation with the cells they speak of; a change elsewhere leaves them -/
def Fr (W : Nat → Nat → Prop) (μ μ' : xM) : Prop := μ'.1 = μ.1 ∧ μ'.2.1 = μ.2.1 ∧ μ'.2.2.1 = μ.2.2.1 ∧ (∀ a k, ¬ W a k → xI μ' a k = xI μ a k) ∧ ∀ a k, ¬ W a k → xL μ' a k = xL μ a k
theorem Fr.refl {W : Nat → Nat → Prop} (μ : xM) : Fr W μ μ := ⟨rfl, rfl, rfl, fun _ _ _ => rfl, fun _ _ _ => rfl⟩
theorem Fr.trans {W : Nat → Nat → Prop} {μ μ1 μ2 : xM} (h : Fr W μ μ1) (g : Fr W μ1 μ2) : Fr W μ μ2 := ⟨g.1.trans h.1, g.2.1.trans h.2.1, g.2.2.1.trans h.2.2.1, fun a k q => (g.2.2.2.1 a k q).trans (h.2.2.2.1 a k q), fun a k q => (g.2.2.2.2 a k q).trans (h.2.2.2.2 a k q)⟩
theorem Fr.mono {W W' : Nat → Nat → Prop} {μ μ1 : xM} (h : Fr W μ μ1) (e : ∀ a k, W a k → W' a k) : Fr W' μ μ1 := ⟨h.1, h.2.1, h.2.2.1, fun a k q => h.2.2.2.1 a k (fun w => q (e a k w)), fun a k q => h.2.2.2.2 a k (fun w => q (e a k w))⟩
theorem Fr.s {W : Nat → Nat → Prop} {μ μ1 : xM} (h : Fr W μ μ1) {a k : Nat} (v : Int32) (w : W a k) : Fr W μ (xsI μ1 a k v) := ⟨h.1, h.2.1, h.2.2.1, fun c j q => (if_neg (fun e => q (by rw [e.1, e.2]; exact w))).trans (h.2.2.2.1 c j q), h.2.2.2.2⟩
theorem Fr.sL {W : Nat → Nat → Prop} {μ μ1 : xM} (h : Fr W μ μ1) {a k : Nat} (v : Int64) (w : W a k) : Fr W μ (xsL μ1 a k v) := ⟨h.1, h.2.1, h.2.2.1, h.2.2.2.1, fun c j q => (if_neg (fun e => q (by rw [e.1, e.2]; exact w))).trans (h.2.2.2.2 c j q)⟩
theorem Fr.I {W : Nat → Nat → Prop} {μ μ' : xM} (h : Fr W μ μ') {a k : Nat} (q : ¬ W a k) : xI μ' a k = xI μ a k := h.2.2.2.1 a k q
theorem Fr.L {W : Nat → Nat → Prop} {μ μ' : xM} (h : Fr W μ μ') {a k : Nat} (q : ¬ W a k) : xL μ' a k = xL μ a k := h.2.2.2.2 a k q
theorem Fr.K {W : Nat → Nat → Prop} {μ μ' : xM} (h : Fr W μ μ') (a : Nat) : xK μ' a = xK μ a := by unfold xK; rw [h.1, h.2.1]
theorem Fr.R {W : Nat → Nat → Prop} {μ μ' : xM} (h : Fr W μ μ') (a k : Nat) : xR μ' a k = xR μ a k := by unfold xR; rw [h.2.2.1]
theorem Fr.sh {W : Nat → Nat → Prop} {μ μ' : xM} (h : Fr W μ μ') (s : Sh μ) : Sh μ' := ⟨h.1.trans s.1, fun a h1 h2 => (h.K a).trans (s.2.1 a h1 h2), fun a k h1 h2 => (h.R a k).trans (s.2.2 a k h1 h2)⟩
theorem Fr.scr {W : Nat → Nat → Prop} {μ μ' : xM} (h : Fr W μ μ') {L : Nat} {xs : Nat → Int32} (s : Scr L xs μ) (d : ∀ k, ¬ W 0 k) : Scr L xs μ' := ⟨(h.K 0).trans s.1, fun j hj => (h.I (d j)).trans (s.2 j hj)⟩
theorem Fr.pic {W : Nat → Nat → Prop} {μ μ' : xM} (h : Fr W μ μ') {p m : Nat} (s : IsPic μ p m) : IsPic μ' p m := by
  unfold IsPic at s ⊢
  rw [h.K, h.K, h.K, h.K, h.K, h.R, h.R, h.R, h.R]
  exact s
theorem Fr.sight {W : Nat → Nat → Prop} {μ μ' : xM} (h : Fr W μ μ') {p : Nat} (s : IsSight μ p) : IsSight μ' p := by
  obtain ⟨h1, h2, h3, h4, h5, h6, h7, h8⟩ := s
  exact ⟨h1, (h.K _).trans h2, (h.R _ _).trans h3, (h.R _ _).trans h4, (h.R _ _).trans h5, (h.K _).trans h6, (h.K _).trans h7, h.pic h8⟩
-- one picture, one sight
theorem PicC.fr {μ μ' : xM} {p : Nat} {P : xPic} (h : PicC μ p P) (e : ∀ a k, p ≤ a → a < p + 5 → xI μ' a k = xI μ a k) : PicC μ' p P := by
  obtain ⟨h1, h2, h3, h4⟩ := h
  refine ⟨?_, ?_, fun i hi => ?_, fun i hi => ?_⟩
  · rw [e _ _ (by omega) (by omega)]; exact h1
  · rw [e _ _ (by omega) (by omega)]; exact h2
  · rw [e _ _ (by omega) (by omega), e _ _ (by omega) (by omega), e _ _ (by omega) (by omega)]; exact h3 i hi
  · rw [e _ _ (by omega) (by omega)]; exact h4 i hi
theorem PicM.fr {μ μ' : xM} {p : Nat} {P : xPic} (h : PicM μ p P) (e : ∀ a k, 299 ≤ a → a ≤ 304 → xI μ' a k = xI μ a k) : PicM μ' p P := by
  obtain ⟨h1, h2, h3, h4⟩ := h
  refine ⟨?_, ?_, fun i hi => ?_, fun i hi => ?_⟩
  · rw [e _ _ (by omega) (by omega)]; exact h1
  · rw [e _ _ (by omega) (by omega)]; exact h2
  · rw [e _ _ (by omega) (by omega), e _ _ (by omega) (by omega), e _ _ (by omega) (by omega)]; exact h3 i hi
  · rw [e _ _ (by omega) (by omega)]; exact h4 i hi
theorem SeenOK.fr {μ μ' : xM} {s K nv : Nat} {V : Nat → xPic} {a : xPic} (h : SeenOK μ s K nv V a) (e : ∀ b k, s ≤ b → b < s + 7 → xI μ' b k = xI μ b k) : SeenOK μ' s K nv V a := by
  obtain ⟨h1, h2, h3, h4, h5⟩ := h
  refine ⟨h1.fr (fun b k q r => e b k (by omega) (by omega)), ?_, ?_, ?_, fun q => ⟨?_, fun i hi => ?_⟩⟩
  · rw [e _ _ (by omega) (by omega)]; exact h2
  · rw [e _ _ (by omega) (by omega)]; exact h3
  · rw [e _ _ (by omega) (by omega)]; exact h4
  · rw [e _ _ (by omega) (by omega)]; exact (h5 q).1
  · rw [e _ _ (by omega) (by omega)]; exact (h5 q).2 i hi
theorem ThroughOK.fr {μ μ' : xM} {s K nv : Nat} {V : Nat → xPic} {a : xPic} (h : ThroughOK μ s K nv V a) (e : ∀ b k, s ≤ b → b < s + 8 → xI μ' b k = xI μ b k) (el : ∀ b k, s ≤ b → b < s + 8 → xL μ' b k = xL μ b k) : ThroughOK μ' s K nv V a := by
  unfold ThroughOK at h ⊢
  rw [e s 6 (by omega) (by omega), e s 7 (by omega) (by omega), el s 5 (by omega) (by omega)]
  refine ⟨h.1, fun set hs => ?_, h.2.2⟩
  rw [el _ _ (by omega) (by omega)]
  exact h.2.1 set hs
theorem PicL.fr {μ μ' : xM} {p : Nat} (h : PicL μ p) (e : ∀ a k, p ≤ a → a < p + 5 → xI μ' a k = xI μ a k) : PicL μ' p := by
  obtain ⟨r, l, h1, h2, h3, h4⟩ := h
  exact ⟨r, l, h1, h2, (e _ _ (by omega) (by omega)).trans h3, (e _ _ (by omega) (by omega)).trans h4⟩
theorem HRel.fr {μ μ' : xM} {h : Nat} {t t' : Nat → Int32} {A V : Nat → xPic} {na nv T K kb gb : Nat} (H : HRel μ h t A V na nv T K kb gb) (e : ∀ a k, h ≤ a → a < h + 89 → xI μ' a k = xI μ a k) (et : ∀ j, j < 56 → t' j = t j) : HRel μ' h t' A V na nv T K kb gb := by
  obtain ⟨h1, h2, h3, h4, h5, h6, h7, g0, g1, g2, g3, g4, g5, t0, t1, t2, t3, tt, tv, zv, ta, za, pa, pv, la, lv⟩ := H
  refine ⟨h1, h2, h3, h4, h5, h6, h7, ?_, ?_, ?_, ?_, ?_, ?_, ?_, ?_, ?_, ?_, fun i hi => ?_, fun v hv => ?_, fun v hv hv2 => ?_, fun a ha => ?_, fun a ha ha2 => ?_, fun i hi => ?_, fun i hi => ?_, fun i hi => ?_, fun i hi => ?_⟩
  · rw [e _ _ (by omega) (by omega)]; exact g0
  · rw [e _ _ (by omega) (by omega)]; exact g1
  · rw [e _ _ (by omega) (by omega)]; exact g2
  · rw [e _ _ (by omega) (by omega)]; exact g3
  · rw [e _ _ (by omega) (by omega)]; exact g4
  · rw [e _ _ (by omega) (by omega)]; exact g5
  · rw [et _ (by omega)]; exact t0
  · rw [et _ (by omega)]; exact t1
  · rw [et _ (by omega), e _ _ (by omega) (by omega)]; exact t2
  · rw [et _ (by omega), e h 7 (by omega) (by omega), e h 6 (by omega) (by omega)]; exact t3
  · rw [et _ (by omega), et _ (by omega)]; exact tt i hi
  · rw [et _ (by omega), et _ (by omega), et _ (by omega), et _ (by omega), et _ (by omega), et _ (by omega), e _ _ (by omega) (by omega), e _ _ (by omega) (by omega), e _ _ (by omega) (by omega), e _ _ (by omega) (by omega), e _ _ (by omega) (by omega)]
    exact tv v hv
  · rw [e _ _ (by omega) (by omega), e _ _ (by omega) (by omega), e _ _ (by omega) (by omega), e _ _ (by omega) (by omega)]
    exact zv v hv hv2
  · rw [et _ (by omega), e _ _ (by omega) (by omega)]; exact ta a ha
  · rw [e _ _ (by omega) (by omega)]; exact za a ha ha2
  · exact (pa i hi).fr (fun b k q r => e b k (by omega) (by omega))
  · exact (pv i hi).fr (fun b k q r => e b k (by omega) (by omega))
  · exact (la i hi).fr (fun b k q r => e b k (by omega) (by omega))
  · exact (lv i hi).fr (fun b k q r => e b k (by omega) (by omega))
theorem vM_0 (μ : xM) : vM μ 0 = xI μ 293 8 := rfl
theorem vM_1 (μ : xM) : vM μ 1 = xI μ 293 9 := rfl
theorem vM_2 (μ : xM) : vM μ 2 = xI μ 293 23 := rfl
theorem vM_3 (μ : xM) : vM μ 3 = xI μ 293 24 := rfl
theorem vM_T (μ : xM) {i : Nat} (hi : i < 3) : vM μ (4 + 2 * i) = xI μ 294 i ∧ vM μ (5 + 2 * i) = xI μ 295 i := by
  unfold vM
  simp (disch := omega) only [if_neg, if_pos]
  rw [show (4 + 2 * i - 4) / 2 = i by omega, show (5 + 2 * i - 4) / 2 = i by omega]
  exact ⟨rfl, rfl⟩
theorem vM_V (μ : xM) {v : Nat} (hv : v < 6) : vM μ (10 + 6 * v) = xI μ 305 v ∧ vM μ (11 + 6 * v) = xI μ 307 v ∧ vM μ (12 + 6 * v) = xI μ 308 v ∧ vM μ (13 + 6 * v) = xI μ 309 v ∧ vM μ (14 + 6 * v) = xI μ 310 v ∧ vM μ (15 + 6 * v) = xI μ 311 v := by
  unfold vM
  simp (disch := omega) only [if_neg, if_pos]
  rw [show (10 + 6 * v - 10) / 6 = v by omega, show (11 + 6 * v - 10) / 6 = v by omega, show (12 + 6 * v - 10) / 6 = v by omega, show (13 + 6 * v - 10) / 6 = v by omega, show (14 + 6 * v - 10) / 6 = v by omega, show (15 + 6 * v - 10) / 6 = v by omega]
  exact ⟨rfl, rfl, rfl, rfl, rfl, rfl⟩
theorem vM_W (μ : xM) (a : Nat) : vM μ (46 + a) = xI μ 306 a := by
  unfold vM
  simp (disch := omega) only [if_neg, if_pos]
  rw [show 46 + a - 46 = a by omega]
def FMo (a k : Nat) : Prop := (a = 293 ∧ (k = 8 ∨ k = 9 ∨ k = 23 ∨ k = 24)) ∨ a = 294 ∨ a = 295 ∨ 305 ≤ a ∧ a ≤ 311
theorem vM_fr {μ μ' : xM} (e : ∀ a k, FMo a k → xI μ' a k = xI μ a k) (j : Nat) : vM μ' j = vM μ j := by
  unfold FMo at e
  unfold vM
  rw [e 293 8 (by omega), e 293 9 (by omega), e 293 23 (by omega), e 293 24 (by omega), e 294 _ (by omega), e 295 _ (by omega), e 305 _ (by omega), e 307 _ (by omega), e 308 _ (by omega), e 309 _ (by omega), e 310 _ (by omega), e 311 _ (by omega), e 306 _ (by omega)]
-- the parts of the relation
def SimH (μ : xM) (A V : Nat → xPic) (na nv T K kb gb : Nat) : Prop := HRel μ 3 (vM μ) A V na nv T K kb gb
def SimP (μ : xM) (A V : Nat → xPic) (na nv : Nat) : Prop := (∀ i, i < na → PicM μ i (A i) ∧ PicWf (A i)) ∧ ∀ i, i < nv → PicM μ (10 + i) (V i) ∧ PicWf (V i)
def SimC (μ : xM) : Prop := ∃ c, c ≤ 40 ∧ xI μ 185 1 = nI c ∧ xI μ 293 3 = nI c ∧ ∀ j, j < c → ∃ r f, r < 12 ∧ f < 2 ∧ xI μ 186 j = nI r ∧ xI μ 296 j = nI (100 * f + 10 * (r / 4) + r % 4)
def SimB (μ : xM) : Prop := ∃ n, n ≤ 60 ∧ xI μ 183 1 = nI n ∧ xI μ 293 5 = nI n ∧ ∀ j, j < n → xI μ 184 j = xI μ 297 j
def SimT (μ : xM) : Prop := ∃ n, n ≤ 24 ∧ xI μ 181 1 = nI n ∧ xI μ 293 7 = nI n ∧ ∀ j, j < n → xI μ 182 j = xI μ 298 j
def SimF (μ : xM) : Prop := ∀ k, k < 7 → xI μ 212 k = xI μ 312 k
def SimI (μ : xM) (A V : Nat → xPic) (na nv : Nat) : Prop := (xI μ 2 2 = 0 ∧ xI μ 293 61 = 0) ∨ (xI μ 2 2 = 1 ∧ xI μ 293 61 = 1 ∧ ∃ na' nv' T' K' kb' gb', na' ≤ na ∧ nv' ≤ nv ∧ HRel μ 92 (fun j => xI μ 332 j) A V na' nv' T' K' kb' gb')
def SimS (μ : xM) (A V : Nat → xPic) (na nv K : Nat) : Prop := ∀ i, i < 10 → (xI μ (213 + 8 * i) 8 = 0 ∧ xI μ (213 + 8 * i) 9 = 0) ∨ (i < na ∧ xI μ (213 + 8 * i) 8 = 1 ∧ SeenOK μ (213 + 8 * i) K nv V (A i) ∧ (xI μ (213 + 8 * i) 9 = 0 ∨ xI μ (213 + 8 * i) 9 = 1 ∧ ThroughOK μ (213 + 8 * i) K nv V (A i)))
def SimO (L : Nat) (xs : Nat → Int32) (μ : xM) : Prop := Sh μ ∧ Scr L xs μ ∧ ∀ j, j < 6 → xL μ 1 j = xhold j
theorem sim_un {L : Nat} {xs : Nat → Int32} {μ : xM} : Sim L xs μ ↔ SimO L xs μ ∧ ∃ A V na nv T K kb gb, SimH μ A V na nv T K kb gb ∧ SimP μ A V na nv ∧ SimC μ ∧ SimB μ ∧ SimT μ ∧ SimF μ ∧ SimI μ A V na nv ∧ SimS μ A V na nv K := by
  constructor
  · rintro ⟨s1, s2, s3, A, V, na, nv, T, K, kb, gb, a, b1, b2, c, d, e, f, g, h⟩
    exact ⟨⟨s1, s2, s3⟩, A, V, na, nv, T, K, kb, gb, a, ⟨b1, b2⟩, c, d, e, f, g, h⟩
  · rintro ⟨⟨s1, s2, s3⟩, A, V, na, nv, T, K, kb, gb, a, ⟨b1, b2⟩, c, d, e, f, g, h⟩
    exact ⟨s1, s2, s3, A, V, na, nv, T, K, kb, gb, a, b1, b2, c, d, e, f, g, h⟩
-- where they look
def FH (a : Nat) (k : Nat) : Prop := 3 ≤ a ∧ a < 92 ∨ FMo a k
def FP (a : Nat) (_ : Nat) : Prop := 299 ≤ a ∧ a ≤ 304
def FC (a k : Nat) : Prop := a = 185 ∨ a = 186 ∨ a = 296 ∨ a = 293 ∧ k = 3
def FB (a k : Nat) : Prop := a = 183 ∨ a = 184 ∨ a = 297 ∨ a = 293 ∧ k = 5
def FT (a k : Nat) : Prop := a = 181 ∨ a = 182 ∨ a = 298 ∨ a = 293 ∧ k = 7
def FF (a : Nat) (_ : Nat) : Prop := a = 212 ∨ a = 312
def FI (a k : Nat) : Prop := 92 ≤ a ∧ a < 181 ∨ a = 332 ∨ a = 2 ∧ k = 2 ∨ a = 293 ∧ k = 61
def FS (a : Nat) (_ : Nat) : Prop := 213 ≤ a ∧ a < 293
section FRP
variable {W : Nat → Nat → Prop} {μ μ' : xM} {A V : Nat → xPic} {na nv T K kb gb : Nat} {L : Nat} {xs : Nat → Int32}
theorem SimO.fr (h : SimO L xs μ) (f : Fr W μ μ') (d : ∀ a k, a < 2 → ¬ W a k) : SimO L xs μ' := ⟨f.sh h.1, f.scr h.2.1 (fun k => d 0 k (by omega)), fun j hj => (f.L (d 1 j (by omega))).trans (h.2.2 j hj)⟩
theorem SimH.fr (h : SimH μ A V na nv T K kb gb) (f : Fr W μ μ') (d : ∀ a k, FH a k → ¬ W a k) : SimH μ' A V na nv T K kb gb := HRel.fr h (fun a k q r => f.I (d a k (Or.inl ⟨q, by omega⟩))) (fun j _ => vM_fr (fun a k q => f.I (d a k (Or.inr q))) j)
theorem SimP.fr (h : SimP μ A V na nv) (f : Fr W μ μ') (d : ∀ a k, FP a k → ¬ W a k) : SimP μ' A V na nv := ⟨fun i hi => ⟨(h.1 i hi).1.fr (fun a k q r => f.I (d a k ⟨q, r⟩)), (h.1 i hi).2⟩, fun i hi => ⟨(h.2 i hi).1.fr (fun a k q r => f.I (d a k ⟨q, r⟩)), (h.2 i hi).2⟩⟩
theorem SimC.fr (h : SimC μ) (f : Fr W μ μ') (d : ∀ a k, FC a k → ¬ W a k) : SimC μ' := by
  obtain ⟨c, h1, h2, h3, h4⟩ := h
  refine ⟨c, h1, (f.I (d _ _ (Or.inl rfl))).trans h2, (f.I (d _ _ (Or.inr (Or.inr (Or.inr ⟨rfl, rfl⟩))))).trans h3, fun j hj => ?_⟩
  rw [f.I (d _ _ (Or.inr (Or.inl rfl))), f.I (d _ _ (Or.inr (Or.inr (Or.inl rfl))))]
  exact h4 j hj
theorem SimB.fr (h : SimB μ) (f : Fr W μ μ') (d : ∀ a k, FB a k → ¬ W a k) : SimB μ' := by
  obtain ⟨c, h1, h2, h3, h4⟩ := h
  refine ⟨c, h1, (f.I (d _ _ (Or.inl rfl))).trans h2, (f.I (d _ _ (Or.inr (Or.inr (Or.inr ⟨rfl, rfl⟩))))).trans h3, fun j hj => ?_⟩
  rw [f.I (d _ _ (Or.inr (Or.inl rfl))), f.I (d _ _ (Or.inr (Or.inr (Or.inl rfl))))]
  exact h4 j hj
theorem SimT.fr (h : SimT μ) (f : Fr W μ μ') (d : ∀ a k, FT a k → ¬ W a k) : SimT μ' := by
  obtain ⟨c, h1, h2, h3, h4⟩ := h
  refine ⟨c, h1, (f.I (d _ _ (Or.inl rfl))).trans h2, (f.I (d _ _ (Or.inr (Or.inr (Or.inr ⟨rfl, rfl⟩))))).trans h3, fun j hj => ?_⟩
  rw [f.I (d _ _ (Or.inr (Or.inl rfl))), f.I (d _ _ (Or.inr (Or.inr (Or.inl rfl))))]
  exact h4 j hj
theorem SimF.fr (h : SimF μ) (f : Fr W μ μ') (d : ∀ a k, FF a k → ¬ W a k) : SimF μ' := fun k hk => by
  rw [f.I (d _ _ (Or.inl rfl)), f.I (d _ _ (Or.inr rfl))]
  exact h k hk
theorem SimI.fr (h : SimI μ A V na nv) (f : Fr W μ μ') (d : ∀ a k, FI a k → ¬ W a k) : SimI μ' A V na nv := by
  unfold SimI at h ⊢
  rw [f.I (d 2 2 (Or.inr (Or.inr (Or.inl ⟨rfl, rfl⟩)))), f.I (d 293 61 (Or.inr (Or.inr (Or.inr ⟨rfl, rfl⟩))))]
  rcases h with h | ⟨h1, h2, na', nv', T', K', kb', gb', h3, h4, h5⟩
  · exact Or.inl h
  · exact Or.inr ⟨h1, h2, na', nv', T', K', kb', gb', h3, h4, h5.fr (fun a k q r => f.I (d a k (Or.inl ⟨q, by omega⟩))) (fun j _ => f.I (d 332 j (Or.inr (Or.inl rfl))))⟩
theorem SimS.fr (h : SimS μ A V na nv K) (f : Fr W μ μ') (hn : na ≤ 10) (d : ∀ a k, FS a k → ¬ W a k) : SimS μ' A V na nv K := fun i hi => by
  rw [f.I (d _ 8 ⟨by omega, by omega⟩), f.I (d _ 9 ⟨by omega, by omega⟩)]
  rcases h i hi with h | ⟨h0, h1, h2, h3⟩
  · exact Or.inl h
  · refine Or.inr ⟨h0, h1, h2.fr (fun b k q r => f.I (d b k ⟨by omega, by omega⟩)), ?_⟩
    rcases h3 with h3 | ⟨h3, h4⟩
    · exact Or.inl h3
    · exact Or.inr ⟨h3, h4.fr (fun b k q r => f.I (d b k ⟨by omega, by omega⟩)) (fun b k q r => f.L (d b k ⟨by omega, by omega⟩))⟩
end FRP
/-- cells that only carry what is worked out anew each time -/
def Scratch (a k : Nat) : Prop := 188 ≤ a ∧ a ≤ 211 ∨ a = 293 ∧ 26 ≤ k ∧ k ≠ 61 ∨ 313 ≤ a ∧ a ≤ 331
theorem sim_scratch {L : Nat} {xs : Nat → Int32} {μ μ' : xM} (h : Sim L xs μ) (f : Fr Scratch μ μ') : Sim L xs μ' := by
  rw [sim_un] at h ⊢
  obtain ⟨o, A, V, na, nv, T, K, kb, gb, hH, hP, hC, hB, hT, hF, hI, hS⟩ := h
  have hn : na ≤ 10 := hH.1
  exact ⟨o.fr f (fun a k q => by unfold Scratch; omega), A, V, na, nv, T, K, kb, gb, hH.fr f (fun a k q => by unfold FH FMo at q; unfold Scratch; omega), hP.fr f (fun a k q => by unfold FP at q; unfold Scratch; omega), hC.fr f (fun a k q => by unfold FC at q; unfold Scratch; omega), hB.fr f (fun a k q => by unfold FB at q; unfold Scratch; omega), hT.fr f (fun a k q => by unfold FT at q; unfold Scratch; omega), hF.fr f (fun a k q => by unfold FF at q; unfold Scratch; omega), hI.fr f (fun a k q => by unfold FI at q; unfold Scratch; omega), hS.fr f hn (fun a k q => by unfold FS at q; unfold Scratch; omega)⟩
