/-! the holding's relation in parts -/
def HB (na nv T K kb gb : Nat) : Prop := na ≤ 10 ∧ nv ≤ 6 ∧ T < 4096 ∧ K < 8 ∧ kb < 2 ^ nv ∧ gb < 2 ^ nv ∧ KeyOK T K
def HS (μ : xM) (na nv T K kb gb : Nat) : Prop := xI μ 3 0 = nI T ∧ xI μ 3 1 = nI K ∧ xI μ 3 2 = nI na ∧ xI μ 3 3 = nI nv ∧ xI μ 3 4 = nI kb ∧ xI μ 3 5 = nI gb
def HM (μ : xM) (na nv : Nat) : Prop := xI μ 293 8 = nI na ∧ xI μ 293 9 = nI nv ∧ xI μ 293 23 = xI μ 3 6 ∧ (xI μ 293 24 = xI μ 3 7 ∧ 0 ≤ xI μ 3 6)
def HT (μ : xM) (T K : Nat) : Prop := ∀ i, i < 3 → xI μ 294 i = nI (T / 16 ^ i % 16) ∧ xI μ 295 i = nI (K / 2 ^ i % 2)
def HKp (μ : xM) (nv kb : Nat) : Prop := ∀ v, v < nv → (kb.testBit v = true → ∃ a, a < 256 ∧ xI μ 6 v = nI a ∧ xI μ 305 v = nI a) ∧ (kb.testBit v = false → xI μ 305 v = -1)
def HSz (μ : xM) (nv : Nat) : Prop := ∀ v, v < nv → xI μ 307 v = xI μ 8 v ∧ xI μ 308 v = xI μ 9 v ∧ xI μ 309 v = xI μ 10 v ∧ xI μ 310 v = xI μ 11 v
def HG (μ : xM) (nv gb : Nat) : Prop := ∀ v, v < nv → xI μ 311 v = nI (gb / 2 ^ v % 2)
def HZ (μ : xM) (nv : Nat) : Prop := ∀ v, nv ≤ v → v < 6 → xI μ 8 v = 0 ∧ xI μ 9 v = 0 ∧ xI μ 10 v = 0 ∧ xI μ 11 v = 0
def HW (μ : xM) (na : Nat) : Prop := (∀ a, a < na → xI μ 306 a = xI μ 7 a) ∧ ∀ a, na ≤ a → a < 10 → xI μ 7 a = 0
def HP (μ : xM) (A V : Nat → xPic) (na nv : Nat) : Prop := (∀ i, i < na → PicC μ (12 + 5 * i) (A i)) ∧ (∀ i, i < nv → PicC μ (62 + 5 * i) (V i)) ∧ (∀ i, i < 10 → PicL μ (12 + 5 * i)) ∧ ∀ i, i < 6 → PicL μ (62 + 5 * i)
theorem simH_un {μ : xM} {A V : Nat → xPic} {na nv T K kb gb : Nat} : SimH μ A V na nv T K kb gb ↔ HB na nv T K kb gb ∧ HS μ na nv T K kb gb ∧ HM μ na nv ∧ HT μ T K ∧ HKp μ nv kb ∧ HSz μ nv ∧ HG μ nv gb ∧ HZ μ nv ∧ HW μ na ∧ HP μ A V na nv := by
  constructor
  · rintro ⟨h1, h2, h3, h4, h5, h6, h7, g0, g1, g2, g3, g4, g5, t0, t1, t2, t3, tt, tv, zv, ta, za, pa, pv⟩
    refine ⟨⟨h1, h2, h3, h4, h5, h6, h7⟩, ⟨g0, g1, g2, g3, g4, g5⟩, ⟨t0, t1, t2, t3⟩, fun i hi => ?_, fun v hv => ?_, fun v hv => ?_, fun v hv => ?_, zv, ⟨fun a ha => ?_, za⟩, pa, pv⟩
    · have := tt i hi
      rw [(vM_T μ hi).1, (vM_T μ hi).2] at this
      exact this
    · have := tv v hv
      rw [(vM_V μ (by omega)).1] at this
      exact ⟨this.1, this.2.1⟩
    · have := (tv v hv).2.2
      have g := vM_V μ (v := v) (by omega)
      rw [g.2.1, g.2.2.1, g.2.2.2.1, g.2.2.2.2.1] at this
      exact ⟨this.1, this.2.1, this.2.2.1, this.2.2.2.1⟩
    · have := (tv v hv).2.2.2.2.2.2
      rw [(vM_V μ (v := v) (by omega)).2.2.2.2.2] at this
      exact this
    · have := ta a ha
      rw [vM_W] at this
      exact this
  · rintro ⟨⟨h1, h2, h3, h4, h5, h6, h7⟩, ⟨g0, g1, g2, g3, g4, g5⟩, ⟨t0, t1, t2, t3⟩, tt, tk, ts, tg, zv, ⟨ta, za⟩, pa, pv⟩
    refine ⟨h1, h2, h3, h4, h5, h6, h7, g0, g1, g2, g3, g4, g5, t0, t1, t2, t3, fun i hi => ?_, fun v hv => ?_, zv, fun a ha => ?_, za, pa, pv⟩
    · rw [(vM_T μ hi).1, (vM_T μ hi).2]
      exact tt i hi
    · have g := vM_V μ (v := v) (by omega)
      rw [g.1, g.2.1, g.2.2.1, g.2.2.2.1, g.2.2.2.2.1, g.2.2.2.2.2]
      exact ⟨(tk v hv).1, (tk v hv).2, (ts v hv).1, (ts v hv).2.1, (ts v hv).2.2.1, (ts v hv).2.2.2, tg v hv⟩
    · rw [vM_W]
      exact ta a ha
section FRH
variable {W : Nat → Nat → Prop} {μ μ' : xM} {A V : Nat → xPic} {na nv T K kb gb : Nat}
theorem HS.fr (h : HS μ na nv T K kb gb) (f : Fr W μ μ') (d : ∀ k, k < 6 → ¬ W 3 k) : HS μ' na nv T K kb gb := by
  unfold HS at h ⊢
  rw [f.I (d 0 (by decide)), f.I (d 1 (by decide)), f.I (d 2 (by decide)), f.I (d 3 (by decide)), f.I (d 4 (by decide)), f.I (d 5 (by decide))]
  exact h
theorem HM.fr (h : HM μ na nv) (f : Fr W μ μ') (d : ∀ a k, a = 3 ∧ 6 ≤ k ∧ k < 8 ∨ a = 293 ∧ (k = 8 ∨ k = 9 ∨ k = 23 ∨ k = 24) → ¬ W a k) : HM μ' na nv := by
  unfold HM at h ⊢
  rw [f.I (d 293 8 (by omega)), f.I (d 293 9 (by omega)), f.I (d 293 23 (by omega)), f.I (d 293 24 (by omega)), f.I (d 3 6 (by omega)), f.I (d 3 7 (by omega))]
  exact h
theorem HT.fr (h : HT μ T K) (f : Fr W μ μ') (d : ∀ k, k < 3 → ¬ W 294 k ∧ ¬ W 295 k) : HT μ' T K := fun i hi => by
  rw [f.I (d i hi).1, f.I (d i hi).2]
  exact h i hi
theorem HKp.fr (h : HKp μ nv kb) (f : Fr W μ μ') (d : ∀ k, k < nv → ¬ W 6 k ∧ ¬ W 305 k) : HKp μ' nv kb := fun i hi => by
  rw [f.I (d i hi).1, f.I (d i hi).2]
  exact h i hi
theorem HSz.fr (h : HSz μ nv) (f : Fr W μ μ') (d : ∀ a k, k < nv → 8 ≤ a ∧ a ≤ 11 ∨ 307 ≤ a ∧ a ≤ 310 → ¬ W a k) : HSz μ' nv := fun i hi => by
  rw [f.I (d 307 i hi (by omega)), f.I (d 308 i hi (by omega)), f.I (d 309 i hi (by omega)), f.I (d 310 i hi (by omega)), f.I (d 8 i hi (by omega)), f.I (d 9 i hi (by omega)), f.I (d 10 i hi (by omega)), f.I (d 11 i hi (by omega))]
  exact h i hi
theorem HG.fr (h : HG μ nv gb) (f : Fr W μ μ') (d : ∀ k, k < nv → ¬ W 311 k) : HG μ' nv gb := fun i hi => by
  rw [f.I (d i hi)]
  exact h i hi
theorem HZ.fr (h : HZ μ nv) (f : Fr W μ μ') (d : ∀ a k, 8 ≤ a → a ≤ 11 → nv ≤ k → k < 6 → ¬ W a k) : HZ μ' nv := fun i hi hi2 => by
  rw [f.I (d 8 i (by omega) (by omega) hi hi2), f.I (d 9 i (by omega) (by omega) hi hi2), f.I (d 10 i (by omega) (by omega) hi hi2), f.I (d 11 i (by omega) (by omega) hi hi2)]
  exact h i hi hi2
theorem HW.fr (h : HW μ na) (f : Fr W μ μ') (d : ∀ k, k < 10 → ¬ W 7 k ∧ ¬ W 306 k) (hn : na ≤ 10) : HW μ' na := ⟨fun a ha => by
  rw [f.I (d a (by omega)).1, f.I (d a (by omega)).2]
  exact h.1 a ha, fun a ha ha2 => by
  rw [f.I (d a (by omega)).1]
  exact h.2 a ha ha2⟩
theorem HP.fr (h : HP μ A V na nv) (f : Fr W μ μ') (hn : na ≤ 10) (hv : nv ≤ 6) (d : ∀ a k, 12 ≤ a → a < 92 → ¬ W a k) : HP μ' A V na nv := ⟨fun i hi => (h.1 i hi).fr (fun a k q r => f.I (d a k (by omega) (by omega))), fun i hi => (h.2.1 i hi).fr (fun a k q r => f.I (d a k (by omega) (by omega))), fun i hi => (h.2.2.1 i hi).fr (fun a k q r => f.I (d a k (by omega) (by omega))), fun i hi => (h.2.2.2 i hi).fr (fun a k q r => f.I (d a k (by omega) (by omega)))⟩
end FRH
/-- all of the relation, apart -/
theorem sim_all {L : Nat} {xs : Nat → Int32} {μ : xM} : Sim L xs μ ↔ SimO L xs μ ∧ ∃ A V na nv T K kb gb, (HB na nv T K kb gb ∧ HS μ na nv T K kb gb ∧ HM μ na nv ∧ HT μ T K ∧ HKp μ nv kb ∧ HSz μ nv ∧ HG μ nv gb ∧ HZ μ nv ∧ HW μ na ∧ HP μ A V na nv) ∧ SimP μ A V na nv ∧ SimC μ ∧ SimB μ ∧ SimT μ ∧ SimF μ ∧ SimI μ A V na nv ∧ SimS μ A V na nv K := by
  rw [sim_un]
  simp only [simH_un]
