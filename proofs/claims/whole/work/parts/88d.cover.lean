/-! cover, covers, may -/
section COVER
variable {L : Nat} {xs : Nat → Int32} {μ : xM} {A V : Nat → xPic} {na nv T K kb gb : Nat}
theorem Tells.if0 {v : Int32} {p : Prop} (h : Tells v p) : (v = 0 ↔ ¬ p) := by
  rcases h with ⟨e, h⟩ | ⟨e, h⟩
  · rw [e]; exact ⟨fun z => absurd z (by decide), fun z => absurd h z⟩
  · rw [e]; exact ⟨fun _ => h, fun _ => rfl⟩
/-- the class's word on views that hold a cover, and the reference's -/
theorem covered_iff {μ1 : xM} {s : Nat} {a : xPic} {CL : List Nat} (t : ThroughOK μ1 s K nv V a) (c2 : ∀ x, x ∈ CL ↔ x < 2 ^ (pShows (pEnd K a) V nv).length ∧ pCov K V a (pEnd K a) (pShows (pEnd K a) V nv) x) {u : Nat} (hu : u < 64) : lb (xL μ1 s 5) u = true ↔ coveredBy (pShows (pEnd K a) V nv) CL u := by
  refine (t.2.2.1 u hu).trans ?_
  unfold coveredBy pViewsIn
  constructor
  · rintro ⟨x, h1, h2, h3⟩
    refine ⟨x, (c2 x).mpr ⟨h1, h2⟩, fun i hi => ?_⟩
    obtain ⟨y, y1, y2⟩ := vB_bit.mp hi
    rw [← y2]; exact h3 y y1
  · rintro ⟨x, h1, h2⟩
    obtain ⟨z1, z2⟩ := (c2 x).mp h1
    exact ⟨x, z1, z2, fun y hy => h2 _ (vB_bit.mpr ⟨y, hy, rfl⟩)⟩
theorem xcovBy_ok {s : Nat} (h : IsSight μ s) {u : Nat} (hu : u < 64) : fS_isCoveredBy s (nI u) μ = some (if lb (xL μ s 5) u = true then xc 1 else xc 0) := by
  have l5 : ldFL μ s 6 5 = some (xL μ s 5) := ldFL_k (ci := 6) 5 h.2.1
  have um : u % 64 = u := Nat.mod_eq_of_lt hu
  have lt := lbit_test (xL μ s 5) (k := u) (by omega)
  rw [um] at lt
  by_cases q : lb (xL μ s 5) u = true
  · have c : ¬ lg_cmp ((xL μ s 5 >>> (Int32.toInt64 (nI u) &&& 63)) &&& Int64.ofNat 1) (Int64.ofNat 0) = 0 := fun z => by rw [lt, q] at z; cases z
    rw [if_pos q]
    simp only [fS_isCoveredBy, fS_isCoveredBy_0, gd_k (ci := 6) h.2.1, l5, Option.bind_some, c, if_false]
  · have c := lt.mpr (by simpa using q)
    rw [if_neg q]
    simp only [fS_isCoveredBy, fS_isCoveredBy_0, gd_k (ci := 6) h.2.1, l5, Option.bind_some, c, if_true]
/-- sets of views -/
theorem ushr0 {v : Int32} {n : Nat} (hn : n ≤ 12) : (xshr v (nI n) = 0 ∧ ∃ u, u < 2 ^ n ∧ v = nI u) ∨ (¬ xshr v (nI n) = 0 ∧ Off (2 ^ n) v) := by
  sorry
end COVER
