/-! the class looks through: covers are worked out -/
theorem hold_bits : ∀ v, v < 6 → ∀ w, w < 64 → lb (xhold v) w = w.testBit v := by unfold lb xhold; decide +kernel
theorem sub_bits : ∀ v, v < 6 → ∀ u, u < 64 → ((2 ^ v ≤ u ∧ (u - 2 ^ v).testBit v = false) ↔ u.testBit v = true) := by decide +kernel
theorem sub_bits2 : ∀ v, v < 6 → ∀ u, u < 64 → u.testBit v = true → ∀ i, i < 6 → (u - 2 ^ v).testBit i = (u.testBit i && decide (¬ i = v)) := by decide +kernel
theorem lb_m1 {j : Nat} (hj : j < 64) : lb (Int64.ofNat 18446744073709551615) j = true := by
  rw [lb_N, decide_eq_true hj, show (18446744073709551615 : Nat) = 2 ^ 64 - 1 from rfl, Nat.testBit_two_pow_sub_one, decide_eq_true hj]
  rfl
theorem fill_ok {μ : xM} {a N : Nat} (h : xK μ a = (3, N)) (h2 : 2 ≤ a) (hN : N < 2 ^ 20) (v : Int64) : ∃ μ1, fJA_fill a v μ = some μ1 ∧ Fr (fun b _ => b = a) μ μ1 ∧ ∀ k, k < N → xL μ1 a k = v := by
  have ev : fJA_fill a v μ = xwh (fun s : Int32 × xM => fJA_fill_L6 a v s.1 (nI N) s.2) (xc 0, μ) := by
    simp only [fJA_fill, fJA_fill_0, alen_k h (by decide), Option.bind_some]
  rw [ev]
  refine xwh_inv (body := fun s : Int32 × xM => fJA_fill_L6 a v s.1 (nI N) s.2) (fun i s => s.1 = nI i ∧ Fr (fun b _ => b = a) μ s.2 ∧ ∀ k, k < i → xL s.2 a k = v) _ N ?_ ?_ N 0 _ (by omega) ⟨rfl, Fr.refl μ, fun k hk => absurd hk (Nat.not_lt_zero k)⟩
  · rintro i ⟨x, μ'⟩ hi ⟨rfl, f, e⟩
    left
    have c0 : ¬ nI N ≤ nI i := nI_ge hi (by omega)
    have k' : xK μ' a = (3, N) := (f.K a).trans h
    refine ⟨(nI (i + 1), xsL μ' a i v), ?_, rfl, f.sL _ rfl, fun k hk => ?_⟩
    · simp only [fJA_fill_L6, c0, if_false, stAL_k v k' hi (show N < 2 ^ 31 by omega) h2, Option.bind_some, inc1]
    · by_cases q : k = i
      · subst q; rw [xL_eq]
      · rw [xL_ne (by omega)]; exact e k (by omega)
  · rintro ⟨x, μ'⟩ ⟨rfl, f, e⟩
    refine ⟨μ', ?_, f, e⟩
    simp only [fJA_fill_L6, Int32.le_refl, if_true]
def WT (s a k : Nat) : Prop := a = s ∧ (k = 5 ∨ k = 6 ∨ k = 7) ∨ a = s + 7 ∨ 188 ≤ a ∧ a < 193
def W9 (s a k : Nat) : Prop := a = s ∧ (k = 5 ∨ k = 6 ∨ k = 7 ∨ k = 9) ∨ a = s + 7 ∨ 188 ≤ a ∧ a < 193
/-- covers in order up to a set -/
def CSpec (Cov : Nat → Prop) (n : Nat) (C : List Nat) (many set : Nat) : Prop := C.Nodup ∧ (∀ x, x ∈ C ↔ x < 2 ^ n ∧ Cov x ∧ (onesN 12 x < many ∨ onesN 12 x = many ∧ x < set)) ∧ ∀ c0 C', C = c0 :: C' → ∀ x, x ∈ C → onesN 12 c0 < onesN 12 x ∨ onesN 12 c0 = onesN 12 x ∧ c0 ≤ x
theorem CSpec.skip {Cov : Nat → Prop} {n : Nat} {C : List Nat} {many set : Nat} (h : CSpec Cov n C many set) (q : ¬ (onesN 12 set = many ∧ set < 2 ^ n ∧ Cov set)) : CSpec Cov n C many (set + 1) := by
  refine ⟨h.1, fun x => ?_, h.2.2⟩
  rw [h.2.1 x]
  constructor
  · rintro ⟨a, b, c⟩
    exact ⟨a, b, by omega⟩
  · rintro ⟨a, b, c⟩
    refine ⟨a, b, ?_⟩
    by_cases e : x = set
    · subst e
      by_cases z : onesN 12 x = many
      · exact absurd ⟨z, a, b⟩ q
      · omega
    · omega
theorem CSpec.take {Cov : Nat → Prop} {n : Nat} {C : List Nat} {many set : Nat} (h : CSpec Cov n C many set) (q1 : onesN 12 set = many) (q2 : set < 2 ^ n) (q3 : Cov set) : CSpec Cov n (C ++ [set]) many (set + 1) := by
  have hn : ¬ set ∈ C := fun z => by have := ((h.2.1 set).mp z).2.2; omega
  refine ⟨List.nodup_append.mpr ⟨h.1, List.nodup_cons.mpr ⟨List.not_mem_nil, List.nodup_nil⟩, fun a ha b hb e => ?_⟩, fun x => ?_, fun c0 C' e x hx => ?_⟩
  · rw [List.mem_singleton] at hb
    exact hn (hb ▸ e ▸ ha)
  · rw [List.mem_append, List.mem_singleton, h.2.1 x]
    constructor
    · rintro (⟨a, b, c⟩ | e)
      · exact ⟨a, b, by omega⟩
      · subst e
        exact ⟨q2, q3, Or.inr ⟨q1, by omega⟩⟩
    · rintro ⟨a, b, c⟩
      by_cases e : x = set
      · exact Or.inr e
      · exact Or.inl ⟨a, b, by omega⟩
  · cases hC : C with
    | nil =>
      rw [hC] at e hx
      cases e
      rw [List.nil_append, List.mem_singleton] at hx
      rw [hx]
      exact Or.inr ⟨rfl, Nat.le_refl _⟩
    | cons d D =>
      rw [hC] at e
      obtain ⟨e1, e2⟩ := List.cons.inj e
      rw [← e1]
      rcases List.mem_append.mp hx with z | z
      · exact h.2.2 d D hC x z
      · rw [List.mem_singleton] at z
        have := ((h.2.1 d).mp (by rw [hC]; exact List.mem_cons_self)).2.2
        rw [z]
        omega
theorem CSpec.many {Cov : Nat → Prop} {n : Nat} {C : List Nat} {many : Nat} (h : CSpec Cov n C many (2 ^ n)) : CSpec Cov n C (many + 1) 1 := by
  refine ⟨h.1, fun x => ?_, h.2.2⟩
  rw [h.2.1 x]
  constructor
  · rintro ⟨a, b, c⟩
    exact ⟨a, b, by omega⟩
  · rintro ⟨a, b, c⟩
    refine ⟨a, b, ?_⟩
    rcases c with c | ⟨c, d⟩
    · omega
    · have : x = 0 := by omega
      subst this
      exact absurd c (by have : onesN 12 0 = 0 := by decide
                         omega)
theorem shC {L : Nat} {xs : Nat → Int32} {μ : xM} {A V : Nat → xPic} {na nv T K kb gb : Nat} (hS : SimA L xs μ A V na nv T K kb gb) {j : Nat} (hj : j < na) (hl : (pShows (pEnd K (A j)) V nv).length ≤ 12) : ShC V nv (pShows (pEnd K (A j)) V nv) := by
  refine ⟨hl, fun x hx => ?_⟩
  obtain ⟨h1, h2, a, b, c, ha, hb, hc, e, h3, h4, h5⟩ := show_code hS hj hx
  obtain ⟨p0, p1, p2⟩ := pterm_code (v := x / 512) ha hb hc
  rw [← e] at p0 p1 p2
  refine ⟨h1, h2, hS.wfV h1, fun k => ?_, fun k hk hk3 => ?_⟩
  · by_cases q : k < 3
    · obtain rfl | rfl | rfl : k = 0 ∨ k = 1 ∨ k = 2 := by omega
      · omega
      · omega
      · omega
    · have : pterm x k = pterm x 2 := by unfold pterm; rw [show 2 - k = 2 - 2 by omega]
      omega
  · obtain rfl | rfl | rfl : k = 0 ∨ k = 1 ∨ k = 2 := by omega
    · rw [p0]; exact h3 (by omega)
    · rw [p1]; exact h4 (by omega)
    · rw [p2]; exact h5 (by omega)
section THROUGH
variable {μ : xM} {V : Nat → xPic} {nv K j : Nat} {sh : List Nat} {E : xPic × Nat × Bool} {a : xPic}
/-- what stands while covers are worked out -/
def Base (μ : xM) (V : Nat → xPic) (nv K j : Nat) (sh : List Nat) (E : xPic × Nat × Bool) (a : xPic) : Prop := Sh μ ∧ j < 10 ∧ ShC V nv sh ∧ FoundS μ (213 + 8 * j) sh ∧ nv ≤ 6 ∧ (∀ u, u < nv → PicC μ (62 + 5 * u) (V u)) ∧ PicC μ (213 + 8 * j + 1) E.1 ∧ TB E.1 7 ∧ E.1.2.length ≤ 3 ∧ K < 8 ∧ xI μ 3 1 = nI K ∧ PicWf a ∧ PicC μ (12 + 5 * j) a
theorem Base.fr9 {μ' : xM} (h : Base μ V nv K j sh E a) (f : Fr (W9 (213 + 8 * j)) μ μ') : Base μ' V nv K j sh E a := by
  obtain ⟨h1, h2, h3, h4, h5, h6, h7, h8, h9, h10, h11, h12, h13⟩ := h
  exact ⟨f.sh h1, h2, h3, h4.fr f (fun a k q => by unfold W9; omega), h5, fun u hu => (h6 u hu).fr (fun b k q r => f.I (by unfold W9; omega)), h7.fr (fun b k q r => by
    by_cases z : W9 (213 + 8 * j) b k
    · unfold W9 at z; omega
    · exact f.I z), h8, h9, h10, (f.I (by unfold W9; omega)).trans h11, h12, h13.fr (fun b k q r => f.I (by unfold W9; omega))⟩
theorem Base.fr {μ' : xM} (h : Base μ V nv K j sh E a) (f : Fr (WT (213 + 8 * j)) μ μ') : Base μ' V nv K j sh E a := h.fr9 (f.mono (fun a k q => by unfold WT at q; unfold W9; omega))
theorem covTest_ok (h : Base μ V nv K j sh E a) (hN : E.2.2 = false) {set : Nat} (hs : set < 2 ^ sh.length) (h1 : 1 ≤ (pbits set sh.length).length) (h3 : (pbits set sh.length).length ≤ 3) : ∃ r μ1, fS_openSet (213 + 8 * j) 188 (nI set) 3 μ = some (r, μ1) ∧ Fr (fun a _ => 188 ≤ a ∧ a < 193) μ μ1 ∧ ((r = xc 0 ∧ ¬ pCov K V a E sh set) ∨ (r = xc 1 ∧ ((pCov K V a E sh set ∧ fL_isWithin 188 (12 + 5 * j) μ1 = some (xc 1)) ∨ (¬ pCov K V a E sh set ∧ fL_isWithin 188 (12 + 5 * j) μ1 = some (xc 0))))) := by
  obtain ⟨z1, z2, z3, z4, z5, z6, z7, z8, z9, z10, z11, z12, z13⟩ := h
  have cov : pCov K V a E sh set ↔ pCovL K V a E (lsOf sh set sh.length) := by
    unfold pCov
    constructor
    · rintro (⟨q, _⟩ | ⟨_, _, _, q⟩)
      · rw [hN] at q; cases q
      · exact q
    · exact fun q => Or.inr ⟨hN, h1, h3, q⟩
  obtain ⟨⟨r, μ1⟩, o1, o2, o3⟩ := openSet_ok z1 z2 z3 z4 z5 z6 z7 z8 z9 z10 z11 hs h3
  refine ⟨r, μ1, o1, o2, ?_⟩
  have lok : LOk V (lsOf sh set sh.length) := z3.ok.list set
  have ll : (lsOf sh set sh.length).length ≤ 3 := by unfold lsOf; rw [List.length_map]; exact h3
  rcases o3 with ⟨o3, o4⟩ | ⟨o3, o4, o5, o6⟩
  · exact Or.inl ⟨o3, fun q => o4 (cov.mp q).1⟩
  · right
    refine ⟨o3, ?_⟩
    have hh1 := o2.sh z1
    have tb : TB (popS V 5 (lsOf sh set sh.length) 5, E.1.2) 31 := by
      refine ⟨fun r hr => ?_, fun t ht => by have := z8.2 t ht; omega⟩
      have := popS_bound _ 5 lok r hr
      omega
    have keep := pEnd_keep (K := K) tb
    have hlen : (popS V 5 (lsOf sh set sh.length) 5).length ≤ 12 := by
      have := popS_len (V := V) (st := 5) (lsOf sh set sh.length) 5 lok
      omega
    have cov2 : pCov K V a E sh set ↔ pWithin (pEnd K (popS V 5 (lsOf sh set sh.length) 5, E.1.2)) a := by
      rw [cov, open5_iff lok ll z8.2 z12]
      exact ⟨fun q => q.2, fun q => ⟨o4, q⟩⟩
    have ca : PicC μ1 (12 + 5 * j) a := z13.fr (fun b k q r => o2.I (by omega))
    rcases isWithin_ok (pic_ask hh1 j z2) ca z12 (pic_opened hh1) o5 (Nat.le_trans keep.2.1 hlen) (by rw [keep.2.2]; exact z9) keep.1 o6 with ⟨w1, w2⟩ | ⟨w1, w2⟩
    · exact Or.inl ⟨cov2.mpr w1, w2⟩
    · exact Or.inr ⟨fun q => w1 (cov2.mp q), w2⟩
theorem sets_ok (h : Base μ V nv K j sh E a) (hN : sh ≠ [] → E.2.2 = false) {many : Nat} (hm1 : 1 ≤ many) (hm3 : many ≤ 3) {C : List Nat} (hC : NtC μ (213 + 8 * j) sh C) (hc : CSpec (pCov K V a E sh) sh.length C many 1) : ∃ μ1 C1, xwh (fun z : Int32 × xM => fS_lookThrough_L71 (213 + 8 * j) (12 + 5 * j) 3 188 (nI many) z.1 z.2) (xc 1, μ) = some (.inl (nI (many + 1), μ1)) ∧ Fr (WT (213 + 8 * j)) μ μ1 ∧ NtC μ1 (213 + 8 * j) sh C1 ∧ CSpec (pCov K V a E sh) sh.length C1 (many + 1) 1 := by
  have hp12 := pow_le12 h.2.2.1.1
  have l12 := h.2.2.1.1
  have pos : 1 ≤ 2 ^ sh.length := Nat.one_le_two_pow
  have := xwh_inv (body := fun z : Int32 × xM => fS_lookThrough_L71 (213 + 8 * j) (12 + 5 * j) 3 188 (nI many) z.1 z.2) (fun i z => z.1 = nI (1 + i) ∧ Fr (WT (213 + 8 * j)) μ z.2 ∧ ∃ C1, NtC z.2 (213 + 8 * j) sh C1 ∧ CSpec (pCov K V a E sh) sh.length C1 many (1 + i)) (fun r => ∃ μ1 C1, r = .inl (nI (many + 1), μ1) ∧ Fr (WT (213 + 8 * j)) μ μ1 ∧ NtC μ1 (213 + 8 * j) sh C1 ∧ CSpec (pCov K V a E sh) sh.length C1 (many + 1) 1) (2 ^ sh.length - 1) ?_ ?_ (2 ^ sh.length - 1) 0 (xc 1, μ) (by omega) ⟨rfl, Fr.refl μ, C, hC, hc⟩
  · obtain ⟨r, r1, μ1, C1, rfl, r2⟩ := this
    exact ⟨μ1, C1, r1, r2⟩
  · rintro i ⟨x, μ'⟩ hi ⟨rfl, f, C1, n1, c1⟩
    left
    have B := h.fr f
    have hs' := sight_at B.1 j B.2.1
    have e2 : xI μ' (213 + 8 * j) 2 = nI sh.length := B.2.2.2.1.2.1
    have sl : 1 + i < 2 ^ sh.length := by omega
    have cc : ¬ nI (2 ^ sh.length) ≤ nI (1 + i) := nI_ge sl (by omega)
    have hne : sh ≠ [] := fun z => by rw [z] at sl; exact absurd sl (by show ¬ 1 + i < 1; omega)
    have hN' := hN hne
    have bc := bitc_ok (n := 1 + i) (by omega) μ'
    have o12 := onesN_le 12 (1 + i)
    have nx : 1 + i + 1 = 1 + (i + 1) := by omega
    have shv : ∀ x, x ∈ sh → x < 3072 := fun x hx => by have := (B.2.2.1.2 x hx).1; have := B.2.2.2.2.1; omega
    have hb : ∀ x, x ∈ C1 → x < 4096 := fun x hx => by have := ((c1.2.1 x).mp hx).1; omega
    by_cases q : onesN 12 (1 + i) = many
    · have qm : nI (onesN 12 (1 + i)) = nI many := by rw [q]
      have op : (pbits (1 + i) sh.length).length = many := by rw [← q, ones_pbits, pbits_wide sl l12]
      have note : ∀ μ2, Fr (fun a _ => 188 ≤ a ∧ a < 193) μ' μ2 → pCov K V a E sh (1 + i) → ∃ μ3, fS_lookThrough_127 (213 + 8 * j) (12 + 5 * j) 3 188 (nI many) (nI (1 + i)) μ2 = some (.inl (nI (1 + (i + 1)), μ3)) ∧ Fr (WT (213 + 8 * j)) μ μ3 ∧ ∃ C2, NtC μ3 (213 + 8 * j) sh C2 ∧ CSpec (pCov K V a E sh) sh.length C2 many (1 + (i + 1)) := fun μ2 f2 hcov => by
        have fw : Fr (WT (213 + 8 * j)) μ' μ2 := f2.mono (fun a k q => by unfold WT; omega)
        have B2 := B.fr fw
        obtain ⟨μ3, t1, t2, t3⟩ := noteCover_ok (sight_at B2.1 j B2.2.1) B2.2.2.2.1 shv (n1.fr f2 (fun a k q => by unfold WN at q; have := B.2.1; omega)) hb (set := 1 + i) (by omega)
        refine ⟨μ3, ?_, f.trans (fw.trans (t2.mono (fun a k q => by unfold WN at q; unfold WT; omega))), C1 ++ [1 + i], t3, ?_⟩
        · simp only [fS_lookThrough_127, t1, Option.bind_some, fS_lookThrough_133, inc1, nx]
        · rw [← nx]
          exact c1.take q sl hcov
      rcases hasCoverIn_ok hs' l12 e2 sl with ⟨i0, y1, y2, y3, y4⟩ | ⟨y1, y4⟩
      · have sl2 := sb_le (1 + i) i0
        have csub := (c1.2.1 _).mp ((n1.1 (sb (1 + i) i0) (by omega)).mp y3)
        have hcov := cov_more B.2.2.1.ok B.2.2.2.2.2.2.2.1.2 B.2.2.2.2.2.2.2.2.2.2.2.1 hN' y1 y2 (sb_bit (by omega)) (by omega) csub.2.1
        obtain ⟨μ3, t1, t2⟩ := note μ' (Fr.refl μ') hcov
        refine ⟨(nI (1 + (i + 1)), μ3), ?_, rfl, t2⟩
        simp only [fS_lookThrough_L71, sf hs', e2, Option.bind_some, nI_bit (show sh.length < 32 by omega), cc, if_false, bc, qm, if_true, y4, xc1F, t1]
      · obtain ⟨r, μ2, o1, o2, o3⟩ := covTest_ok B hN' sl (by omega) (by omega)
        have f2 : Fr (WT (213 + 8 * j)) μ μ2 := f.trans (o2.mono (fun a k q => by unfold WT; omega))
        have n2 : NtC μ2 (213 + 8 * j) sh C1 := n1.fr o2 (fun a k q => by unfold WN at q; have := B.2.1; omega)
        rcases o3 with ⟨rfl, o3⟩ | ⟨rfl, ⟨o3, o4⟩ | ⟨o3, o4⟩⟩
        · refine ⟨(nI (1 + (i + 1)), μ2), ?_, rfl, f2, C1, n2, ?_⟩
          · simp only [fS_lookThrough_L71, sf hs', e2, Option.bind_some, nI_bit (show sh.length < 32 by omega), cc, if_false, bc, qm, if_true, y4, xc0T, o1, fS_lookThrough_133, inc1, nx]
          · rw [← nx]
            exact c1.skip (fun z => o3 z.2.2)
        · obtain ⟨μ3, t1, t2⟩ := note μ2 o2 o3
          refine ⟨(nI (1 + (i + 1)), μ3), ?_, rfl, t2⟩
          simp only [fS_lookThrough_L71, sf hs', e2, Option.bind_some, nI_bit (show sh.length < 32 by omega), cc, if_false, bc, qm, if_true, y4, xc0T, o1, xc1F, o4, t1]
        · refine ⟨(nI (1 + (i + 1)), μ2), ?_, rfl, f2, C1, n2, ?_⟩
          · simp only [fS_lookThrough_L71, sf hs', e2, Option.bind_some, nI_bit (show sh.length < 32 by omega), cc, if_false, bc, qm, if_true, y4, xc0T, o1, xc1F, o4, fS_lookThrough_133, inc1, nx]
          · rw [← nx]
            exact c1.skip (fun z => o3 z.2.2)
    · have qm : ¬ nI (onesN 12 (1 + i)) = nI many := fun z => q ((nI64 (by omega) (by omega)).mp z)
      refine ⟨(nI (1 + (i + 1)), μ'), ?_, rfl, f, C1, n1, ?_⟩
      · simp only [fS_lookThrough_L71, sf hs', e2, Option.bind_some, nI_bit (show sh.length < 32 by omega), cc, if_false, bc, qm, fS_lookThrough_133, inc1, nx]
      · rw [← nx]
        exact c1.skip (fun z => q z.1)
  · rintro ⟨x, μ'⟩ ⟨rfl, f, C1, n1, c1⟩
    have B := h.fr f
    have hs' := sight_at B.1 j B.2.1
    have e2 : xI μ' (213 + 8 * j) 2 = nI sh.length := B.2.2.2.1.2.1
    rw [show 1 + (2 ^ sh.length - 1) = 2 ^ sh.length by omega] at c1 ⊢
    refine ⟨.inl (nI (many + 1), μ'), ?_, μ', C1, rfl, f, n1, c1.many⟩
    simp only [fS_lookThrough_L71, sf hs', e2, Option.bind_some, nI_bit (show sh.length < 32 by omega), Int32.le_refl, if_true, fS_lookThrough_139, Option.map_some, inc1]
/-- sets of views that have a cover -/
theorem clos_ok {s : Nat} (hs : IsSight μ s) (h2 : 193 ≤ s) (h1 : xK μ 1 = (3, 6)) (hH : ∀ i, i < 6 → xL μ 1 i = xhold i) {Q : Nat → Prop} (hQ : ∀ u, u < 64 → (lb (xL μ s 5) u = true ↔ Q u)) (hQ64 : ∀ u, Q u → u < 64) : ∃ μ1, fS_lookThrough_145 s μ = some μ1 ∧ Fr (fun a k => a = s ∧ k = 5) μ μ1 ∧ ∀ u, u < 64 → (lb (xL μ1 s 5) u = true ↔ ∃ w, Q w ∧ ∀ i, w.testBit i = true → u.testBit i = true) := by
  unfold fS_lookThrough_145
  refine xwh_inv (body := fun z : Int32 × xM => fS_lookThrough_L148 s z.1 z.2) (fun v z => z.1 = nI v ∧ Fr (fun a k => a = s ∧ k = 5) μ z.2 ∧ ∀ u, u < 64 → (lb (xL z.2 s 5) u = true ↔ ∃ w, Q w ∧ (∀ i, w.testBit i = true → u.testBit i = true) ∧ ∀ i, v ≤ i → w.testBit i = u.testBit i)) _ 6 ?_ ?_ 6 0 _ (by omega) ⟨rfl, Fr.refl μ, fun u hu => ?_⟩
  · rintro v ⟨x, μ'⟩ hv ⟨rfl, f, e⟩
    left
    have hs' := f.sight hs
    have c0 : ¬ xc 6 ≤ nI v := nI_ge (b := 6) hv (by decide)
    have l5 : ldFL μ' s 6 5 = some (xL μ' s 5) := ldFL_k (ci := 6) 5 hs'.2.1
    have l1 : ldAL μ' 1 (nI v) = some (xhold v) := by rw [ldAL_k ((f.K 1).trans h1) hv (by decide), f.L (by omega), hH v hv]
    have p64 : 2 ^ v < 64 := Nat.lt_of_lt_of_le (Nat.pow_lt_pow_right (by decide) hv) (by decide)
    refine ⟨(nI (v + 1), xsL μ' s 5 (xL μ' s 5 ||| ((xL μ' s 5 &&& (xhold v ^^^ Int64.ofNat 18446744073709551615)) <<< (Int32.toInt64 (nI (2 ^ v)) &&& 63)))), ?_, rfl, f.sL _ ⟨rfl, rfl⟩, fun u hu => ?_⟩
    · simp only [fS_lookThrough_L148, c0, if_false, l5, Option.bind_some, l1, nI_bit (show v < 32 by omega), stFL_k (ci := 6) 5 _ hs'.2.1 hs'.1, inc1]
    · have usub : u - 2 ^ v < 64 := Nat.lt_of_le_of_lt (Nat.sub_le _ _) hu
      rw [xL_eq, lb_or, lb_shl _ p64, Bool.or_eq_true, e u hu, decide_eq_true hu, Bool.true_and, Bool.and_eq_true, lb_and, Bool.and_eq_true, lb_xor, hold_bits v hv _ usub, lb_m1 usub]
      have sbs := sub_bits v hv u hu
      constructor
      · rintro (⟨w, w1, w2, w3⟩ | ⟨q1, q2, q3⟩)
        · exact ⟨w, w1, w2, fun i hi => w3 i (by omega)⟩
        · have hge : 2 ^ v ≤ u := by simpa using q1
          have hb : (u - 2 ^ v).testBit v = false := by simpa using q3
          have ub := sbs.mp ⟨hge, hb⟩
          obtain ⟨w, w1, w2, w3⟩ := (e (u - 2 ^ v) usub).mp q2
          have sb2 := sub_bits2 v hv u hu ub
          have hw := hQ64 w w1
          refine ⟨w, w1, fun i hi => ?_, fun i hi => ?_⟩
          · by_cases i6 : i < 6
            · have := w2 i hi
              rw [sb2 i i6, Bool.and_eq_true] at this
              exact this.1
            · rw [tb_hi (k := 6) hw (by omega)] at hi
              cases hi
          · by_cases i6 : i < 6
            · rw [w3 i (by omega), sb2 i i6, decide_eq_true (show ¬ i = v by omega), Bool.and_true]
            · rw [tb_hi (k := 6) hw (by omega), tb_hi (k := 6) hu (by omega)]
      · rintro ⟨w, w1, w2, w3⟩
        have hw := hQ64 w w1
        by_cases q : w.testBit v = u.testBit v
        · refine Or.inl ⟨w, w1, w2, fun i hi => ?_⟩
          by_cases z : i = v
          · rw [z]; exact q
          · exact w3 i (by omega)
        · right
          have wv : w.testBit v = false := by
            cases z : w.testBit v with
            | false => rfl
            | true => rw [z, w2 v z] at q; exact absurd rfl q
          have uv : u.testBit v = true := by
            cases z : u.testBit v with
            | true => rfl
            | false => rw [wv, z] at q; exact absurd rfl q
          obtain ⟨s1, s2⟩ := sbs.mpr uv
          have sb2 := sub_bits2 v hv u hu uv
          refine ⟨by simpa using s1, (e (u - 2 ^ v) usub).mpr ⟨w, w1, fun i hi => ?_, fun i hi => ?_⟩, by rw [s2]; rfl⟩
          · by_cases i6 : i < 6
            · rw [sb2 i i6, w2 i hi, decide_eq_true (show ¬ i = v from fun z => by rw [z, wv] at hi; cases hi)]
              rfl
            · rw [tb_hi (k := 6) hw (by omega)] at hi
              cases hi
          · by_cases i6 : i < 6
            · rw [sb2 i i6]
              by_cases z : i = v
              · rw [z, wv, decide_eq_false (fun y => y rfl), Bool.and_false]
              · rw [w3 i (by omega), decide_eq_true z, Bool.and_true]
            · rw [tb_hi (k := 6) hw (by omega), tb_hi (k := 6) (show u - 2 ^ v < 2 ^ 6 from usub) (by omega)]
  · rintro ⟨x, μ'⟩ ⟨rfl, f, e⟩
    refine ⟨μ', ?_, f, fun u hu => ?_⟩
    · simp only [fS_lookThrough_L148, show (xc 6 ≤ nI 6) = True from by decide, if_true]
    · rw [e u hu]
      constructor
      · rintro ⟨w, w1, w2, _⟩
        exact ⟨w, w1, w2⟩
      · rintro ⟨w, w1, w2⟩
        refine ⟨w, w1, w2, fun i hi => ?_⟩
        rw [tb_hi (k := 6) (hQ64 w w1) hi, tb_hi (k := 6) hu hi]
  · rw [hQ u hu]
    constructor
    · intro q
      exact ⟨u, q, fun i hi => hi, fun i _ => rfl⟩
    · rintro ⟨w, w1, _, w3⟩
      have : w = u := Nat.eq_of_testBit_eq (fun i => w3 i (Nat.zero_le _))
      exact this ▸ w1
end THROUGH
