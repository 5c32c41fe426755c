/-! the reference finds the shows of an ask -/
/-- a show's terms as digits to the base 7 -/
def c7 (n x : Nat) : Nat := if n = 0 then 0 else if n = 1 then x % 512 / 64 else if n = 2 then 7 * (x % 512 / 64) + x % 64 / 8 else 49 * (x % 512 / 64) + 7 * (x % 64 / 8) + x % 8
def tw (d : Nat → Nat) : Nat → Nat
  | 0 => 0
  | k + 1 => 7 * tw d k + d k
def dig (P : xPic) (g : pG) (k : Nat) : Nat := (P.2.map (pim g)).getD k 0
/-- a code of a view, taken apart -/
def CodeOf (v n y : Nat) : Prop := ∃ a b c, a < 7 ∧ b < 7 ∧ c < 7 ∧ y = 512 * v + (64 * a + 8 * b + c) ∧ (n < 1 → a = 0) ∧ (n < 2 → b = 0) ∧ (n < 3 → c = 0)
theorem dig_lt {P : xPic} {g : pG} (b : gB 7 g) (k : Nat) : dig P g k < 7 := by
  unfold dig
  by_cases q : k < P.2.length
  · rw [getD_map (d := 0) q]
    exact pim7 b (by omega)
  · rw [List.getD_eq_getElem?_getD, List.getElem?_eq_none (by rw [List.length_map]; omega)]
    exact (by decide)
theorem dig_0 {P : xPic} {g : pG} {k : Nat} (h : P.2.length ≤ k) : dig P g k = 0 := by
  unfold dig
  rw [List.getD_eq_getElem?_getD, List.getElem?_eq_none (by rw [List.length_map]; omega)]
  rfl
theorem pcd_dig (v : Nat) (P : xPic) (g : pG) : pcd v P g = 512 * v + (64 * dig P g 0 + 8 * dig P g 1 + dig P g 2) := rfl
theorem codeOf_pcd {v : Nat} {P : xPic} {g : pG} (b : gB 7 g) : CodeOf v P.2.length (pcd v P g) := ⟨dig P g 0, dig P g 1, dig P g 2, dig_lt b 0, dig_lt b 1, dig_lt b 2, pcd_dig v P g, fun h => dig_0 (by omega), fun h => dig_0 (by omega), fun h => dig_0 (by omega)⟩
theorem c7_eq {v n a b c : Nat} (hn : n ≤ 3) (ha : a < 7) (hb : b < 7) (hc : c < 7) (h1 : n < 1 → a = 0) (h2 : n < 2 → b = 0) (h3 : n < 3 → c = 0) : (n = 0 ∧ c7 n (512 * v + (64 * a + 8 * b + c)) = 0) ∨ (n = 1 ∧ c7 n (512 * v + (64 * a + 8 * b + c)) = a) ∨ (n = 2 ∧ c7 n (512 * v + (64 * a + 8 * b + c)) = 7 * a + b) ∨ (n = 3 ∧ c7 n (512 * v + (64 * a + 8 * b + c)) = 49 * a + 7 * b + c) := by
  unfold c7
  obtain rfl | rfl | rfl | rfl : n = 0 ∨ n = 1 ∨ n = 2 ∨ n = 3 := by omega
  · exact Or.inl ⟨rfl, if_pos rfl⟩
  · refine Or.inr (Or.inl ⟨rfl, ?_⟩)
    rw [if_neg (by decide), if_pos rfl]
    omega
  · refine Or.inr (Or.inr (Or.inl ⟨rfl, ?_⟩))
    rw [if_neg (by decide), if_neg (by decide), if_pos rfl]
    omega
  · refine Or.inr (Or.inr (Or.inr ⟨rfl, ?_⟩))
    rw [if_neg (by decide), if_neg (by decide), if_neg (by decide)]
    omega
theorem c7_lt {v n y : Nat} (hn : n ≤ 3) (h : CodeOf v n y) : c7 n y < 343 := by
  obtain ⟨a, b, c, ha, hb, hc, rfl, h1, h2, h3⟩ := h
  rcases c7_eq (v := v) hn ha hb hc h1 h2 h3 with ⟨_, e⟩ | ⟨_, e⟩ | ⟨_, e⟩ | ⟨_, e⟩ <;> omega
theorem c7_mono {v n y z : Nat} (hn : n ≤ 3) (h : CodeOf v n y) (k : CodeOf v n z) : (c7 n y < c7 n z → y < z) ∧ (c7 n y = c7 n z → y = z) := by
  obtain ⟨a, b, c, ha, hb, hc, rfl, h1, h2, h3⟩ := h
  obtain ⟨d, e, f, hd, he, hf, rfl, k1, k2, k3⟩ := k
  rcases c7_eq (v := v) hn ha hb hc h1 h2 h3 with ⟨x, e1⟩ | ⟨x, e1⟩ | ⟨x, e1⟩ | ⟨x, e1⟩ <;> rcases c7_eq (v := v) hn hd he hf k1 k2 k3 with ⟨x2, e2⟩ | ⟨x2, e2⟩ | ⟨x2, e2⟩ | ⟨x2, e2⟩ <;> (constructor <;> intro q <;> omega)
theorem tw_c7 {v : Nat} {P : xPic} {g : pG} (hn : P.2.length ≤ 3) (b : gB 7 g) : tw (dig P g) P.2.length = c7 P.2.length (pcd v P g) := by
  rw [pcd_dig]
  rcases c7_eq (v := v) hn (dig_lt (P := P) b 0) (dig_lt (P := P) b 1) (dig_lt (P := P) b 2) (fun h => dig_0 (by omega)) (fun h => dig_0 (by omega)) (fun h => dig_0 (by omega)) with ⟨x, e⟩ | ⟨x, e⟩ | ⟨x, e⟩ | ⟨x, e⟩
  · rw [e, x]; rfl
  · rw [e, x]
    show 7 * 0 + dig P g 0 = _
    omega
  · rw [e, x]
    show 7 * (7 * 0 + dig P g 0) + dig P g 1 = _
    omega
  · rw [e, x]
    show 7 * (7 * (7 * 0 + dig P g 0) + dig P g 1) + dig P g 2 = _
    omega
theorem codeOf_mem {E : xPic × Nat × Bool} {V : Nat → xPic} {v y : Nat} (bE : TB E.1 7) (h : y ∈ sCodes E V v) : CodeOf v (V v).2.length y := by
  obtain ⟨g, h1, rfl⟩ := List.mem_map.mp h
  exact codeOf_pcd (phoms_B (fun e he => (bE.1 e he).2) _ _ (gB_gN 7) h1)
theorem codeOf_div {v n y : Nat} (h : CodeOf v n y) : y / 512 = v := by
  obtain ⟨a, b, c, ha, hb, hc, rfl, _⟩ := h
  omega
def ShowsM (μ : xM) (V : Nat → xPic) (S : List Nat) : Prop := S.length ≤ 12 ∧ xI μ 293 39 = nI S.length ∧ ∀ i, i < S.length → xI μ 319 i = nI (S.getD i 0 / 512) ∧ xI μ 320 i = nI (c7 (V (S.getD i 0 / 512)).2.length (S.getD i 0))
theorem ShowsM.fr {μ μ' : xM} {V : Nat → xPic} {S : List Nat} {W : Nat → Nat → Prop} (h : ShowsM μ V S) (f : Fr W μ μ') (d : ∀ a k, a = 293 ∧ k = 39 ∨ a = 319 ∨ a = 320 → ¬ W a k) : ShowsM μ' V S := ⟨h.1, (f.I (d _ _ (by omega))).trans h.2.1, fun i hi => ⟨(f.I (d _ _ (by omega))).trans (h.2.2 i hi).1, (f.I (d _ _ (by omega))).trans (h.2.2 i hi).2⟩⟩
def W7 (a k : Nat) : Prop := a = 293 ∧ (k = 39 ∨ k = 40) ∨ 317 ≤ a ∧ a ≤ 320 ∨ a = 325
/-- what one view comes to -/
def ViewP (μ : xM) (E : xPic × Nat × Bool) (V : Nat → xPic) (nv v : Nat) (a : (Int32 × xM) ⊕ (Int32 × xM)) : Prop := (∃ μ6 S, a = .inl (nI (v + 1), μ6) ∧ Fr W7 μ μ6 ∧ ShowsM μ6 V S ∧ Srt S ∧ ∀ y, y ∈ S ↔ ∃ u, u < v + 1 ∧ y ∈ sCodes E V u) ∨ (∃ μ6, a = .inr (xc 0, μ6) ∧ Fr W7 μ μ6 ∧ 12 < (pShows E V nv).length)
section SHM
variable {μ : xM} {E : xPic × Nat × Bool} {V : Nat → xPic} {nv v : Nat}
theorem tail_ok (h : Sh μ) (hN : E.2.2 = false) (bE : TB E.1 7) (hv : v < nv) (n6 : nv ≤ 6) (wv : PicWf (V v)) {S : List Nat} (hS : ShowsM μ V S) (hs : Srt S) (hm : ∀ y, y ∈ S ↔ ∃ u, u < v ∧ y ∈ sCodes E V u) (bE2 : ∀ u, u < nv → (V u).2.length ≤ 3) (hf : ∀ t, t < 343 → xI μ 325 t = if t ∈ (sCodes E V v).map (c7 (V v).2.length) then xc 1 else xc 0) : ∃ a, fM_findShows_196 293 (nI v) μ = some a ∧ ViewP μ E V nv v a := by
  unfold fM_findShows_196
  have lh := wv.2.2.1
  refine xwh_inv (body := fun s : Int32 × xM => fM_findShows_L199 293 (nI v) s.1 s.2) (fun t s => s.1 = nI t ∧ Fr W7 μ s.2 ∧ (∀ t, t < 343 → xI s.2 325 t = xI μ 325 t) ∧ ∃ S', ShowsM s.2 V S' ∧ Srt S' ∧ ∀ y, y ∈ S' ↔ (∃ u, u < v ∧ y ∈ sCodes E V u) ∨ (y ∈ sCodes E V v ∧ c7 (V v).2.length y < t)) _ 343 ?_ ?_ 343 0 _ (by omega) ⟨rfl, Fr.refl μ, fun _ _ => rfl, S, hS, hs, fun y => ⟨fun q => Or.inl ((hm y).mp q), fun q => q.elim (hm y).mpr (fun q => absurd q.2 (Nat.not_lt_zero _))⟩⟩
  · rintro t ⟨x, μ'⟩ ht ⟨rfl, f, ff, S', s1, s2, s3⟩
    have h' := f.sh h
    have c0 : ¬ xc 343 ≤ nI t := nI_ge (b := 343) ht (by decide)
    have t1 : ldAZ μ' 325 (nI t) = some (xI μ 325 t) := by rw [lz325 h' ht, ff t ht]
    rw [hf t ht] at t1
    by_cases q : t ∈ (sCodes E V v).map (c7 (V v).2.length)
    · rw [if_pos q] at t1
      obtain ⟨y, hy, ey⟩ := List.mem_map.mp q
      have cy := codeOf_mem bE hy
      have dy := codeOf_div cy
      have above : ∀ z, z ∈ S' → z < y := fun z hz => by
        rcases (s3 z).mp hz with ⟨u, u1, u2⟩ | ⟨u1, u2⟩
        · have := codeOf_div (codeOf_mem bE u2)
          omega
        · exact (c7_mono lh (codeOf_mem bE u1) cy).1 (by omega)
      have srt' : Srt (S' ++ [y]) := List.pairwise_append.mpr ⟨s2, List.pairwise_singleton _ _, fun a ha b hb => by rw [List.mem_singleton.mp hb]; exact above a ha⟩
      have mem' : ∀ z, z ∈ S' ++ [y] ↔ (∃ u, u < v ∧ z ∈ sCodes E V u) ∨ (z ∈ sCodes E V v ∧ c7 (V v).2.length z < t + 1) := fun z => by
        rw [List.mem_append, List.mem_singleton, s3 z]
        constructor
        · rintro ((h1 | ⟨h1, h2⟩) | h1)
          · exact Or.inl h1
          · exact Or.inr ⟨h1, by omega⟩
          · exact Or.inr ⟨h1 ▸ hy, by rw [h1]; omega⟩
        · rintro (h1 | ⟨h1, h2⟩)
          · exact Or.inl (Or.inl h1)
          · by_cases e : c7 (V v).2.length z < t
            · exact Or.inl (Or.inr ⟨h1, e⟩)
            · exact Or.inr ((c7_mono lh (codeOf_mem bE h1) cy).2 (by omega))
      have l' : (S' ++ [y]).length = S'.length + 1 := by rw [List.length_append, List.length_singleton]
      by_cases q12 : S'.length = 12
      · right
        have e39 : xI μ' 293 39 = xc 12 := by rw [s1.2.1, q12]; rfl
        have k1 : Sh (xsI μ' 293 40 (xc 1)) := h'
        refine ⟨.inr (xc 0, xsI μ' 293 40 (xc 1)), ?_, Or.inr ⟨_, rfl, f.s _ (by unfold W7; omega), ?_⟩⟩
        · simp only [fM_findShows_L199, c0, if_false, g293_50 h', Option.bind_some, t1, xc1F, f293 h', e39, if_true, fM_findShows_226, fz293 h' 40 (v := xc 1) (Or.inr rfl), Option.map_some]
        · have := srt_len srt' (shows_srt E V nv) (fun z hz => (shows_mem hN bE).mpr (by
            rcases (mem' z).mp hz with ⟨u, u1, u2⟩ | ⟨u1, _⟩
            · exact ⟨u, by omega, u2⟩
            · exact ⟨v, hv, u1⟩))
          omega
      · left
        have l12 : S'.length < 12 := by have := s1.1; omega
        have e39 : xI μ' 293 39 = nI S'.length := s1.2.1
        have c1 : ¬ nI S'.length = xc 12 := fun z => q12 ((nI_eq (by omega) (by decide)).mp z)
        have k1 : ∀ a, Sh (xsI μ' 319 S'.length a) := fun a => h'
        have k2 : ∀ a b, Sh (xsI (xsI μ' 319 S'.length a) 320 S'.length b) := fun a b => h'
        have e1 : ∀ a, xI (xsI μ' 319 S'.length a) 293 39 = nI S'.length := fun a => (xI_ne (by omega)).trans e39
        have e2 : ∀ a b, xI (xsI (xsI μ' 319 S'.length a) 320 S'.length b) 293 39 = nI S'.length := fun a b => by rw [xI_ne (by omega), xI_ne (by omega)]; exact e39
        refine ⟨(nI (t + 1), xsI (xsI (xsI μ' 319 S'.length (nI v)) 320 S'.length (nI t)) 293 39 (nI (S'.length + 1))), ?_, rfl, ((f.s _ (by unfold W7; omega)).s _ (by unfold W7; omega)).s _ (by unfold W7; omega), fun z hz => ?_, S' ++ [y], ⟨by omega, ?_, fun i hi => ?_⟩, srt', mem'⟩
        · simp only [fM_findShows_L199, c0, if_false, g293_50 h', Option.bind_some, t1, xc1F, f293 h', e39, c1, g293_41 h', sa319 h' _ l12, g293_42 (k1 _), f293 (k1 _), e1, sa320 (k1 _) _ l12, f293 (k2 _ _), e2, fs293 (k2 _ _), fM_findShows_264, inc1]
        · rw [xI_ne (by omega), xI_ne (by omega), xI_ne (by omega)]
          exact ff z hz
        · rw [xI_eq, l']
        · rw [l'] at hi
          by_cases e : i = S'.length
          · subst e
            rw [getD_app_r]
            simp (disch := omega) only [xI_ne, xI_eq]
            rw [dy, ey]
            exact ⟨rfl, rfl⟩
          · rw [getD_app_l (by omega)]
            simp (disch := omega) only [xI_ne]
            exact s1.2.2 i (by omega)
    · left
      rw [if_neg q] at t1
      refine ⟨(nI (t + 1), μ'), ?_, rfl, f, ff, S', s1, s2, fun y => ?_⟩
      · simp only [fM_findShows_L199, c0, if_false, g293_50 h', Option.bind_some, t1, xc0T, if_true, fM_findShows_264, inc1]
      · rw [s3 y]
        constructor
        · rintro (h1 | ⟨h1, h2⟩)
          · exact Or.inl h1
          · exact Or.inr ⟨h1, by omega⟩
        · rintro (h1 | ⟨h1, h2⟩)
          · exact Or.inl h1
          · refine Or.inr ⟨h1, ?_⟩
            by_cases e : c7 (V v).2.length y = t
            · exact absurd (List.mem_map.mpr ⟨y, h1, e⟩) q
            · omega
  · rintro ⟨x, μ'⟩ ⟨rfl, f, ff, S', s1, s2, s3⟩
    refine ⟨.inl (nI (v + 1), μ'), ?_, Or.inl ⟨μ', S', rfl, f, s1, s2, fun y => ?_⟩⟩
    · simp only [fM_findShows_L199, show (xc 343 ≤ nI 343) = True from by decide, if_true, fM_findShows_270, inc1, Option.map_some]
    · rw [s3 y]
      constructor
      · rintro (⟨u, u1, u2⟩ | ⟨u1, _⟩)
        · exact ⟨u, by omega, u2⟩
        · exact ⟨v, by omega, u1⟩
      · rintro ⟨u, u1, u2⟩
        by_cases e : u = v
        · subst e
          exact Or.inr ⟨u2, c7_lt lh (codeOf_mem bE u2)⟩
        · exact Or.inl ⟨u, by omega, u2⟩
theorem ix10 (v : Nat) : xc 10 + nI v = nI (10 + v) := nI_add 10 v
theorem termsOf_ok (h : Sh μ) {P : xPic} (hv6 : v < 6) (cM : PicM μ (10 + v) P) (w : PicWf P) {g : pG} (b7 : gB 7 g) (hg : pGoes μ g) (hl : ∀ t, t ∈ P.2 → g t ≠ none) : fM_termsOf 293 (nI v) μ = some (nI (c7 P.2.length (pcd v P g))) := by
  have lph := w.2.2.1
  rw [← tw_c7 lph b7]
  unfold fM_termsOf fM_termsOf_0
  rw [gd293 h]
  have tH : ldA μ 303 (nI (10 + v)) = some (nI P.2.length) := by rw [la303 h (by omega), cM.2.1]
  refine xwh_for (fun k => (nI (tw (dig P g) k), nI k)) P.2.length _ (fun k hk => ?_) ?_ P.2.length 0 (by omega)
  · have c0 : ¬ nI P.2.length ≤ nI k := nI_ge hk (by omega)
    have hb := w.tb.head hk
    have hm := getD_memD (d := 0) hk
    have hb2 := (w.2.2.2.2 _ hm).1
    have t1 : ldA μ 304 (nI (3 * (10 + v) + k)) = some (nI (P.2.getD k 0)) := by rw [la304 h (by omega), cM.2.2.2 k hk]
    have t2 : ldA μ 318 (nI (P.2.getD k 0)) = some (nI (dig P g k)) := by
      rw [la318 h hb, hg _ hb]
      congr 1
      have e : dig P g k = pim g (P.2.getD k 0) := by
        unfold dig
        rw [getD_map (d := 0) hk]
      rw [e]
      exact (gI_pim (hl _ hm) (fun t u z => by have := b7 t u z; omega) hb2 (by have := pim7 b7 (Or.inl hb2); omega)).mpr rfl
    dsimp only
    simp only [fM_termsOf_L4, g293_14 h, Option.bind_some, ix10, tH, c0, if_false, g293_38 h, g293_15 h, ix33, t1, t2, inc1]
    rw [show xc 7 * nI (tw (dig P g) k) = nI (7 * tw (dig P g) k) from pk_mul 7 _, nI_add]
    rfl
  · dsimp only
    simp only [fM_termsOf_L4, g293_14 h, Option.bind_some, ix10, tH, Int32.le_refl, if_true, fM_termsOf_47, Option.map_some]
theorem ways_ok (h : Sh μ) (hN : E.2.2 = false) (bE : TB E.1 7) (cE : PicE μ E.1) (lE : E.1.1.length ≤ 12) (hv : v < nv) (n6 : nv ≤ 6) (wv : PicWf (V v)) (cM : PicM μ (10 + v) (V v)) {S : List Nat} (hS : ShowsM μ V S) (hs : Srt S) (hm : ∀ y, y ∈ S ↔ ∃ u, u < v ∧ y ∈ sCodes E V u) (bE2 : ∀ u, u < nv → (V u).2.length ≤ 3) (hf : ∀ t, t < 343 → xI μ 325 t = xc 0) : ∃ a, fM_findShows_158 293 (nI v) μ = some a ∧ ViewP μ E V nv v a := by
  have lh := wv.2.2.1
  have b31 : TB E.1 64 := bE.mono (by decide)
  obtain ⟨⟨r0, μ0⟩, n1, n3, n4⟩ := nextFirst_ok h cM (by omega) wv cE lE b31
  have ev : fM_findShows_158 293 (nI v) μ = xwh (fun s : Int32 × xM => fM_findShows_L168 293 (nI v) s.1 s.2) (r0, μ0) := by
    simp only [fM_findShows_158, ix10, n1, Option.bind_some]
  rw [ev]
  have tailc : ∀ μ', Fr (fun a _ => a = 317 ∨ a = 318 ∨ a = 325) μ μ' → (∀ t, t < 343 → xI μ' 325 t = if t ∈ (phoms E.1.1 (V v).1 gN).map (fun g => c7 (V v).2.length (pcd v (V v) g)) then xc 1 else xc 0) → ∃ a, fM_findShows_196 293 (nI v) μ' = some a ∧ ViewP μ E V nv v a := fun μ' f e => by
    obtain ⟨a, a1, a2⟩ := tail_ok (f.sh h) hN bE hv n6 wv (hS.fr f (fun a k q => by omega)) hs hm bE2 (fun t ht => by
      rw [e t ht]
      unfold sCodes
      rw [List.map_map]
      rfl)
    refine ⟨a, a1, ?_⟩
    have fw := f.mono (W' := W7) (fun a k q => by unfold W7; omega)
    rcases a2 with ⟨μ6, S', b1, b2, b3⟩ | ⟨μ6, b1, b2, b3⟩
    · exact Or.inl ⟨μ6, S', b1, fw.trans b2, b3⟩
    · exact Or.inr ⟨μ6, b1, fw.trans b2, b3⟩
  refine xwh_dec (body := fun s : Int32 × xM => fM_findShows_L168 293 (nI v) s.1 s.2) (fun m s => Fr (fun a _ => a = 317 ∨ a = 318 ∨ a = 325) μ s.2 ∧ ∃ done, (∀ t, t < 343 → xI s.2 325 t = if t ∈ done.map (fun g => c7 (V v).2.length (pcd v (V v) g)) then xc 1 else xc 0) ∧ ((s.1 = xc 0 ∧ phoms E.1.1 (V v).1 gN = done) ∨ ∃ g tl, s.1 = xc 1 ∧ pGoes s.2 g ∧ Way s.2 (V v) E.1 tl ∧ m = tl.length + 1 ∧ phoms E.1.1 (V v).1 gN = done ++ g :: tl)) _ ?_ ((phoms E.1.1 (V v).1 gN).length + 1) (phoms E.1.1 (V v).1 gN).length (r0, μ0) (by omega) ⟨n3.mono (fun a k q => by omega), [], fun t ht => ?_, ?_⟩
  · rintro m ⟨x, μ'⟩ ⟨f, done, d1, hx⟩
    have h' := f.sh h
    rcases hx with ⟨hx, hd⟩ | ⟨g, tl, hx, hg, hw, rfl, hd⟩
    · right
      have hx' : x = xc 0 := hx
      subst hx'
      rw [← hd] at d1
      obtain ⟨a, a1, a2⟩ := tailc μ' f d1
      refine ⟨a, ?_, a2⟩
      simp only [fM_findShows_L168, xc0T, if_true, a1, Option.map_some]
    · left
      have hx' : x = xc 1 := hx
      subst hx'
      have cM' := cM.fr' f (fun a k q => by omega)
      have cE' := cE.fr f (fun a k q => by omega)
      have hgm : g ∈ phoms E.1.1 (V v).1 gN := by rw [hd]; exact List.mem_append_right _ List.mem_cons_self
      have b7 : gB 7 g := phoms_B (fun e he => (bE.1 e he).2) _ _ (gB_gN 7) hgm
      have tO := termsOf_ok h' (by omega) cM' wv b7 hg (fun t ht => head_led wv hgm ht)
      have t343 := c7_lt lh (codeOf_pcd (v := v) (P := V v) b7)
      have k1 : Sh (xsI μ' 325 (c7 (V v).2.length (pcd v (V v) g)) (xc 1)) := h'
      have f1 : Fr (fun a _ => a = 317 ∨ a = 318 ∨ a = 325) μ (xsI μ' 325 (c7 (V v).2.length (pcd v (V v) g)) (xc 1)) := f.s _ (by omega)
      have fx : Fr (fun a _ => a = 325) μ' (xsI μ' 325 (c7 (V v).2.length (pcd v (V v) g)) (xc 1)) := (Fr.refl μ').s _ rfl
      obtain ⟨⟨r1, μ1⟩, m1, m2, m3⟩ := nextMore_ok k1 (cM.fr' f1 (fun a k q => by omega)) (by omega) wv (cE.fr f1 (fun a k q => by omega)) lE b31 (hw.fr fx (fun k => by omega))
      have evb : fM_findShows_L168 293 (nI v) (xc 1) μ' = some (.inl (r1, μ1)) := by
        simp only [fM_findShows_L168, xc1F, if_false, g293_50 h', Option.bind_some, tO, sz325 h' (v := xc 1) t343 (Or.inr rfl), ix10, m1]
      have d2 : ∀ t, t < 343 → xI μ1 325 t = if t ∈ (done ++ [g]).map (fun g => c7 (V v).2.length (pcd v (V v) g)) then xc 1 else xc 0 := fun t ht => by
        rw [m2.I (by omega), List.map_append, List.map_singleton]
        by_cases e : t = c7 (V v).2.length (pcd v (V v) g)
        · rw [if_pos (List.mem_append_right _ (List.mem_singleton.mpr e)), e, xI_eq]
        · rw [xI_ne (by omega), d1 t ht]
          by_cases e2 : t ∈ done.map (fun g => c7 (V v).2.length (pcd v (V v) g))
          · rw [if_pos e2, if_pos (List.mem_append_left _ e2)]
          · rw [if_neg e2, if_neg (fun z => (List.mem_append.mp z).elim e2 (fun z => e (List.mem_singleton.mp z)))]
      have ff : Fr (fun a _ => a = 317 ∨ a = 318 ∨ a = 325) μ μ1 := f1.trans (m2.mono (fun a k q => by omega))
      rcases m3 with ⟨m3, m4⟩ | ⟨g1, tl1, m3, m4, m5, m6, m7⟩
      · refine ⟨(r1, μ1), 0, Nat.succ_pos _, evb, ff, done ++ [g], d2, Or.inl ⟨m4, ?_⟩⟩
        rw [hd, m3]
      · refine ⟨(r1, μ1), tl1.length + 1, ?_, evb, ff, done ++ [g], d2, Or.inr ⟨g1, tl1, m4, m5, m7, rfl, ?_⟩⟩
        · rw [m3, List.length_cons]; omega
        · rw [hd, m3, List.append_assoc]; rfl
  · rw [n3.I (by omega), hf t ht]
    rfl
  · rcases n4 with ⟨n4, n5⟩ | ⟨g, tl, n4, n5, n6', n7, n8⟩
    · exact Or.inl ⟨n5, n4⟩
    · refine Or.inr ⟨g, tl, n5, n6', n8, ?_, n4⟩
      rw [n4, List.length_cons]
theorem view_ok (h : Sh μ) (hN : E.2.2 = false) (bE : TB E.1 7) (cE : PicE μ E.1) (lE : E.1.1.length ≤ 12) (hv : v < nv) (n6 : nv ≤ 6) (wv : PicWf (V v)) (cM : PicM μ (10 + v) (V v)) {S : List Nat} (hS : ShowsM μ V S) (hs : Srt S) (hm : ∀ y, y ∈ S ↔ ∃ u, u < v ∧ y ∈ sCodes E V u) (bE2 : ∀ u, u < nv → (V u).2.length ≤ 3) : ∃ a, xwh (fun s : Int32 × xM => fM_findShows_L138 293 (nI v) s.1 s.2) (xc 0, μ) = some a ∧ ViewP μ E V nv v a := by
  refine xwh_inv (body := fun s : Int32 × xM => fM_findShows_L138 293 (nI v) s.1 s.2) (fun t s => s.1 = nI t ∧ Fr (fun a _ => a = 325) μ s.2 ∧ ∀ u, u < t → xI s.2 325 u = xc 0) _ 343 ?_ ?_ 343 0 _ (by omega) ⟨rfl, Fr.refl μ, fun u hu => absurd hu (Nat.not_lt_zero u)⟩
  · rintro t ⟨x, μ'⟩ ht ⟨rfl, f, e⟩
    left
    have h' := f.sh h
    have c0 : ¬ xc 343 ≤ nI t := nI_ge (b := 343) ht (by decide)
    refine ⟨(nI (t + 1), xsI μ' 325 t (xc 0)), ?_, rfl, f.s _ rfl, fun u hu => ?_⟩
    · simp only [fM_findShows_L138, c0, if_false, g293_50 h', Option.bind_some, sz325 h' (v := xc 0) ht (Or.inl rfl), inc1]
    · by_cases q : u = t
      · subst q; rw [xI_eq]
      · rw [xI_ne (by omega)]; exact e u (by omega)
  · rintro ⟨x, μ'⟩ ⟨rfl, f, e⟩
    obtain ⟨a, a1, a2⟩ := ways_ok (f.sh h) hN bE (cE.fr f (fun a k q => by omega)) lE hv n6 wv (cM.fr' f (fun a k q => by omega)) (hS.fr f (fun a k q => by omega)) hs hm bE2 e
    refine ⟨a, ?_, ?_⟩
    · simp only [fM_findShows_L138, show (xc 343 ≤ nI 343) = True from by decide, if_true, a1, Option.map_some]
    · have fw := f.mono (W' := W7) (fun a k q => by unfold W7; omega)
      rcases a2 with ⟨μ6, S', b1, b2, b3⟩ | ⟨μ6, b1, b2, b3⟩
      · exact Or.inl ⟨μ6, S', b1, fw.trans b2, b3⟩
      · exact Or.inr ⟨μ6, b1, fw.trans b2, b3⟩
/-- all views -/
def AllP (μ : xM) (E : xPic × Nat × Bool) (V : Nat → xPic) (nv : Nat) (a : Int32 × xM) : Prop := Fr W7 μ a.2 ∧ ((a.1 = xc 1 ∧ (pShows E V nv).length ≤ 12 ∧ ShowsM a.2 V (pShows E V nv)) ∨ (a.1 = xc 0 ∧ 12 < (pShows E V nv).length))
theorem views_ok (h : Sh μ) (bE : TB E.1 7) (cE : PicE μ E.1) (lE : E.1.1.length ≤ 12) (e35 : xI μ 293 35 = if E.2.2 then 1 else 0) (e9 : xI μ 293 9 = nI nv) (n6 : nv ≤ 6) (wv : ∀ u, u < nv → PicWf (V u) ∧ PicM μ (10 + u) (V u)) : ∃ a, fM_findShows_109 293 μ = some a ∧ AllP μ E V nv a := by
  unfold fM_findShows_109
  have k1 : Sh (xsI μ 293 39 (xc 0)) := h
  have f0 : Fr W7 μ (xsI (xsI μ 293 39 (xc 0)) 293 40 (xc 0)) := ((Fr.refl μ).s _ (by unfold W7; omega)).s _ (by unfold W7; omega)
  rw [fs293 h, Option.bind_some, fz293 k1 40 (v := xc 0) (Or.inl rfl), Option.bind_some]
  have e39 : xI (xsI (xsI μ 293 39 (xc 0)) 293 40 (xc 0)) 293 39 = nI 0 := by rw [xI_ne (by omega), xI_eq]; rfl
  cases hN : E.2.2 with
  | true =>
    have p0 : pShows E V nv = [] := by unfold pShows; rw [if_pos hN]
    rw [hN] at e35
    refine ⟨(xc 1, xsI (xsI μ 293 39 (xc 0)) 293 40 (xc 0)), xwh_stop ?_, f0, Or.inl ⟨rfl, by rw [p0]; exact Nat.zero_le _, by rw [p0]; exact ⟨Nat.zero_le _, e39, fun i hi => absurd hi (Nat.not_lt_zero i)⟩⟩⟩
    have k2 : Sh (xsI (xsI μ 293 39 (xc 0)) 293 40 (xc 0)) := h
    have e35' : ¬ xI (xsI (xsI μ 293 39 (xc 0)) 293 40 (xc 0)) 293 35 = 0 := by rw [f0.I (by unfold W7; omega), e35]; decide
    have e9' : xI (xsI (xsI μ 293 39 (xc 0)) 293 40 (xc 0)) 293 9 = nI nv := (f0.I (by unfold W7; omega)).trans e9
    by_cases q : nv = 0
    · subst q
      simp only [fM_findShows_L121, f293 k2, e9', Option.bind_some, show (nI 0 ≤ xc 0) = True from by decide, if_true, fM_findShows_276, Option.map_some]
    · have c0 : ¬ nI nv ≤ xc 0 := nI_ge (a := 0) (by omega) (by omega)
      simp only [fM_findShows_L121, f293 k2, e9', Option.bind_some, c0, if_false, e35', fM_findShows_276, Option.map_some]
  | false =>
    rw [hN] at e35
    have e35' : xI μ 293 35 = 0 := e35
    refine xwh_inv (body := fun s : Int32 × xM => fM_findShows_L121 293 s.1 s.2) (fun v s => s.1 = nI v ∧ Fr W7 μ s.2 ∧ ∃ S, ShowsM s.2 V S ∧ Srt S ∧ ∀ y, y ∈ S ↔ ∃ u, u < v ∧ y ∈ sCodes E V u) _ nv ?_ ?_ nv 0 _ (by omega) ⟨rfl, f0, [], ⟨Nat.zero_le _, e39, fun i hi => absurd hi (Nat.not_lt_zero i)⟩, List.Pairwise.nil, fun y => ⟨fun q => absurd q List.not_mem_nil, fun ⟨u, q, _⟩ => absurd q (Nat.not_lt_zero u)⟩⟩
    · rintro v ⟨x, μ'⟩ hv ⟨rfl, f, S, s1, s2, s3⟩
      have h' := f.sh h
      have c0 : ¬ nI nv ≤ nI v := nI_ge hv (by omega)
      obtain ⟨a, a1, a2⟩ := view_ok h' hN bE (cE.fr f (fun a k q => by unfold W7; omega)) lE hv n6 (wv v hv).1 ((wv v hv).2.fr' f (fun a k q => by unfold W7; omega)) s1 s2 s3 (fun u hu => (wv u hu).1.2.2.1)
      have evb : fM_findShows_L121 293 (nI v) μ' = some a := by
        simp only [fM_findShows_L121, f293 h', (f.I (a := 293) (k := 9) (by unfold W7; omega)).trans e9, Option.bind_some, c0, if_false, (f.I (a := 293) (k := 35) (by unfold W7; omega)).trans e35', if_true, a1]
      rcases a2 with ⟨μ6, S', rfl, b2, b3, b4, b5⟩ | ⟨μ6, rfl, b2, b3⟩
      · exact Or.inl ⟨_, evb, rfl, f.trans b2, S', b3, b4, b5⟩
      · exact Or.inr ⟨_, evb, f.trans b2, Or.inr ⟨rfl, b3⟩⟩
    · rintro ⟨x, μ'⟩ ⟨rfl, f, S, s1, s2, s3⟩
      have h' := f.sh h
      have eS : S = pShows E V nv := srt_eq S _ s2 (shows_srt E V nv) (fun y => (s3 y).trans (shows_mem hN bE).symm)
      refine ⟨(xc 1, μ'), ?_, f, Or.inl ⟨rfl, by rw [← eS]; exact s1.1, by rw [← eS]; exact s1⟩⟩
      simp only [fM_findShows_L121, f293 h', (f.I (a := 293) (k := 9) (by unfold W7; omega)).trans e9, Option.bind_some, Int32.le_refl, if_true, fM_findShows_276, Option.map_some]
end SHM
