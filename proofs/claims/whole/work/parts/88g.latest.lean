/-! latest -/
section LATEST
variable {L : Nat} {xs : Nat → Int32} {μ : xM} {A V : Nat → xPic} {na nv T K kb gb : Nat}
/-- hours of a set of views: from, to -/
def spanV (fr to : Nat → Int32) (u : Nat) : Nat → Int32 × Int32
  | 0 => (xc 0, xc 99)
  | v + 1 => if u.testBit v = true then ((if (spanV fr to u v).1 < fr v then fr v else (spanV fr to u v).1), (if to v < (spanV fr to u v).2 then to v else (spanV fr to u v).2)) else spanV fr to u v
def hourV (fr to : Nat → Int32) (u n : Nat) : Int32 := if (spanV fr to u n).2 < (spanV fr to u n).1 then xc (-9) else (spanV fr to u n).2
theorem spanV_suc (fr to : Nat → Int32) (u v : Nat) : spanV fr to u (v + 1) = if u.testBit v = true then ((if (spanV fr to u v).1 < fr v then fr v else (spanV fr to u v).1), (if to v < (spanV fr to u v).2 then to v else (spanV fr to u v).2)) else spanV fr to u v := rfl
theorem spanV_more (fr to : Nat → Int32) {u nv : Nat} (h : u < 2 ^ nv) : ∀ d, spanV fr to u (nv + d) = spanV fr to u nv
  | 0 => rfl
  | d + 1 => (spanV_suc fr to u (nv + d)).trans (by rw [tb_hi h (Nat.le_add_right nv d), if_neg (by decide)]; exact spanV_more fr to h d)
theorem spanV_mono (fr to : Nat → Int32) {w u : Nat} (h : ∀ i, w.testBit i = true → u.testBit i = true) : ∀ n, (spanV fr to w n).1.toInt ≤ (spanV fr to u n).1.toInt ∧ (spanV fr to u n).2.toInt ≤ (spanV fr to w n).2.toInt
  | 0 => ⟨Int.le_refl _, Int.le_refl _⟩
  | n + 1 => by
    obtain ⟨h1, h2⟩ := spanV_mono fr to h n
    rw [spanV_suc, spanV_suc]
    by_cases q : w.testBit n = true
    · rw [if_pos q, if_pos (h n q)]
      dsimp only
      constructor
      · split <;> split <;> (rename_i a b; rw [lt_toInt] at a b; omega)
      · split <;> split <;> (rename_i a b; rw [lt_toInt] at a b; omega)
    · rw [if_neg q]
      by_cases q2 : u.testBit n = true
      · rw [if_pos q2]
        dsimp only
        constructor
        · split
          · rename_i a; rw [lt_toInt] at a; omega
          · exact h1
        · split
          · rename_i a; rw [lt_toInt] at a; omega
          · exact h2
      · rw [if_neg q2]; exact ⟨h1, h2⟩
theorem hourV_mono (fr to : Nat → Int32) {w u : Nat} (h : ∀ i, w.testBit i = true → u.testBit i = true) (n : Nat) : hourV fr to u n = xc (-9) ∨ hourV fr to u n ≤ hourV fr to w n := by
  obtain ⟨h1, h2⟩ := spanV_mono fr to h n
  unfold hourV
  by_cases q : (spanV fr to u n).2 < (spanV fr to u n).1
  · exact Or.inl (if_pos q)
  · right
    rw [if_neg q]
    rw [lt_toInt] at q
    rw [if_neg (by rw [lt_toInt]; omega), le_toInt]
    exact h2
theorem xhour_ok (hh : Sh μ) {u : Nat} (hu : u < 64) : fH_latestHour 3 (nI u) μ = some (hourV (fun v => xI μ 10 v) (fun v => xI μ 11 v) u 6) := by
  unfold fH_latestHour fH_latestHour_0
  rw [gd3 hh]
  refine xwh_for (fun v => ((spanV (fun v => xI μ 10 v) (fun v => xI μ 11 v) u v).1, (spanV (fun v => xI μ 10 v) (fun v => xI μ 11 v) u v).2, nI v)) 6 _ (fun v hv => ?_) ?_ 6 0 (by omega)
  · have c0 : ¬ xc 6 ≤ nI v := nI_ge (b := 6) hv (by decide)
    have ba := nI_bitAt (n := u) (r := v) (by omega) (by omega)
    have t1 : ldA μ 10 (nI v) = some (xI μ 10 v) := ldA_k (kd10 hh) hv (by decide)
    have t2 : ldA μ 11 (nI v) = some (xI μ 11 v) := ldA_k (kd11 hh) hv (by decide)
    dsimp only
    rw [spanV_suc]
    by_cases q : u.testBit v = true
    · rw [if_pos q] at ba ⊢
      simp only [fH_latestHour_L8, c0, if_false, ba, xc1F, g3_14 hh, g3_15 hh, t1, t2, Option.bind_some, fH_latestHour_48, inc1]
    · rw [if_neg q] at ba ⊢
      simp only [fH_latestHour_L8, c0, if_false, ba, xc0T, if_true, fH_latestHour_48, inc1]
  · dsimp only
    unfold hourV
    simp only [fH_latestHour_L8, show (xc 6 ≤ nI 6) = True from by decide, if_true, fH_latestHour_54]
    split <;> rfl
/-- the greatest of some hours -/
def MaxOf (hv : Nat → Int32) (P : Nat → Prop) (r : Int32) : Prop := xc (-9) ≤ r ∧ (∀ u, P u → hv u ≤ r) ∧ (r = xc (-9) ∨ ∃ u, P u ∧ r = hv u)
theorem max_uni {hv : Nat → Int32} {P Q : Nat → Prop} {r s : Int32} (h : MaxOf hv P r) (k : MaxOf hv Q s) (pq : ∀ u, P u → hv u ≤ xc (-9) ∨ ∃ w, Q w ∧ hv u ≤ hv w) (qp : ∀ w, Q w → hv w ≤ xc (-9) ∨ ∃ u, P u ∧ hv w ≤ hv u) : r = s := by
  obtain ⟨h1, h2, h3⟩ := h
  obtain ⟨k1, k2, k3⟩ := k
  have le1 : r ≤ s := by
    rcases h3 with e | ⟨u, hu, e⟩
    · rw [e]; exact k1
    · rw [e]
      rcases pq u hu with z | ⟨w, hw, z⟩
      · exact Int32.le_trans z k1
      · exact Int32.le_trans z (k2 w hw)
  have le2 : s ≤ r := by
    rcases k3 with e | ⟨w, hw, e⟩
    · rw [e]; exact h1
    · rw [e]
      rcases qp w hw with z | ⟨u, hu, z⟩
      · exact Int32.le_trans z h1
      · exact Int32.le_trans z (h2 u hu)
  exact Int32.le_antisymm le1 le2
theorem xmax_ok (hS : SimA L xs μ A V na nv T K kb gb) {j : Nat} (hj : j < na) : ∃ r, xwh (fun s : Int32 × Int32 => fX_latest_L29 2 (213 + 8 * j) s.1 s.2 μ) (xc (-9), xc 0) = some (r, μ) ∧ MaxOf (fun u => hourV (fun v => xI μ 10 v) (fun v => xI μ 11 v) u 6) (fun u => u < 2 ^ nv ∧ lb (xL μ (213 + 8 * j) 5) u = true) r := by
  have hh := hS.sh
  have hn := hS.na10
  have n6 := hS.nv6
  have p64 : 2 ^ nv ≤ 64 := Nat.pow_le_pow_right (n := 2) (by decide) n6
  have e3 : xI μ 3 3 = nI nv := hS.all.2.1.2.2.2.1
  have hs := sight_at hh j (by omega)
  have goal : ∃ a, xwh (fun s : Int32 × Int32 => fX_latest_L29 2 (213 + 8 * j) s.1 s.2 μ) (xc (-9), xc 0) = some a ∧ a.2 = μ ∧ MaxOf (fun u => hourV (fun v => xI μ 10 v) (fun v => xI μ 11 v) u 6) (fun u => u < 2 ^ nv ∧ lb (xL μ (213 + 8 * j) 5) u = true) a.1 := by
    refine xwh_inv (body := fun s : Int32 × Int32 => fX_latest_L29 2 (213 + 8 * j) s.1 s.2 μ) (fun i s => s.2 = nI i ∧ MaxOf (fun u => hourV (fun v => xI μ 10 v) (fun v => xI μ 11 v) u 6) (fun u => u < i ∧ lb (xL μ (213 + 8 * j) 5) u = true) s.1) _ (2 ^ nv) ?_ ?_ (2 ^ nv) 0 _ (by omega) ⟨rfl, Int32.le_refl _, fun u hu => absurd hu.1 (Nat.not_lt_zero u), Or.inl rfl⟩
    · rintro i ⟨h, x⟩ hi ⟨rfl, m1, m2, m3⟩
      left
      have c0 : ¬ nI (2 ^ nv) ≤ nI i := nI_ge hi (by omega)
      have xb := xcovBy_ok hs (u := i) (by omega)
      have xh := xhour_ok hh (u := i) (by omega)
      by_cases q : lb (xL μ (213 + 8 * j) 5) i = true
      · rw [if_pos q] at xb
        refine ⟨((if h < hourV (fun v => xI μ 10 v) (fun v => xI μ 11 v) i 6 then hourV (fun v => xI μ 10 v) (fun v => xI μ 11 v) i 6 else h), nI (i + 1)), ?_, rfl, ?_⟩
        · simp only [fX_latest_L29, g2_0 hh, f3 hh, e3, Option.bind_some, nI_bit (show nv < 32 by omega), c0, if_false, xb, xc1F, xh, fX_latest_68, inc1]
        · dsimp only
          by_cases z : h < hourV (fun v => xI μ 10 v) (fun v => xI μ 11 v) i 6
          · rw [if_pos z]
            refine ⟨Int32.le_trans m1 (Int32.le_of_lt z), fun u hu => ?_, Or.inr ⟨i, ⟨by omega, q⟩, rfl⟩⟩
            by_cases e : u = i
            · rw [e]; exact Int32.le_refl _
            · exact Int32.le_trans (m2 u ⟨by have := hu.1; omega, hu.2⟩) (Int32.le_of_lt z)
          · rw [if_neg z]
            refine ⟨m1, fun u hu => ?_, m3.imp id (fun ⟨u, y1, y2⟩ => ⟨u, ⟨by have := y1.1; omega, y1.2⟩, y2⟩)⟩
            by_cases e : u = i
            · rw [e]; exact Int32.not_lt.mp z
            · exact m2 u ⟨by have := hu.1; omega, hu.2⟩
      · rw [if_neg q] at xb
        refine ⟨(h, nI (i + 1)), ?_, rfl, m1, fun u hu => ?_, m3.imp id (fun ⟨u, y1, y2⟩ => ⟨u, ⟨by have := y1.1; omega, y1.2⟩, y2⟩)⟩
        · simp only [fX_latest_L29, g2_0 hh, f3 hh, e3, Option.bind_some, nI_bit (show nv < 32 by omega), c0, if_false, xb, xc0T, if_true, fX_latest_68, inc1]
        · by_cases e : u = i
          · rw [e] at hu; exact absurd hu.2 q
          · exact m2 u ⟨by have := hu.1; omega, hu.2⟩
    · rintro ⟨h, x⟩ ⟨rfl, m⟩
      refine ⟨(h, μ), ?_, rfl, m⟩
      simp only [fX_latest_L29, g2_0 hh, f3 hh, e3, Option.bind_some, nI_bit (show nv < 32 by omega), Int32.le_refl, if_true, fX_latest_74, Option.map_some]
  obtain ⟨⟨r, μ1⟩, g1, rfl, g2⟩ := goal
  exact ⟨r, g1, g2⟩
theorem mspan_ok (hh : Sh μ) (e9 : xI μ 293 9 = nI nv) (n6 : nv ≤ 6) {fr to : Nat → Int32} (hf : ∀ v, v < nv → xI μ 309 v = fr v) (ht : ∀ v, v < nv → xI μ 310 v = to v) {u : Nat} (hu : u < 64) {v2 v3 : Int32} {r : (Int32 × Int32) ⊕ (Int32 × xM)} (hr : fM_latest_142 293 v2 v3 (spanV fr to u nv).1 (spanV fr to u nv).2 μ = some r) : xwh (fun s : Int32 × Int32 × Int32 => fM_latest_L64 293 v2 v3 (nI u) s.1 s.2.1 s.2.2 μ) (xc 0, xc 99, xc 0) = some r := by
  refine xwh_for (fun v => ((spanV fr to u v).1, (spanV fr to u v).2, nI v)) nv _ (fun v hv => ?_) ?_ nv 0 (by omega)
  · have c0 : ¬ nI nv ≤ nI v := nI_ge hv (by omega)
    have mb := mbit (set := u) (i := v) (by omega) (by omega)
    have t1 : ldA μ 309 (nI v) = some (fr v) := by rw [la309 hh (by omega), hf v hv]
    have t2 : ldA μ 310 (nI v) = some (to v) := by rw [la310 hh (by omega), ht v hv]
    dsimp only
    rw [spanV_suc]
    by_cases q : u.testBit v = true
    · have mb' := mb.mpr q
      rw [if_pos q]
      generalize (spanV fr to u v).1 = lo
      generalize (spanV fr to u v).2 = hi
      by_cases z1 : lo < fr v
      · have z1' : ¬ fr v ≤ lo := Int32.not_le.mpr z1
        by_cases z2 : to v < hi
        · have z2' : ¬ hi ≤ to v := Int32.not_le.mpr z2
          simp only [fM_latest_L64, f293 hh, e9, Option.bind_some, c0, if_false, mb', if_true, g293_20 hh, t1, z1', fM_latest_108, g293_21 hh, t2, z2', fM_latest_134, fM_latest_136, inc1, z1, z2]
        · have z2' : hi ≤ to v := Int32.not_lt.mp z2
          simp only [fM_latest_L64, f293 hh, e9, Option.bind_some, c0, if_false, mb', if_true, g293_20 hh, t1, z1', fM_latest_108, g293_21 hh, t2, z2', fM_latest_134, fM_latest_136, inc1, z1, z2]
      · have z1' : fr v ≤ lo := Int32.not_lt.mp z1
        by_cases z2 : to v < hi
        · have z2' : ¬ hi ≤ to v := Int32.not_le.mpr z2
          simp only [fM_latest_L64, f293 hh, e9, Option.bind_some, c0, if_false, mb', if_true, g293_20 hh, t1, z1', fM_latest_108, g293_21 hh, t2, z2', fM_latest_134, fM_latest_136, inc1, z1, z2]
        · have z2' : hi ≤ to v := Int32.not_lt.mp z2
          simp only [fM_latest_L64, f293 hh, e9, Option.bind_some, c0, if_false, mb', if_true, g293_20 hh, t1, z1', fM_latest_108, g293_21 hh, t2, z2', fM_latest_134, fM_latest_136, inc1, z1, z2]
    · have mb' : ¬ (nI u >>> (nI v &&& 31)) &&& xc 1 = xc 1 := fun w => q (mb.mp w)
      rw [if_neg q]
      simp only [fM_latest_L64, f293 hh, e9, Option.bind_some, c0, if_false, mb', fM_latest_136, inc1]
  · dsimp only
    simp only [fM_latest_L64, f293 hh, e9, Option.bind_some, Int32.le_refl, if_true, hr, Option.map_some]
theorem mmax_ok {sh CL : List Nat} (h : MBase μ V nv sh) (hC : CovsM μ CL) (clb : ∀ x, x ∈ CL → x < 4096) (cl : CL.length ≤ 299) (e9 : xI μ 293 9 = nI nv) {fr to : Nat → Int32} (hf : ∀ v, v < nv → xI μ 309 v = fr v) (ht : ∀ v, v < nv → xI μ 310 v = to v) : ∃ r, xwh (fun s : Int32 × Int32 => fM_latest_L34 293 s.1 s.2 μ) (xc (-9), xc 0) = some (r, μ) ∧ MaxOf (fun u => hourV fr to u nv) (fun u => ∃ x, x ∈ CL ∧ vB sh x = u) r := by
  have hh := h.1
  have n6 := h.2.2.1
  have shv : ∀ x, x ∈ sh → x < 3072 := fun x hx => by have := (h.2.2.2.1 x hx).1; omega
  have goal : ∃ a, xwh (fun s : Int32 × Int32 => fM_latest_L34 293 s.1 s.2 μ) (xc (-9), xc 0) = some a ∧ a.2 = μ ∧ MaxOf (fun u => hourV fr to u nv) (fun u => ∃ x, x ∈ CL ∧ vB sh x = u) a.1 := by
    refine xwh_inv (body := fun s : Int32 × Int32 => fM_latest_L34 293 s.1 s.2 μ) (fun c s => s.2 = nI c ∧ MaxOf (fun u => hourV fr to u nv) (fun u => ∃ x, x ∈ CL.take c ∧ vB sh x = u) s.1) _ CL.length ?_ ?_ CL.length 0 _ (by omega) ⟨rfl, Int32.le_refl _, fun u ⟨x, hx, _⟩ => absurd hx List.not_mem_nil, Or.inl rfl⟩
    · rintro c ⟨b, y⟩ hc ⟨rfl, m1, m2, m3⟩
      left
      have c0 : ¬ nI CL.length ≤ nI c := nI_ge hc (by omega)
      have tC : ldA μ 327 (nI c) = some (nI (CL.getD c 0)) := by rw [la327 hh (by omega), hC.2 c hc]
      have hx := clb _ (getD_memD (d := 0) hc)
      have vo := mviewsOf_ok h (set := CL.getD c 0) (by omega)
      have vlt := vB_lt (set := CL.getD c 0) shv
      have tk := take_succD CL c 0 hc
      have mem : ∀ u, (∃ x, x ∈ CL.take (c + 1) ∧ vB sh x = u) ↔ (∃ x, x ∈ CL.take c ∧ vB sh x = u) ∨ u = vB sh (CL.getD c 0) := fun u => by
        rw [tk]
        constructor
        · rintro ⟨x, z1, z2⟩
          rcases List.mem_append.mp z1 with z | z
          · exact Or.inl ⟨x, z, z2⟩
          · rw [List.mem_singleton.mp z] at z2; exact Or.inr z2.symm
        · rintro (⟨x, z1, z2⟩ | z)
          · exact ⟨x, List.mem_append_left _ z1, z2⟩
          · exact ⟨_, List.mem_append_right _ (List.mem_singleton.mpr rfl), z.symm⟩
      have e142 : fM_latest_142 293 b (nI c) (spanV fr to (vB sh (CL.getD c 0)) nv).1 (spanV fr to (vB sh (CL.getD c 0)) nv).2 μ = some (.inl ((if b < hourV fr to (vB sh (CL.getD c 0)) nv then hourV fr to (vB sh (CL.getD c 0)) nv else b), nI (c + 1))) := by
        unfold hourV
        generalize (spanV fr to (vB sh (CL.getD c 0)) nv).1 = lo
        generalize (spanV fr to (vB sh (CL.getD c 0)) nv).2 = hi
        by_cases q : hi < lo
        · have nb : ¬ b < xc (-9) := Int32.not_lt.mpr m1
          simp only [fM_latest_142, q, if_true, nb, if_false, fM_latest_160, fM_latest_161, inc1]
        · by_cases q2 : b < hi
          · have q2' : ¬ hi ≤ b := Int32.not_le.mpr q2
            simp only [fM_latest_142, q, if_false, q2', q2, if_true, fM_latest_161, inc1]
          · have q2' : hi ≤ b := Int32.not_lt.mp q2
            simp only [fM_latest_142, q, if_false, q2', q2, if_true, fM_latest_160, fM_latest_161, inc1]
      have sp := mspan_ok hh e9 n6 hf ht (u := vB sh (CL.getD c 0)) vlt e142
      refine ⟨((if b < hourV fr to (vB sh (CL.getD c 0)) nv then hourV fr to (vB sh (CL.getD c 0)) nv else b), nI (c + 1)), ?_, rfl, ?_⟩
      · simp only [fM_latest_L34, f293 hh, hC.1, Option.bind_some, c0, if_false, g293_53 hh, tC, vo]
        exact sp
      · dsimp only
        by_cases z : b < hourV fr to (vB sh (CL.getD c 0)) nv
        · rw [if_pos z]
          refine ⟨Int32.le_trans m1 (Int32.le_of_lt z), fun u hu => ?_, Or.inr ⟨_, (mem _).mpr (Or.inr rfl), rfl⟩⟩
          rcases (mem u).mp hu with y | y
          · exact Int32.le_trans (m2 u y) (Int32.le_of_lt z)
          · rw [y]; exact Int32.le_refl _
        · rw [if_neg z]
          refine ⟨m1, fun u hu => ?_, m3.imp id (fun ⟨u, y1, y2⟩ => ⟨u, (mem u).mpr (Or.inl y1), y2⟩)⟩
          rcases (mem u).mp hu with y | y
          · exact m2 u y
          · rw [y]; exact Int32.not_lt.mp z
    · rintro ⟨b, y⟩ ⟨rfl, m⟩
      rw [List.take_length] at m
      refine ⟨(b, μ), ?_, rfl, m⟩
      simp only [fM_latest_L34, f293 hh, hC.1, Option.bind_some, Int32.le_refl, if_true, fM_latest_168, Option.map_some]
  obtain ⟨⟨r, μ1⟩, g1, rfl, g2⟩ := goal
  exact ⟨r, g1, g2⟩
theorem sim_latest (a1 : Int32) (hS : Sim L xs μ) : SimR L xs (fX_latest 2 a1 μ) (fun μ => fM_latest 293 a1 μ) := by
  obtain ⟨A, V, na, nv, T, K, kb, gb, hA⟩ := simA_iff.mp hS
  have hh := hS.sh
  have hn := hA.na10
  have n6 := hA.nv6
  have all := hA.all
  rcases off_or na (by omega) a1 with q | ⟨j, hj, rfl⟩
  · refine sim_refuse 1 hS (by decide) (by decide) ?_ (fun μ1 h1 h2 => ?_)
    · simp only [fX_latest, fX_latest_0, gd2 hh, xspent_no hh all.2.1.2.2.1 q, Option.bind_some, m1F, if_false, bind_eta]
      rfl
    · simp only [fM_latest, fM_latest_0, gd293 h1, mask_no h1 ((h2 _ _ (by decide)).trans all.2.2.1.1) (by omega) q, Option.bind_some, xc0T, if_true, bind_eta]
      rfl
  · have ma : ∀ z, Sh z → xI z 293 8 = nI na → fM_isAsk 293 (nI j) z = some (xc 1) := fun z hz e => mask_yes hz e (by omega) hj
    obtain ⟨μ1, s1, s2, s3, s4, s5⟩ := xspent_ok hA hj
    have h1 := s1.sh
    have hm1 := s1.all.2.2.1.1
    by_cases q : 12 < (pShows (pEnd K (A j)) V nv).length
    · rw [if_pos q] at s5
      refine sim_refuse2 5 s1.sim (by decide) (by decide) ?_ (fun μ2 h1' h2' => ?_)
      · simp only [fX_latest, fX_latest_0, gd2 hh, s5, Option.bind_some, m5F, if_false, bind_eta]
        rfl
      · obtain ⟨r, μ3, m1, m2, m3⟩ := mCovers_ok (s1.mside.eq h1' h2') hj
        rcases m3 with ⟨m3, _⟩ | ⟨_, m3, _⟩
        · refine ⟨μ3, m2.mono (fun a k q => WFC_scr q), ?_⟩
          simp only [fM_latest, fM_latest_0, gd293 h1', ma μ2 h1' ((h2' _ _ (by decide)).trans hm1), Option.bind_some, xc1F, if_false, m1, m3, xc0T, if_true, bind_eta]
          rfl
        · exact absurd q (by omega)
    · rw [if_neg q] at s5
      have hl : (pShows (pEnd K (A j)) V nv).length ≤ 12 := by omega
      have hp := pow_le12 hl
      obtain ⟨μ2, t1, t2, t3, t4, t5, t6⟩ := thr_ok s1 hj
      have h2 := t2.sh
      have th := t6 hl
      obtain ⟨r, μ3, m1, m2, m3⟩ := mCovers_ok t2.mside hj
      rcases m3 with ⟨_, m3⟩ | ⟨m3, _, qb, CL, c1, c2, c3⟩
      · exact absurd m3 q
      · subst m3
        have hsz := t2.all.2.2.2.2.2.1
        have clb : ∀ x, x ∈ CL → x < 4096 := fun x hx => by have := ((c2 x).mp hx).1; omega
        obtain ⟨r1, x1, x2⟩ := xmax_ok t2 hj
        obtain ⟨r2, y1, y2⟩ := mmax_ok qb.1 c3 clb (cl_len hl c1 c2) ((m2.I (by unfold WFC; omega)).trans t2.all.2.2.1.2.1) (fr := fun v => xI μ2 10 v) (to := fun v => xI μ2 11 v) (fun v hv => (m2.I (by unfold WFC; omega)).trans (hsz v hv).2.2.1) (fun v hv => (m2.I (by unfold WFC; omega)).trans (hsz v hv).2.2.2)
        have shv : ∀ x, x ∈ pShows (pEnd K (A j)) V nv → x < 512 * nv := fun x hx => shows_lt hx
        have vlt : ∀ x, vB (pShows (pEnd K (A j)) V nv) x < 2 ^ nv := fun x => orUp_lt _ (fun i hi => by
          have := shv _ (getD_memD (d := 0) hi)
          split
          · exact Nat.pow_lt_pow_right (by decide) (by omega)
          · exact Nat.two_pow_pos _)
        have p64 : 2 ^ nv ≤ 64 := Nat.pow_le_pow_right (n := 2) (by decide) n6
        have h6 : ∀ u, u < 2 ^ nv → hourV (fun v => xI μ2 10 v) (fun v => xI μ2 11 v) u 6 = hourV (fun v => xI μ2 10 v) (fun v => xI μ2 11 v) u nv := fun u hu => by
          have := spanV_more (fun v => xI μ2 10 v) (fun v => xI μ2 11 v) hu (6 - nv)
          rw [show nv + (6 - nv) = 6 by omega] at this
          unfold hourV
          rw [this]
        have x2' : MaxOf (fun u => hourV (fun v => xI μ2 10 v) (fun v => xI μ2 11 v) u nv) (fun u => u < 2 ^ nv ∧ lb (xL μ2 (213 + 8 * j) 5) u = true) r1 := ⟨x2.1, fun u hu => by
          have := x2.2.1 u hu
          dsimp only at this ⊢
          rw [h6 u hu.1] at this
          exact this, x2.2.2.imp id (fun ⟨u, hu, e⟩ => ⟨u, hu, by dsimp only at e ⊢; rw [e, h6 u hu.1]⟩)⟩
        have er : r1 = r2 := by
          refine max_uni x2' y2 (fun u hu => ?_) (fun w hw => ?_)
          · obtain ⟨x, z1, z2⟩ := (covered_iff th c2 (by have := hu.1; omega)).mp hu.2
            rcases hourV_mono (fun v => xI μ2 10 v) (fun v => xI μ2 11 v) z2 nv with e | e
            · exact Or.inl (by rw [e]; exact Int32.le_refl _)
            · exact Or.inr ⟨_, ⟨x, z1, rfl⟩, e⟩
          · obtain ⟨x, z1, rfl⟩ := hw
            exact Or.inr ⟨_, ⟨vlt x, (covered_iff th c2 (by have := vlt x; omega)).mpr ⟨x, z1, fun i hi => hi⟩⟩, Int32.le_refl _⟩
        subst er
        refine sim_ans (r := r1) (μ2 := μ3) t2.sim ?_ ?_ (m2.mono (fun a k q => WFC_scr q))
        · simp only [fX_latest, fX_latest_0, gd2 hh, s5, Option.bind_some, xc0T, if_true, t1]
          exact x1
        · simp only [fM_latest, fM_latest_0, gd293 h2, ma μ2 h2 t2.all.2.2.1.1, Option.bind_some, xc1F, if_false, m1]
          exact y1
end LATEST
