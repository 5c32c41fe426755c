section SURE
theorem keyed_c : ∀ n, n < 16 → ((nI n &&& xc 3 = xc 3) ↔ (n.testBit 0 = true ∧ n.testBit 1 = true)) ∧ ((nI n &&& xc 12 = xc 12) ↔ (n.testBit 2 = true ∧ n.testBit 3 = true)) := by decide +kernel
theorem keyed_ok {w t : Nat} (hw : w < 4096) (ht : t < 3) (μ : xM) : ∃ r, fM_isKeyed ((nI w >>> (((xc 4) * nI t) &&& 31)) &&& (xc 15)) μ = some r ∧ Tells r (∀ x, x < 2 → ¬ (w.testBit (4 * t + 2 * x) = true ∧ w.testBit (4 * t + 2 * x + 1) = true)) := by
  have e : (nI w >>> (((xc 4) * nI t) &&& 31)) &&& (xc 15) = nI (w / 2 ^ (4 * t) &&& 15) := by
    rw [show xc 4 = nI 4 from rfl, pk_mul, nI_shr (by omega) (by omega), show xc 15 = nI 15 from rfl, nI_and]
  have lt : w / 2 ^ (4 * t) &&& 15 < 16 := Nat.lt_of_le_of_lt Nat.and_le_right (by decide)
  have b : ∀ j, j < 4 → (w / 2 ^ (4 * t) &&& 15).testBit j = w.testBit (4 * t + j) := fun j hj => by
    rw [Nat.testBit_and, Nat.testBit_div_two_pow, show 15 = 2 ^ 4 - 1 from rfl, Nat.testBit_two_pow_sub_one, decide_eq_true hj, Bool.and_true, Nat.add_comm]
  obtain ⟨k1, k2⟩ := keyed_c _ lt
  rw [b 0 (by decide), b 1 (by decide)] at k1
  rw [b 2 (by decide), b 3 (by decide)] at k2
  rw [e]
  unfold fM_isKeyed fM_isKeyed_0 fM_isKeyed_20
  by_cases q1 : nI (w / 2 ^ (4 * t) &&& 15) &&& xc 3 = xc 3
  · rw [if_pos q1]
    exact ⟨xc 0, rfl, Or.inr ⟨rfl, fun h => h 0 (by decide) (k1.mp q1)⟩⟩
  · rw [if_neg q1]
    by_cases q2 : nI (w / 2 ^ (4 * t) &&& 15) &&& xc 12 = xc 12
    · rw [if_pos q2]
      exact ⟨xc 0, rfl, Or.inr ⟨rfl, fun h => h 1 (by decide) (k2.mp q2)⟩⟩
    · rw [if_neg q2]
      refine ⟨xc 1, rfl, Or.inl ⟨rfl, fun x hx h => ?_⟩⟩
      obtain rfl | rfl : x = 0 ∨ x = 1 := by omega
      · exact q1 (k1.mpr h)
      · exact q2 (k2.mpr h)
def KpM (μ : xM) (nv kb : Nat) (kp : Nat → Int32) : Prop := ∀ v, v < nv → (kb.testBit v = true → (∃ a, a < 256 ∧ kp v = nI a) ∧ xI μ 305 v = kp v) ∧ (kb.testBit v = false → xI μ 305 v = -1)
theorem SimA.kpm {L : Nat} {xs : Nat → Int32} {μ : xM} {A V : Nat → xPic} {na nv T K kb gb : Nat} (h : SimA L xs μ A V na nv T K kb gb) : KpM μ nv kb (fun v => xI μ 6 v) := fun v hv => by
  have := h.all.2.2.2.2.1 v hv
  exact ⟨fun q => by obtain ⟨a, a1, a2, a3⟩ := this.1 q; exact ⟨⟨a, a1, a2⟩, a3.trans a2.symm⟩, this.2⟩
theorem KpM.fr {μ μ' : xM} {nv kb : Nat} {kp : Nat → Int32} {W : Nat → Nat → Prop} (h : KpM μ nv kb kp) (f : Fr W μ μ') (d : ∀ k, ¬ W 305 k) : KpM μ' nv kb kp := fun v hv => by
  rw [f.I (d v)]
  exact h v hv
variable {μ : xM} {A V : Nat → xPic} {na nv K kb : Nat} {kp : Nat → Int32}
theorem isWorld_ok (h : MSide μ A V na nv K) (hk : KpM μ nv kb kp) {w : Nat} (hw : w < 4096) : ∃ r, fM_isWorld 293 (nI w) μ = some r ∧ Tells r (IsW V nv K kb kp w) := by
  obtain ⟨hh, e8, e9, na10, n6, hK, hA, hV⟩ := h
  have part2 : ∀ v2, Tells v2 (KeyW K 3 w) → ∃ r, fM_isWorld_48 293 (nI w) v2 μ = some r ∧ Tells r (IsW V nv K kb kp w) := fun v2 hv2 => by
    unfold fM_isWorld_48
    refine xwh_inv (body := fun z : Int32 × Int32 => fM_isWorld_L50 293 (nI w) z.1 z.2 μ) (fun i z => z.2 = nI i ∧ Tells z.1 (KeyW K 3 w ∧ ∀ v, v < i → kb.testBit v = true → kp v = nI (pAns (V v) w))) _ nv ?_ ?_ nv 0 _ (by omega) ⟨rfl, hv2.iff ⟨fun y => ⟨y, fun v hv => absurd hv (Nat.not_lt_zero v)⟩, fun y => y.1⟩⟩
    · rintro i ⟨v2, x⟩ hi ⟨rfl, t⟩
      have c0 : ¬ nI nv ≤ nI i := nI_ge hi (by omega)
      dsimp only at t
      rcases t with ⟨rfl, y1, y2⟩ | ⟨rfl, y⟩
      · left
        have l5 : ldA μ 305 (nI i) = some (xI μ 305 i) := la305 hh (by omega)
        by_cases q : kb.testBit i = false
        · refine ⟨(xc 1, nI (i + 1)), ?_, rfl, Or.inl ⟨rfl, y1, fun v hv hb => ?_⟩⟩
          · simp only [fM_isWorld_L50, f293 hh, e9, Option.bind_some, c0, if_false, xc1F, g293_16 hh, l5, (hk i hi).2 q, show ((-1 : Int32) < 0) = True from by decide, if_true, fM_isWorld_89, fM_isWorld_94, inc1]
          · by_cases z : v = i
            · subst z; rw [q] at hb; exact absurd hb (by decide)
            · exact y2 v (by omega) hb
        · have q' : kb.testBit i = true := by simpa using q
          obtain ⟨⟨an, an1, an2⟩, an3⟩ := (hk i hi).1 q'
          have np : ¬ nI an < 0 := nI_pos (by omega)
          have ma := mans_ok hh (hV i hi).2 (by omega) (hV i hi).1 hw
          by_cases q2 : nI (pAns (V i) w) = nI an
          · refine ⟨(xc 1, nI (i + 1)), ?_, rfl, Or.inl ⟨rfl, y1, fun v hv hb => ?_⟩⟩
            · simp only [fM_isWorld_L50, f293 hh, e9, Option.bind_some, c0, if_false, xc1F, g293_16 hh, l5, an3, an2, np, ix10, ma, eq_true q2, if_true, fM_isWorld_89, fM_isWorld_94, inc1]
            · by_cases z : v = i
              · subst z; rw [an2, q2]
              · exact y2 v (by omega) hb
          · refine ⟨(xc 0, nI (i + 1)), ?_, rfl, Or.inr ⟨rfl, fun y => q2 ?_⟩⟩
            · simp only [fM_isWorld_L50, f293 hh, e9, Option.bind_some, c0, if_false, xc1F, g293_16 hh, l5, an3, an2, np, ix10, ma, eq_false q2, fM_isWorld_94, inc1]
            · rw [← an2, y.2 i (by omega) q']
      · right
        refine ⟨xc 0, ?_, Or.inr ⟨rfl, fun z => y ⟨z.1, fun v hv => z.2 v (by omega)⟩⟩⟩
        simp only [fM_isWorld_L50, f293 hh, e9, Option.bind_some, c0, if_false, xc0T, if_true, fM_isWorld_101, true_or, Option.map_some]
    · rintro ⟨v2, x⟩ ⟨rfl, t⟩
      dsimp only at t
      refine ⟨v2, ?_, t⟩
      simp only [fM_isWorld_L50, f293 hh, e9, Option.bind_some, Int32.le_refl, if_true, fM_isWorld_101, eq_true t.zo, Option.map_some]
  unfold fM_isWorld fM_isWorld_0
  rw [gd293 hh]
  refine xwh_inv (body := fun z : Int32 × Int32 => fM_isWorld_L4 293 (nI w) z.1 z.2 μ) (fun i z => z.2 = nI i ∧ Tells z.1 (KeyW K i w)) _ 3 ?_ ?_ 3 0 _ (by omega) ⟨rfl, Or.inl ⟨rfl, fun t ht => absurd ht (Nat.not_lt_zero t)⟩⟩
  · rintro i ⟨v2, x⟩ hi ⟨rfl, t⟩
    left
    dsimp only at t
    have c0 : ¬ xc 3 ≤ nI i := nI_ge (b := 3) hi (by decide)
    rcases t with ⟨rfl, y⟩ | ⟨rfl, y⟩
    · have l5 : ldAZ μ 295 (nI i) = some (if K.testBit i then xc 1 else xc 0) := by rw [lz295 hh hi, hK i hi]
      by_cases q : K.testBit i = true
      · obtain ⟨r, k1, k2⟩ := keyed_ok hw hi μ
        rw [if_pos q] at l5
        rcases k2 with ⟨rfl, k2⟩ | ⟨rfl, k2⟩
        · refine ⟨(xc 1, nI (i + 1)), ?_, rfl, Or.inl ⟨rfl, fun t ht hb => ?_⟩⟩
          · simp only [fM_isWorld_L4, c0, if_false, xc1F, g293_1 hh, l5, Option.bind_some, k1, fM_isWorld_36, fM_isWorld_41, inc1]
          · by_cases z : t = i
            · subst z; exact k2
            · exact y t (by omega) hb
        · refine ⟨(xc 0, nI (i + 1)), ?_, rfl, Or.inr ⟨rfl, fun z => k2 (z i (by omega) q)⟩⟩
          simp only [fM_isWorld_L4, c0, if_false, xc1F, g293_1 hh, l5, Option.bind_some, k1, xc0T, if_true, fM_isWorld_40, fM_isWorld_41, inc1]
      · rw [if_neg q] at l5
        refine ⟨(xc 1, nI (i + 1)), ?_, rfl, Or.inl ⟨rfl, fun t ht hb => ?_⟩⟩
        · simp only [fM_isWorld_L4, c0, if_false, xc1F, g293_1 hh, l5, Option.bind_some, xc0T, if_true, fM_isWorld_36, fM_isWorld_41, inc1]
        · by_cases z : t = i
          · subst z; exact absurd hb q
          · exact y t (by omega) hb
    · refine ⟨(xc 0, nI (i + 1)), ?_, rfl, Or.inr ⟨rfl, fun z => y (fun t ht => z t (by omega))⟩⟩
      simp only [fM_isWorld_L4, c0, if_false, xc0T, if_true, fM_isWorld_40, fM_isWorld_41, inc1]
  · rintro ⟨v2, x⟩ ⟨rfl, t⟩
    obtain ⟨r, g1, g2⟩ := part2 v2 t
    refine ⟨r, ?_, g2⟩
    simp only [fM_isWorld_L4, show (xc 3 ≤ nI 3) = True from by decide, if_true, g1, Option.map_some]
/-- rows in all worlds' answers, or in some -/
def SureB (P : xPic) (Q : Nat → Prop) (all : Bool) (a : Nat) : Prop := a < 256 ∧ ∀ j, j < 8 → (a.testBit j = true ↔ (if all = true then (∀ w, w < 4096 → Q w → (pAns P w).testBit j = true) else ∃ w, w < 4096 ∧ Q w ∧ (pAns P w).testBit j = true))
theorem sure_uni {P : xPic} {Q Q' : Nat → Prop} {all : Bool} {a b : Nat} (e : ∀ w, w < 4096 → (Q w ↔ Q' w)) (h : SureB P Q all a) (k : SureB P Q' all b) : a = b := by
  apply Nat.eq_of_testBit_eq
  intro j
  by_cases q : j < 8
  · have x := h.2 j q
    have y := k.2 j q
    have z : (if all = true then (∀ w, w < 4096 → Q w → (pAns P w).testBit j = true) else ∃ w, w < 4096 ∧ Q w ∧ (pAns P w).testBit j = true) ↔ (if all = true then (∀ w, w < 4096 → Q' w → (pAns P w).testBit j = true) else ∃ w, w < 4096 ∧ Q' w ∧ (pAns P w).testBit j = true) := by
      split
      · exact ⟨fun h w hw hq => h w hw ((e w hw).mpr hq), fun h w hw hq => h w hw ((e w hw).mp hq)⟩
      · exact ⟨fun ⟨w, hw, hq, hb⟩ => ⟨w, hw, (e w hw).mp hq, hb⟩, fun ⟨w, hw, hq, hb⟩ => ⟨w, hw, (e w hw).mpr hq, hb⟩⟩
    rw [z, ← y] at x
    exact Bool.eq_iff_iff.mpr x
  · rw [Nat.testBit_lt_two_pow (Nat.lt_of_lt_of_le (show a < 2 ^ 8 from h.1) (Nat.pow_le_pow_right (by decide) (by omega))), Nat.testBit_lt_two_pow (Nat.lt_of_lt_of_le (show b < 2 ^ 8 from k.1) (Nat.pow_le_pow_right (by decide) (by omega)))]
def WSu (a k : Nat) : Prop := a = 293 ∧ 54 ≤ k ∧ k ≤ 56
theorem findSure_ok (h : MSide μ A V na nv K) (hk : KpM μ nv kb kp) {q : Nat} {P : xPic} (hq : q < 16) (hP : PicWf P) (cP : PicM μ q P) : ∃ μ1 a s c, fM_findSure 293 (nI q) μ = some μ1 ∧ Fr WSu μ μ1 ∧ xI μ1 293 54 = nI a ∧ xI μ1 293 55 = nI s ∧ xI μ1 293 56 = nI c ∧ c ≤ 4096 ∧ (c = 0 ↔ ¬ ∃ w, w < 4096 ∧ IsW V nv K kb kp w) ∧ SureB P (IsW V nv K kb kp) true a ∧ SureB P (IsW V nv K kb kp) false s := by
  have hh := h.1
  have goal : ∃ μ1, fM_findSure 293 (nI q) μ = some μ1 ∧ ∃ a s c, Fr WSu μ μ1 ∧ xI μ1 293 54 = nI a ∧ xI μ1 293 55 = nI s ∧ xI μ1 293 56 = nI c ∧ c ≤ 4096 ∧ (c = 0 ↔ ¬ ∃ w, w < 4096 ∧ IsW V nv K kb kp w) ∧ SureB P (IsW V nv K kb kp) true a ∧ SureB P (IsW V nv K kb kp) false s := by
    have f0 : Fr WSu μ (xsI (xsI (xsI μ 293 54 (xc 255)) 293 55 (xc 0)) 293 56 (xc 0)) := (((Fr.refl μ).s _ ⟨rfl, by omega, by omega⟩).s _ ⟨rfl, by omega, by omega⟩).s _ ⟨rfl, by omega, by omega⟩
    have s1 : Sh (xsI μ 293 54 (xc 255)) := hh
    have s2 : Sh (xsI (xsI μ 293 54 (xc 255)) 293 55 (xc 0)) := hh
    unfold fM_findSure fM_findSure_0
    rw [gd293 hh, fs293 hh, Option.bind_some, fs293 s1, Option.bind_some, fs293 s2, Option.bind_some]
    refine xwh_inv (body := fun z : Int32 × xM => fM_findSure_L19 293 (nI q) z.1 z.2) (fun i z => z.1 = nI i ∧ ∃ a s c, Fr WSu μ z.2 ∧ xI z.2 293 54 = nI a ∧ xI z.2 293 55 = nI s ∧ xI z.2 293 56 = nI c ∧ c ≤ i ∧ (c = 0 ↔ ¬ ∃ w, w < i ∧ IsW V nv K kb kp w) ∧ (a < 256 ∧ s < 256) ∧ ∀ j, j < 8 → (a.testBit j = true ↔ ∀ w, w < i → IsW V nv K kb kp w → (pAns P w).testBit j = true) ∧ (s.testBit j = true ↔ ∃ w, w < i ∧ IsW V nv K kb kp w ∧ (pAns P w).testBit j = true)) _ 4096 ?_ ?_ 4096 0 _ (by omega) ⟨rfl, 255, 0, 0, f0, rfl, rfl, rfl, Nat.le_refl _, ⟨fun _ ⟨w, hw, _⟩ => absurd hw (Nat.not_lt_zero w), fun _ => rfl⟩, ⟨by decide, by decide⟩, fun j hj => ⟨⟨fun _ w hw => absurd hw (Nat.not_lt_zero w), fun _ => ?_⟩, ⟨fun y => ?_, fun ⟨w, hw, _⟩ => absurd hw (Nat.not_lt_zero w)⟩⟩⟩
    · rintro i ⟨x, μ'⟩ hi ⟨rfl, a, s, c, f, e1, e2, e3, cl, c0', al, bits⟩
      left
      dsimp only at f e1 e2 e3
      have h' := f.sh hh
      have c0 : ¬ xc 4096 ≤ nI i := nI_ge (b := 4096) hi (by decide)
      have hM : MSide μ' A V na nv K := by
        refine h.fr (f.mono (fun a k q => ?_))
        unfold WSu at q; unfold Scratch; omega
      obtain ⟨r, i1, i2⟩ := isWorld_ok hM (hk.fr f (fun k => by unfold WSu; omega)) (w := i) (by omega)
      rcases i2 with ⟨rfl, i2⟩ | ⟨rfl, i2⟩
      · have ma := mans_ok h' (cP.fr (fun a k q r => f.I (by unfold WSu; omega))) hq hP (W := i) (by omega)
        have pl := pAns_lt (P := P) (W := i) hP.2.2.1
        have s1 : Sh (xsI μ' 293 54 (nI (a &&& pAns P i))) := h'
        have s2 : Sh (xsI (xsI μ' 293 54 (nI (a &&& pAns P i))) 293 55 (nI (s ||| pAns P i))) := h'
        have v55 : xI (xsI μ' 293 54 (nI (a &&& pAns P i))) 293 55 = nI s := (xI_ne (by omega)).trans e2
        have v56 : xI (xsI (xsI μ' 293 54 (nI (a &&& pAns P i))) 293 55 (nI (s ||| pAns P i))) 293 56 = nI c := ((xI_ne (by omega)).trans (xI_ne (by omega))).trans e3
        refine ⟨(nI (i + 1), xsI (xsI (xsI μ' 293 54 (nI (a &&& pAns P i))) 293 55 (nI (s ||| pAns P i))) 293 56 (nI (c + 1))), ?_, rfl, a &&& pAns P i, s ||| pAns P i, c + 1, ((f.s _ ⟨rfl, by omega, by omega⟩).s _ ⟨rfl, by omega, by omega⟩).s _ ⟨rfl, by omega, by omega⟩, ?_, ?_, xI_eq _ _ _ _, by omega, ⟨fun z => absurd z (by omega), fun z => absurd ⟨i, by omega, i2⟩ z⟩, ⟨Nat.lt_of_le_of_lt Nat.and_le_left al.1, Nat.or_lt_two_pow (n := 8) al.2 pl⟩, fun j hj => ⟨?_, ?_⟩⟩
        · simp only [fM_findSure_L19, c0, if_false, i1, Option.bind_some, xc1F, ma, f293 h', e1, nI_and, fs293 h', f293 s1, v55, nI_or, fs293 s1, f293 s2, v56, inc1, fs293 s2, fM_findSure_71]
        · exact ((xI_ne (by omega)).trans (xI_ne (by omega))).trans (xI_eq _ _ _ _)
        · exact (xI_ne (by omega)).trans (xI_eq _ _ _ _)
        · rw [Nat.testBit_and, Bool.and_eq_true, (bits j hj).1]
          constructor
          · rintro ⟨y1, y2⟩ w hw hq'
            by_cases z : w = i
            · subst z; exact y2
            · exact y1 w (by omega) hq'
          · exact fun y => ⟨fun w hw => y w (by omega), y i (by omega) i2⟩
        · rw [Nat.testBit_or, Bool.or_eq_true, (bits j hj).2]
          constructor
          · rintro (⟨w, y1, y2⟩ | y)
            · exact ⟨w, by omega, y2⟩
            · exact ⟨i, by omega, i2, y⟩
          · rintro ⟨w, y1, y2, y3⟩
            by_cases z : w = i
            · subst z; exact Or.inr y3
            · exact Or.inl ⟨w, by omega, y2, y3⟩
      · refine ⟨(nI (i + 1), μ'), ?_, rfl, a, s, c, f, e1, e2, e3, by omega, c0'.trans (not_congr ⟨fun ⟨w, y1, y2⟩ => ⟨w, by omega, y2⟩, fun ⟨w, y1, y2⟩ => ⟨w, ?_, y2⟩⟩), al, fun j hj => ⟨(bits j hj).1.trans ⟨fun y w hw hq' => y w ?_ hq', fun y w hw => y w (by omega)⟩, (bits j hj).2.trans ⟨fun ⟨w, y1, y2⟩ => ⟨w, by omega, y2⟩, fun ⟨w, y1, y2⟩ => ⟨w, ?_, y2⟩⟩⟩⟩
        · simp only [fM_findSure_L19, c0, if_false, i1, Option.bind_some, xc0T, if_true, fM_findSure_71, inc1]
        · by_cases z : w = i
          · subst z; exact absurd y2 i2
          · omega
        · by_cases z : w = i
          · subst z; exact absurd hq' i2
          · omega
        · by_cases z : w = i
          · subst z; exact absurd y2.1 i2
          · omega
    · rintro ⟨x, μ'⟩ ⟨rfl, a, s, c, f, e1, e2, e3, cl, c0', al, bits⟩
      refine ⟨μ', ?_, a, s, c, f, e1, e2, e3, cl, c0', ⟨al.1, fun j hj => ?_⟩, ⟨al.2, fun j hj => ?_⟩⟩
      · simp only [fM_findSure_L19, show (xc 4096 ≤ nI 4096) = True from by decide, if_true]
      · rw [if_pos rfl]; exact (bits j hj).1
      · rw [if_neg (by decide)]; exact (bits j hj).2
    · rw [show 255 = 2 ^ 8 - 1 from rfl, Nat.testBit_two_pow_sub_one, decide_eq_true hj]
    · rw [Nat.zero_testBit] at y; exact absurd y (by decide)
  obtain ⟨μ1, g1, a, s, c, g2⟩ := goal
  exact ⟨μ1, a, s, c, g1, g2⟩
end SURE
