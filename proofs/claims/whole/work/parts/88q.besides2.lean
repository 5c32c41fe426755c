section BESIDESM
variable {μ : xM} {A V : Nat → xPic} {na nv K kb T : Nat} {kp : Nat → Int32} {P : xPic} {W : Nat → Prop}
def WB (a k : Nat) : Prop := 328 ≤ a ∧ a ≤ 330
theorem WB_scr {b k : Nat} (h : WB b k) : Scratch b k := by unfold WB at h; unfold Scratch; omega
/-- worlds, their answers, and where views differ -/
def TabW (μ : xM) (V : Nat → xPic) (nv T : Nat) (P : xPic) (W : Nat → Prop) (n m : Nat) : Prop := (∀ w, w < n → Tells (xI μ 328 w) (W w) ∧ (W w → xI μ 329 w = nI (pAns P w))) ∧ ∀ v, v < m → ∀ w, w < 4096 → Tells (xI μ 330 (4096 * v + w)) (W w ∧ ¬ pAns (V v) w = pAns (V v) T)
theorem settM_ok (hh : Sh μ) (n6 : nv ≤ 6) (e9 : xI μ 293 9 = nI nv) (wP : PicWf P) (ht : TabW μ V nv T P W 4096 nv) {u : Nat} (hu : u < 2 ^ nv) : ∃ r, fM_isSettled 293 (nI u) μ = some r ∧ Tells r (SetW V nv T P W u) := by
  have p64 : 2 ^ nv ≤ 64 := Nat.pow_le_pow_right (n := 2) (by decide) n6
  have pl : ∀ w, pAns P w < 256 := fun w => pAns_lt wP.2.2.1
  have inner : ∀ w, w < 4096 → ∀ (v2 : Int32) x, (∀ v4, Tells v4 (W w ∧ AgrW V nv T u w) → fM_isSettled_74 293 (nI u) v2 (nI w) v4 μ = some x) → xwh (fun s : Int32 × Int32 => fM_isSettled_L22 293 (nI u) v2 (nI w) s.1 s.2 μ) (xI μ 328 w, xc 0) = some x := fun w hw v2 x hx => by
    have goal : ∃ a, xwh (fun s : Int32 × Int32 => fM_isSettled_L22 293 (nI u) v2 (nI w) s.1 s.2 μ) (xI μ 328 w, xc 0) = some a ∧ a = x := by
      refine xwh_inv (body := fun s : Int32 × Int32 => fM_isSettled_L22 293 (nI u) v2 (nI w) s.1 s.2 μ) (fun i z => z.2 = nI i ∧ Tells z.1 (W w ∧ ∀ v, v < i → u.testBit v = true → pAns (V v) w = pAns (V v) T)) _ nv ?_ ?_ nv 0 _ (by omega) ⟨rfl, ((ht.1 w hw).1).iff ⟨fun y => ⟨y, fun v hv => absurd hv (Nat.not_lt_zero v)⟩, fun y => y.1⟩⟩
      · rintro i ⟨v4, y⟩ hi ⟨rfl, t⟩
        dsimp only at t
        have c0 : ¬ nI nv ≤ nI i := nI_ge hi (by omega)
        rcases t with ⟨rfl, t1, t2⟩ | ⟨rfl, t⟩
        · left
          have b1 := bitAt0 (n := u) (by omega) (r := i) (by omega)
          have ix : (xc 4096 * nI i) + nI w = nI (4096 * i + w) := by rw [show xc 4096 = nI 4096 from rfl, pk_mul, nI_add]
          have l1 : ldAZ μ 330 (nI (4096 * i + w)) = some (xI μ 330 (4096 * i + w)) := lz330 hh (by omega)
          by_cases q : u.testBit i = false
          · refine ⟨(xc 1, nI (i + 1)), ?_, rfl, Or.inl ⟨rfl, t1, fun v hv hb => ?_⟩⟩
            · simp only [fM_isSettled_L22, f293 hh, e9, Option.bind_some, c0, if_false, xc1F, b1, eq_true q, if_true, fM_isSettled_61, fM_isSettled_66, inc1]
            · by_cases z : v = i
              · subst z; rw [q] at hb; exact absurd hb (by decide)
              · exact t2 v (by omega) hb
          · have q' : u.testBit i = true := by simpa using q
            rcases ht.2 i hi w hw with ⟨d1, d2⟩ | ⟨d1, d2⟩
            · refine ⟨(xc 0, nI (i + 1)), ?_, rfl, Or.inr ⟨rfl, fun z => d2.2 (z.2 i (by omega) q')⟩⟩
              simp only [fM_isSettled_L22, f293 hh, e9, Option.bind_some, c0, if_false, xc1F, b1, eq_false q, g293_59 hh, ix, l1, d1, fM_isSettled_66, inc1]
            · refine ⟨(xc 1, nI (i + 1)), ?_, rfl, Or.inl ⟨rfl, t1, fun v hv hb => ?_⟩⟩
              · simp only [fM_isSettled_L22, f293 hh, e9, Option.bind_some, c0, if_false, xc1F, b1, eq_false q, g293_59 hh, ix, l1, d1, xc0T, if_true, fM_isSettled_61, fM_isSettled_66, inc1]
              · by_cases z : v = i
                · subst z; exact Classical.byContradiction (fun n => d2 ⟨t1, n⟩)
                · exact t2 v (by omega) hb
        · right
          have := hx (xc 0) (Or.inr ⟨rfl, fun z => t ⟨z.1, fun v hv => z.2 v (by omega)⟩⟩)
          refine ⟨x, ?_, rfl⟩
          simp only [fM_isSettled_L22, f293 hh, e9, Option.bind_some, c0, if_false, xc0T, if_true, this, Option.map_some]
      · rintro ⟨v4, y⟩ ⟨rfl, t⟩
        refine ⟨x, ?_, rfl⟩
        simp only [fM_isSettled_L22, f293 hh, e9, Option.bind_some, Int32.le_refl, if_true, hx v4 t, Option.map_some]
    obtain ⟨a, g1, rfl⟩ := goal
    exact g1
  unfold fM_isSettled fM_isSettled_0
  rw [gd293 hh]
  refine xwh_inv (body := fun s : Int32 × Int32 => fM_isSettled_L4 293 (nI u) s.1 s.2 μ) (fun i z => z.2 = nI i ∧ ((z.1 = xc (-1) ∧ ∀ w, w < i → ¬ (W w ∧ AgrW V nv T u w)) ∨ ∃ w0, w0 < i ∧ W w0 ∧ AgrW V nv T u w0 ∧ z.1 = nI (pAns P w0) ∧ ∀ w, w < i → W w → AgrW V nv T u w → pAns P w = pAns P w0)) _ 4096 ?_ ?_ 4096 0 _ (by omega) ⟨rfl, Or.inl ⟨rfl, fun w hw => absurd hw (Nat.not_lt_zero w)⟩⟩
  · rintro i ⟨v2, y⟩ hi ⟨rfl, I⟩
    dsimp only at I
    have c0 : ¬ xc 4096 ≤ nI i := nI_ge (b := 4096) hi (by decide)
    have l8 : ldAZ μ 328 (nI i) = some (xI μ 328 i) := lz328 hh hi
    have l9 : ldA μ 329 (nI i) = some (xI μ 329 i) := la329 hh hi
    have bod : fM_isSettled_L4 293 (nI u) v2 (nI i) μ = xwh (fun s : Int32 × Int32 => fM_isSettled_L22 293 (nI u) v2 (nI i) s.1 s.2 μ) (xI μ 328 i, xc 0) := by
      simp only [fM_isSettled_L4, c0, if_false, g293_57 hh, Option.bind_some, l8]
    by_cases q : W i ∧ AgrW V nv T u i
    · have e329 := (ht.1 i hi).2 q.1
      have t1 : ∀ v4, Tells v4 (W i ∧ AgrW V nv T u i) → v4 = xc 1 := fun v4 t => t.elim (fun z => z.1) (fun z => absurd q z.2)
      rcases I with ⟨rfl, I⟩ | ⟨w0, w1, w2, w3, rfl, w4⟩
      · left
        refine ⟨(nI (pAns P i), nI (i + 1)), ?_, rfl, Or.inr ⟨i, by omega, q.1, q.2, rfl, fun w hw x1 x2 => ?_⟩⟩
        · dsimp only
          rw [bod]
          refine inner i hi _ _ (fun v4 t => ?_)
          rw [t1 v4 t]
          simp only [fM_isSettled_74, xc1F, if_false, show (xc (-1) < 0) = True from by decide, if_true, fM_isSettled_95, g293_58 hh, Option.bind_some, l9, e329, fM_isSettled_102, inc1]
        · by_cases z : w = i
          · rw [z]
          · exact absurd ⟨x1, x2⟩ (I w (by omega))
      · have np : ¬ nI (pAns P w0) < 0 := nI_pos (by have := pl w0; omega)
        by_cases e : pAns P i = pAns P w0
        · left
          refine ⟨(nI (pAns P i), nI (i + 1)), ?_, rfl, Or.inr ⟨w0, by omega, w2, w3, by rw [e], fun w hw x1 x2 => ?_⟩⟩
          · dsimp only
            rw [bod]
            refine inner i hi _ _ (fun v4 t => ?_)
            rw [t1 v4 t]
            simp only [fM_isSettled_74, xc1F, if_false, np, g293_58 hh, Option.bind_some, l9, e329, eq_true (show nI (pAns P i) = nI (pAns P w0) by rw [e]), if_true, fM_isSettled_95, fM_isSettled_102, inc1]
          · by_cases z : w = i
            · rw [z, e]
            · exact w4 w (by omega) x1 x2
        · right
          have e' : ¬ nI (pAns P i) = nI (pAns P w0) := fun z => e (nI_inj (by have := pl i; omega) (by have := pl w0; omega) z)
          refine ⟨xc 0, ?_, Or.inr ⟨rfl, fun z => e (z.2 i w0 hi (by omega) q.1 q.2 w2 w3)⟩⟩
          dsimp only
          rw [bod]
          refine inner i hi _ _ (fun v4 t => ?_)
          rw [t1 v4 t]
          simp only [fM_isSettled_74, xc1F, if_false, np, g293_58 hh, Option.bind_some, l9, e329, eq_false e', fM_isSettled_93, Option.map_some]
    · have t0 : ∀ v4, Tells v4 (W i ∧ AgrW V nv T u i) → v4 = xc 0 := fun v4 t => t.elim (fun z => absurd z.2 q) (fun z => z.1)
      left
      refine ⟨(v2, nI (i + 1)), ?_, rfl, ?_⟩
      · dsimp only
        rw [bod]
        refine inner i hi _ _ (fun v4 t => ?_)
        rw [t0 v4 t]
        simp only [fM_isSettled_74, xc0T, if_true, fM_isSettled_102, inc1]
      · rcases I with ⟨rfl, I⟩ | ⟨w0, w1, w2, w3, rfl, w4⟩
        · refine Or.inl ⟨rfl, fun w hw => ?_⟩
          by_cases z : w = i
          · rw [z]; exact q
          · exact I w (by omega)
        · refine Or.inr ⟨w0, by omega, w2, w3, rfl, fun w hw x1 x2 => ?_⟩
          by_cases z : w = i
          · rw [z] at x1 x2; exact absurd ⟨x1, x2⟩ q
          · exact w4 w (by omega) x1 x2
  · rintro ⟨v2, y⟩ ⟨rfl, I⟩
    dsimp only at I
    rcases I with ⟨rfl, I⟩ | ⟨w0, w1, w2, w3, rfl, w4⟩
    · refine ⟨xc 0, ?_, Or.inr ⟨rfl, fun ⟨⟨w, x1, x2⟩, _⟩ => I w x1 x2⟩⟩
      simp only [fM_isSettled_L4, show (xc 4096 ≤ nI 4096) = True from by decide, if_true, fM_isSettled_108, show (xc (-1) < 0) = True from by decide, Option.map_some]
    · have np : ¬ nI (pAns P w0) < 0 := nI_pos (by have := pl w0; omega)
      refine ⟨xc 1, ?_, Or.inl ⟨rfl, ⟨w0, w1, w2, w3⟩, fun w w' hw hw' x1 x2 y1 y2 => (w4 w hw x1 x2).trans (w4 w' hw' y1 y2).symm⟩⟩
      simp only [fM_isSettled_L4, show (xc 4096 ≤ nI 4096) = True from by decide, if_true, fM_isSettled_108, np, if_false, Option.map_some]
/-- views that are not kept, as a mask -/
def nkB (nv kb : Nat) : Nat := orUp (fun v => if kb.testBit v = true then 0 else 2 ^ v) nv
theorem nkB_bit {v : Nat} : (nkB nv kb).testBit v = true ↔ v < nv ∧ kb.testBit v = false := by
  unfold nkB
  rw [orUp_bit]
  constructor
  · rintro ⟨i, h1, h2⟩
    by_cases q : kb.testBit i = true
    · rw [if_pos q, Nat.zero_testBit] at h2
      exact absurd h2 (by decide)
    · rw [if_neg q, Nat.testBit_two_pow, decide_eq_true_eq] at h2
      subst h2
      exact ⟨h1, Bool.eq_false_iff.mpr q⟩
  · rintro ⟨h1, h2⟩
    exact ⟨v, h1, by rw [if_neg (by rw [h2]; decide), Nat.testBit_two_pow_self]⟩
theorem nk_and {u : Nat} (hu : u < 2 ^ nv) (hu32 : u < 2 ^ 32) : pSub u (nkB nv kb) ↔ u &&& kb = 0 := by
  rw [pSub_iff hu32]
  constructor
  · intro h
    apply Nat.eq_of_testBit_eq
    intro j
    rw [Nat.testBit_and, Nat.zero_testBit]
    cases q : u.testBit j with
    | false => rfl
    | true => rw [(nkB_bit.mp (h j q)).2]; rfl
  · intro h j hj
    refine nkB_bit.mpr ⟨?_, ?_⟩
    · apply Classical.byContradiction
      intro n
      rw [Nat.testBit_lt_two_pow (Nat.lt_of_lt_of_le hu (Nat.pow_le_pow_right (by decide) (by omega)))] at hj
      exact absurd hj (by decide)
    · have : (u &&& kb).testBit j = false := by rw [h, Nat.zero_testBit]
      rw [Nat.testBit_and, hj, Bool.true_and] at this
      exact this
theorem mleast_ok (hh : Sh μ) (n6 : nv ≤ 6) (e9 : xI μ 293 9 = nI nv) (wP : PicWf P) (ht : TabW μ V nv T P W 4096 nv) : ∃ r, fM_besides_192 293 (nI (nkB nv kb)) μ = some (r, μ) ∧ LeastOn (BesQ V nv T kb P W) r := by
  have p64 : 2 ^ nv ≤ 64 := Nat.pow_le_pow_right (n := 2) (by decide) n6
  have goal : ∃ a, fM_besides_192 293 (nI (nkB nv kb)) μ = some a ∧ a.2 = μ ∧ LeastOn (BesQ V nv T kb P W) a.1 := by
    unfold fM_besides_192
    refine xwh_inv (body := fun s : Int32 × Int32 => fM_besides_L198 293 (nI (nkB nv kb)) s.1 s.2 μ) (fun i z => z.2 = nI i ∧ ((∃ b, b < i ∧ z.1 = nI b ∧ BesQ V nv T kb P W b ∧ ∀ x, x < i → BesQ V nv T kb P W x → onesN 12 b < onesN 12 x ∨ onesN 12 b = onesN 12 x ∧ b ≤ x) ∨ (z.1 = xc (-9) ∧ ∀ x, x < i → ¬ BesQ V nv T kb P W x))) _ (2 ^ nv) ?_ ?_ (2 ^ nv) 0 _ (by omega) ⟨rfl, Or.inr ⟨rfl, fun x hx => absurd hx (Nat.not_lt_zero x)⟩⟩
    · rintro i ⟨v3, y⟩ hi ⟨rfl, I⟩
      left
      dsimp only at I
      have c0 : ¬ nI (2 ^ nv) ≤ nI i := nI_ge hi (by omega)
      have ak : (nI i &&& (nI (nkB nv kb) ^^^ xc (-1)) = 0) = (i &&& kb = 0) := propext ((pSub_w (by omega)).trans (nk_and hi (by omega)))
      have keep : ¬ BesQ V nv T kb P W i → (∃ b, b < i + 1 ∧ v3 = nI b ∧ BesQ V nv T kb P W b ∧ ∀ x, x < i + 1 → BesQ V nv T kb P W x → onesN 12 b < onesN 12 x ∨ onesN 12 b = onesN 12 x ∧ b ≤ x) ∨ (v3 = xc (-9) ∧ ∀ x, x < i + 1 → ¬ BesQ V nv T kb P W x) := fun q => by
        rcases I with ⟨b, b1, b2, b3, b4⟩ | ⟨b1, b2⟩
        · refine Or.inl ⟨b, by omega, b2, b3, fun x hx hq => ?_⟩
          by_cases z : x = i
          · subst z; exact absurd hq q
          · exact b4 x (by omega) hq
        · refine Or.inr ⟨b1, fun x hx => ?_⟩
          by_cases z : x = i
          · subst z; exact q
          · exact b2 x (by omega)
      by_cases q1 : i &&& kb = 0
      · obtain ⟨r, s1, s2⟩ := settM_ok hh n6 e9 wP ht hi
        have on1 := ones_ok (f := 12) (n := i) (by omega) (by decide) μ
        have o1 := onesN_le 12 i
        have qe : BesQ V nv T kb P W i ↔ SetW V nv T P W i := ⟨fun z => z.2.2, fun z => ⟨hi, q1, z⟩⟩
        have e234 : ∀ v3', fM_besides_234 293 (nI (nkB nv kb)) v3' (nI i) μ = some (.inl (if r = 0 then v3' else nI i, nI (i + 1))) := fun v3' => by
          unfold fM_besides_234
          rw [s1, Option.bind_some]
          by_cases z : r = 0
          · simp only [eq_true z, if_true, fM_besides_249, fM_besides_250, inc1]
          · simp only [eq_false z, if_false, fM_besides_249, fM_besides_250, inc1]
        rcases I with ⟨b, b1, rfl, b3, b4⟩ | ⟨rfl, b2⟩
        · have np : ¬ nI b < 0 := nI_pos (by omega)
          have on2 := ones_ok (f := 12) (n := b) (by omega) (by decide) μ
          have o2 := onesN_le 12 b
          by_cases q2 : onesN 12 i < onesN 12 b
          · have q2' : ¬ nI (onesN 12 b) ≤ nI (onesN 12 i) := nI_ge q2 (by omega)
            have bod : fM_besides_L198 293 (nI (nkB nv kb)) (nI b) (nI i) μ = some (.inl (if r = 0 then nI b else nI i, nI (i + 1))) := by
              simp only [fM_besides_L198, f293 hh, e9, Option.bind_some, nI_bit (show nv < 32 by omega), c0, if_false, ak, eq_true q1, if_true, np, on1, on2, q2', e234]
            rcases s2 with ⟨rfl, s2⟩ | ⟨rfl, s2⟩
            · refine ⟨(nI i, nI (i + 1)), ?_, rfl, Or.inl ⟨i, by omega, rfl, qe.mpr s2, fun x hx hq => ?_⟩⟩
              · dsimp only; rw [bod]; rfl
              · by_cases z : x = i
                · subst z; omega
                · have := b4 x (by omega) hq; omega
            · refine ⟨(nI b, nI (i + 1)), ?_, rfl, keep (fun z => s2 (qe.mp z))⟩
              dsimp only; rw [bod]; rfl
          · have q2' : nI (onesN 12 b) ≤ nI (onesN 12 i) := nI_le (by omega) (by omega)
            refine ⟨(nI b, nI (i + 1)), ?_, rfl, Or.inl ⟨b, by omega, rfl, b3, fun x hx hq => ?_⟩⟩
            · simp only [fM_besides_L198, f293 hh, e9, Option.bind_some, nI_bit (show nv < 32 by omega), c0, if_false, ak, eq_true q1, if_true, np, on1, on2, q2', fM_besides_250, inc1]
            · by_cases z : x = i
              · subst z; omega
              · exact b4 x (by omega) hq
        · have bod : fM_besides_L198 293 (nI (nkB nv kb)) (xc (-9)) (nI i) μ = some (.inl (if r = 0 then xc (-9) else nI i, nI (i + 1))) := by
            simp only [fM_besides_L198, f293 hh, e9, Option.bind_some, nI_bit (show nv < 32 by omega), c0, if_false, ak, eq_true q1, if_true, show (xc (-9) < 0) = True from by decide, e234]
          rcases s2 with ⟨rfl, s2⟩ | ⟨rfl, s2⟩
          · refine ⟨(nI i, nI (i + 1)), ?_, rfl, Or.inl ⟨i, by omega, rfl, qe.mpr s2, fun x hx hq => ?_⟩⟩
            · dsimp only; rw [bod]; rfl
            · by_cases z : x = i
              · subst z; omega
              · exact absurd hq (b2 x (by omega))
          · refine ⟨(xc (-9), nI (i + 1)), ?_, rfl, keep (fun z => s2 (qe.mp z))⟩
            dsimp only; rw [bod]; rfl
      · refine ⟨(v3, nI (i + 1)), ?_, rfl, keep (fun z => q1 z.2.1)⟩
        simp only [fM_besides_L198, f293 hh, e9, Option.bind_some, nI_bit (show nv < 32 by omega), c0, if_false, ak, eq_false q1, fM_besides_250, inc1]
    · rintro ⟨v3, y⟩ ⟨rfl, I⟩
      dsimp only at I
      refine ⟨(v3, μ), ?_, rfl, ?_⟩
      · simp only [fM_besides_L198, f293 hh, e9, Option.bind_some, nI_bit (show nv < 32 by omega), Int32.le_refl, if_true, fM_besides_256, Option.map_some]
      · rcases I with ⟨b, b1, b2, b3, b4⟩ | ⟨b1, b2⟩
        · exact Or.inl ⟨b, b3, b2, fun x hx => b4 x hx.1 hx⟩
        · exact Or.inr ⟨fun x hx => b2 x hx.1 hx, b1⟩
  obtain ⟨⟨r, μ1⟩, g1, rfl, g2⟩ := goal
  exact ⟨r, g1, g2⟩
theorem mdiff_ok (h : MSide μ A V na nv K) (wP : PicWf P) (hT : HT μ T K) (T12 : T < 4096) (ht : TabW μ V nv T P W 4096 0) : ∃ μ1, Fr WB μ μ1 ∧ TabW μ1 V nv T P W 4096 nv ∧ fM_besides_102 293 (nI (nkB nv kb)) μ = fM_besides_192 293 (nI (nkB nv kb)) μ1 := by
  have hh := h.1
  have n6 := h.2.2.2.2.1
  have goal : ∃ a, fM_besides_102 293 (nI (nkB nv kb)) μ = some a ∧ ∃ μ1, Fr WB μ μ1 ∧ TabW μ1 V nv T P W 4096 nv ∧ some a = fM_besides_192 293 (nI (nkB nv kb)) μ1 := by
    unfold fM_besides_102
    refine xwh_inv (body := fun s : Int32 × xM => fM_besides_L104 293 (nI (nkB nv kb)) s.1 s.2) (fun i z => z.1 = nI i ∧ Fr WB μ z.2 ∧ TabW z.2 V nv T P W 4096 i) _ nv ?_ ?_ nv 0 _ (by omega) ⟨rfl, Fr.refl μ, ht⟩
    · rintro i ⟨x, μ'⟩ hi ⟨rfl, f, tb⟩
      left
      dsimp only at f tb
      have hM : MSide μ' A V na nv K := h.fr (f.mono (fun a k q => WB_scr q))
      have h' := hM.1
      have c0 : ¬ nI nv ≤ nI i := nI_ge hi (by omega)
      have e9' := hM.2.2.1
      have wn : fM_worldNow 293 μ' = some (nI T) := world_now h' (hT.fr f (fun k _ => by unfold WB; omega)) T12
      have pV := hM.2.2.2.2.2.2.2 i hi
      have ma := mans_ok h' pV.2 (by omega) pV.1 T12
      have inner : ∃ a, xwh (fun s : Int32 × xM => fM_besides_L129 293 (nI (nkB nv kb)) (nI i) (nI (pAns (V i) T)) s.1 s.2) (xc 0, μ') = some a ∧ ∃ μ1, a = .inl (nI (i + 1), μ1) ∧ Fr WB μ μ1 ∧ TabW μ1 V nv T P W 4096 (i + 1) := by
        refine xwh_inv (body := fun s : Int32 × xM => fM_besides_L129 293 (nI (nkB nv kb)) (nI i) (nI (pAns (V i) T)) s.1 s.2) (fun w z => z.1 = nI w ∧ Fr WB μ z.2 ∧ TabW z.2 V nv T P W 4096 i ∧ ∀ w', w' < w → Tells (xI z.2 330 (4096 * i + w')) (W w' ∧ ¬ pAns (V i) w' = pAns (V i) T)) _ 4096 ?_ ?_ 4096 0 _ (by omega) ⟨rfl, f, tb, fun w' hw => absurd hw (Nat.not_lt_zero w')⟩
        · rintro w ⟨x, μ2⟩ hw ⟨rfl, f2, tb2, tl⟩
          left
          dsimp only at f2 tb2 tl
          have hM2 : MSide μ2 A V na nv K := h.fr (f2.mono (fun a k q => WB_scr q))
          have h2 := hM2.1
          have pV2 := hM2.2.2.2.2.2.2.2 i hi
          have ma2 := mans_ok h2 pV2.2 (by omega) pV2.1 hw
          have cw : ¬ xc 4096 ≤ nI w := nI_ge (b := 4096) hw (by decide)
          have l8 : ldAZ μ2 328 (nI w) = some (xI μ2 328 w) := lz328 h2 hw
          have ix : (xc 4096 * nI i) + nI w = nI (4096 * i + w) := by rw [show xc 4096 = nI 4096 from rfl, pk_mul, nI_add]
          have put : ∀ v, (v = 0 ∨ v = 1) → Tells v (W w ∧ ¬ pAns (V i) w = pAns (V i) T) → (stAZ μ2 330 (nI (4096 * i + w)) v = some (xsI μ2 330 (4096 * i + w) v)) ∧ Fr WB μ (xsI μ2 330 (4096 * i + w) v) ∧ TabW (xsI μ2 330 (4096 * i + w) v) V nv T P W 4096 i ∧ ∀ w', w' < w + 1 → Tells (xI (xsI μ2 330 (4096 * i + w) v) 330 (4096 * i + w')) (W w' ∧ ¬ pAns (V i) w' = pAns (V i) T) := fun v hv tv => by
            refine ⟨sz330 h2 (by omega) hv, f2.s _ ⟨by decide, by decide⟩, ⟨fun w' hw' => ?_, fun v' hv' w' hw' => ?_⟩, fun w' hw' => ?_⟩
            · rw [xI_ne (by omega), xI_ne (by omega)]; exact tb2.1 w' hw'
            · rw [xI_ne (by omega)]; exact tb2.2 v' hv' w' hw'
            · by_cases z : w' = w
              · subst z; rw [xI_eq]; exact tv
              · rw [xI_ne (by omega)]; exact tl w' (by omega)
          rcases (tb2.1 w hw).1 with ⟨d1, d2⟩ | ⟨d1, d2⟩
          · by_cases e : pAns (V i) w = pAns (V i) T
            · obtain ⟨p1, p2⟩ := put (xc 0) (Or.inl rfl) (Or.inr ⟨rfl, fun z => z.2 e⟩)
              refine ⟨(nI (w + 1), xsI μ2 330 (4096 * i + w) (xc 0)), ?_, rfl, p2⟩
              simp only [fM_besides_L129, cw, if_false, g293_59 h2, g293_57 h2, Option.bind_some, l8, d1, xc1F, ix10, ma2, eq_true (show nI (pAns (V i) w) = nI (pAns (V i) T) by rw [e]), if_true, ix, fM_besides_178, fM_besides_179, p1, inc1]
            · have e' : ¬ nI (pAns (V i) w) = nI (pAns (V i) T) := fun z => e (nI_inj (by have := pAns_lt (P := V i) (W := w) pV2.1.2.2.1; omega) (by have := pAns_lt (P := V i) (W := T) pV2.1.2.2.1; omega) z)
              obtain ⟨p1, p2⟩ := put (xc 1) (Or.inr rfl) (Or.inl ⟨rfl, d2, e⟩)
              refine ⟨(nI (w + 1), xsI μ2 330 (4096 * i + w) (xc 1)), ?_, rfl, p2⟩
              simp only [fM_besides_L129, cw, if_false, g293_59 h2, g293_57 h2, Option.bind_some, l8, d1, xc1F, ix10, ma2, eq_false e', ix, fM_besides_179, p1, inc1]
          · obtain ⟨p1, p2⟩ := put (xc 0) (Or.inl rfl) (Or.inr ⟨rfl, fun z => d2 z.1⟩)
            refine ⟨(nI (w + 1), xsI μ2 330 (4096 * i + w) (xc 0)), ?_, rfl, p2⟩
            simp only [fM_besides_L129, cw, if_false, g293_59 h2, g293_57 h2, Option.bind_some, l8, d1, xc0T, if_true, ix, fM_besides_178, fM_besides_179, p1, inc1]
        · rintro ⟨x, μ2⟩ ⟨rfl, f2, tb2, tl⟩
          refine ⟨.inl (nI (i + 1), μ2), ?_, μ2, rfl, f2, tb2.1, fun v hv w hw => ?_⟩
          · simp only [fM_besides_L129, show (xc 4096 ≤ nI 4096) = True from by decide, if_true, fM_besides_186, Option.map_some, inc1]
          · by_cases z : v = i
            · subst z; exact tl w hw
            · exact tb2.2 v (by omega) w hw
      obtain ⟨a, g1, μ1, rfl, g2, g3⟩ := inner
      refine ⟨(nI (i + 1), μ1), ?_, rfl, g2, g3⟩
      simp only [fM_besides_L104, f293 h', e9', Option.bind_some, c0, if_false, wn, ix10, ma]
      exact g1
    · rintro ⟨x, μ'⟩ ⟨rfl, f, tb⟩
      have hM : MSide μ' A V na nv K := h.fr (f.mono (fun a k q => WB_scr q))
      obtain ⟨r, g1, g2⟩ := mleast_ok (kb := kb) hM.1 n6 hM.2.2.1 wP tb
      refine ⟨(r, μ'), ?_, μ', f, tb, g1.symm⟩
      simp only [fM_besides_L104, f293 hM.1, hM.2.2.1, Option.bind_some, Int32.le_refl, if_true, g1, Option.map_some]
  obtain ⟨a, g1, μ1, g2, g3, g4⟩ := goal
  exact ⟨μ1, g2, g3, g1.trans g4⟩
end BESIDESM
