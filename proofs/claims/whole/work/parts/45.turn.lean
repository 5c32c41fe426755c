/-! a row comes or goes, on both sides; the class's cells and the reference's may lie in two memories -/
def SC2 (μc μm : xM) (c : Nat) : Prop := c ≤ 40 ∧ xI μc 185 1 = nI c ∧ xI μm 293 3 = nI c ∧ ∀ j, j < c → ∃ r f, r < 12 ∧ f < 2 ∧ xI μc 186 j = nI r ∧ xI μm 296 j = nI (100 * f + 10 * (r / 4) + r % 4)
def NotedC (μ μ1 : xM) (v : Int32) (c : Nat) : Prop := xI μ1 185 1 = nI (if c = 40 then 40 else c + 1) ∧ ∀ j, j < (if c = 40 then 40 else c + 1) → xI μ1 186 j = if j + 1 = (if c = 40 then 40 else c + 1) then v else xI μ 186 (j + (if c = 40 then 1 else 0))
def NotedM (μ μ1 : xM) (v : Int32) (c : Nat) : Prop := xI μ1 293 3 = nI (if c = 40 then 40 else c + 1) ∧ ∀ j, j < (if c = 40 then 40 else c + 1) → xI μ1 296 j = if j + 1 = (if c = 40 then 40 else c + 1) then v else xI μ 296 (j + (if c = 40 then 1 else 0))
theorem noted_sc2 {μc μc1 μm μm1 : xM} {c r f : Nat} (h : SC2 μc μm c) (hr : r < 12) (hf : f < 2) (hc : NotedC μc μc1 (nI r) c) (hm : NotedM μm μm1 (nI (100 * f + 10 * (r / 4) + r % 4)) c) : SC2 μc1 μm1 (if c = 40 then 40 else c + 1) := by
  obtain ⟨h1, h2, h3, h4⟩ := h
  refine ⟨by split <;> omega, hc.1, hm.1, fun j hj => ?_⟩
  rw [hc.2 j hj, hm.2 j hj]
  by_cases e : j + 1 = (if c = 40 then 40 else c + 1)
  · rw [if_pos e, if_pos e]
    exact ⟨r, f, hr, hf, rfl, rfl⟩
  · rw [if_neg e, if_neg e]
    refine h4 _ ?_
    by_cases e2 : c = 40
    · rw [if_pos e2] at hj e ⊢
      omega
    · rw [if_neg e2] at hj e ⊢
      omega
def WC (a k : Nat) : Prop := a = 3 ∧ k = 0 ∨ a = 185 ∨ a = 186
def WM (a k : Nat) : Prop := a = 294 ∨ a = 293 ∧ k = 3 ∨ a = 296
theorem cl_turn {μ : xM} {T r c : Nat} (h : Sh μ) (e0 : xI μ 3 0 = nI T) (ec : xI μ 185 1 = nI c) (hc : c ≤ 40) (hr : r < 12) : ∃ μ1, fH_turnRow 3 (nI r) μ = some (xsI μ 3 0 (nI (T ^^^ 2 ^ r))) ∧ fC_note 185 (nI r) (xsI μ 3 0 (nI (T ^^^ 2 ^ r))) = some μ1 ∧ Fr WC μ μ1 ∧ xI μ1 3 0 = nI (T ^^^ 2 ^ r) ∧ NotedC μ μ1 (nI r) c := by
  obtain ⟨μ1, h1, f, h2, h3⟩ := note_ok (μ := xsI μ 3 0 (nI (T ^^^ 2 ^ r))) (nI r) h (by rw [xI_ne (by omega)]; exact ec) hc
  refine ⟨μ1, turnRow_ok h e0 (by omega), h1, ((Fr.refl μ).s _ (Or.inl ⟨rfl, rfl⟩)).trans (f.mono (fun a k q => Or.inr q)), ?_, h2, fun j hj => ?_⟩
  · rw [f.I (by omega), xI_eq]
  · rw [h3 j hj, xI_ne (by omega)]
theorem bit_xy (x y : Nat) (hx : x < 2) (hy : y < 2) : (xc 1) <<< ((((xc 2) * nI x) + nI y) &&& 31) = nI (2 ^ (2 * x + y)) := by
  rw [show xc 2 = nI 2 from rfl, pk_mul, nI_add, nI_bit (by omega)]
theorem m_set {μ : xM} {t b c f : Nat} {v : Int32} (h : Sh μ) (ec : xI μ 293 3 = nI c) (hc : c ≤ 40) (ht : t < 3) : ∃ μ1, stA μ 294 (nI t) v = some (xsI μ 294 t v) ∧ fM_remember 293 (nI (100 * f + 10 * t + b)) (xsI μ 294 t v) = some μ1 ∧ Fr WM μ μ1 ∧ (∀ i, xI μ1 294 i = if i = t then v else xI μ 294 i) ∧ NotedM μ μ1 (nI (100 * f + 10 * t + b)) c := by
  obtain ⟨μ1, h1, g, h2, h3⟩ := rem_ok (μ := xsI μ 294 t v) (nI (100 * f + 10 * t + b)) h (by rw [xI_ne (by omega)]; exact ec) hc
  refine ⟨μ1, sa294 h _ ht, h1, ((Fr.refl μ).s _ (Or.inl rfl)).trans (g.mono (fun a k q => Or.inr q)), fun i => ?_, h2, fun j hj => ?_⟩
  · rw [g.I (by omega)]
    by_cases e : i = t
    · rw [if_pos e, e, xI_eq]
    · rw [if_neg e, xI_ne (by omega)]
  · rw [h3 j hj, xI_ne (by omega)]
section MB
variable {μ : xM} {T K t x y c : Nat}
theorem bring_old (h : Sh μ) (e : xI μ 294 t = nI (T / 16 ^ t % 16)) (ht : t < 3) (hx : x < 2) (hy : y < 2) (q : T.testBit (4 * t + (2 * x + y)) = true) : fM_bring 293 (nI t) (nI x) (nI y) μ = some (xc 0, μ) := by
  unfold fM_bring fM_bring_0
  rw [gd293 h, bit_xy x y hx hy, g293_0 h, Option.bind_some, la294 h ht, Option.bind_some, e, if_neg]
  rw [w_bit _ (t16_lt T t) _ (by omega), tb16 T t _ (by omega)]
  exact fun w => w q
theorem bring_key (h : Sh μ) (e : xI μ 294 t = nI (T / 16 ^ t % 16)) (e2 : xI μ 295 t = nI (K / 2 ^ t % 2)) (hK : KeyOK T K) (ht : t < 3) (hx : x < 2) (hy : y < 2) (q : ¬ T.testBit (4 * t + (2 * x + y)) = true) (k : K.testBit t = true) (q2 : (T / 16 ^ t % 16).testBit ((2 * x + y) ^^^ 1) = true) : fM_bring 293 (nI t) (nI x) (nI y) μ = some (xc (-3), μ) := by
  have hw := t16_lt T t
  have q' : ¬ (T / 16 ^ t % 16).testBit (2 * x + y) = true := by rw [tb16 T t _ (by omega)]; exact q
  have hk := keyOK_iff.mp hK t ht k
  unfold fM_bring fM_bring_0
  rw [gd293 h, bit_xy x y hx hy, g293_0 h, Option.bind_some, la294 h ht, Option.bind_some, e, if_pos ((w_bit _ hw _ (by omega)).mpr q'), g293_1 h, Option.bind_some, lz295 h ht, Option.bind_some, e2, k_bit, if_pos k, if_neg xc_1_0, Option.bind_some, la294 h ht, Option.bind_some, e, nI_or, w_or _ hw _ (by omega) q', keyed_no (w_lt _ hw _ (by omega)) (fun w => (keyed_add hw (by omega) hk q').mp w q2), Option.bind_some, if_pos xc_0_0]
theorem bring_new (h : Sh μ) (e : xI μ 294 t = nI (T / 16 ^ t % 16)) (e2 : xI μ 295 t = nI (K / 2 ^ t % 2)) (ec : xI μ 293 3 = nI c) (hc : c ≤ 40) (hK : KeyOK T K) (ht : t < 3) (hx : x < 2) (hy : y < 2) (q : ¬ T.testBit (4 * t + (2 * x + y)) = true) (k : ¬ (K.testBit t = true ∧ (T / 16 ^ t % 16).testBit ((2 * x + y) ^^^ 1) = true)) : ∃ μ1, fM_bring 293 (nI t) (nI x) (nI y) μ = some (xc 1, μ1) ∧ Fr WM μ μ1 ∧ (∀ i, xI μ1 294 i = if i = t then nI (T / 16 ^ t % 16 ^^^ 2 ^ (2 * x + y)) else xI μ 294 i) ∧ NotedM μ μ1 (nI (100 * 1 + 10 * t + (2 * x + y))) c := by
  have hw := t16_lt T t
  have q' : ¬ (T / 16 ^ t % 16).testBit (2 * x + y) = true := by rw [tb16 T t _ (by omega)]; exact q
  obtain ⟨μ1, h1, h2, h3, h4, h5⟩ := m_set (f := 1) (b := 2 * x + y) (v := nI (T / 16 ^ t % 16 ^^^ 2 ^ (2 * x + y))) h ec hc ht
  refine ⟨μ1, ?_, h3, h4, h5⟩
  have en : ((xc 100) + ((xc 10) * nI t)) + ((xc 2) * nI x) + nI y = nI (100 * 1 + 10 * t + (2 * x + y)) := by
    rw [show xc 100 = nI 100 from rfl, show xc 10 = nI 10 from rfl, show xc 2 = nI 2 from rfl, pk_mul, pk_mul, nI_add, nI_add, nI_add]
    congr 1
    omega
  have e50 : fM_bring_50 293 (nI t) (nI x) (nI y) (nI (2 ^ (2 * x + y))) μ = some (xc 1, μ1) := by
    unfold fM_bring_50
    rw [g293_0 h, Option.bind_some, la294 h ht, Option.bind_some, e, nI_or, w_or _ hw _ (by omega) q', h1, Option.bind_some, en, h2, Option.bind_some]
  unfold fM_bring fM_bring_0
  rw [gd293 h, bit_xy x y hx hy, g293_0 h, Option.bind_some, la294 h ht, Option.bind_some, e, if_pos ((w_bit _ hw _ (by omega)).mpr q'), g293_1 h, Option.bind_some, lz295 h ht, Option.bind_some, e2, k_bit]
  by_cases kk : K.testBit t = true
  · have hk := keyOK_iff.mp hK t ht kk
    rw [if_pos kk, if_neg xc_1_0, Option.bind_some, la294 h ht, Option.bind_some, e, nI_or, w_or _ hw _ (by omega) q', keyed_yes (w_lt _ hw _ (by omega)) ((keyed_add hw (by omega) hk q').mpr (fun w => k ⟨kk, w⟩)), Option.bind_some, if_neg xc_1_0]
    exact e50
  · rw [if_neg kk, if_pos xc_0_0]
    exact e50
end MB
theorem r_parts (t b : Nat) (hb : b < 4) : (4 * t + b) / 4 = t ∧ (4 * t + b) % 4 = b := ⟨by omega, by omega⟩
/-- both sides have turned a row -/
theorem turned_sim {L : Nat} {xs : Nat → Int32} {μ μ2 : xM} {A V : Nat → xPic} {na nv T K kb gb t b c : Nat} {W : Nat → Nat → Prop} (o' : SimO L xs μ) (hB : HB na nv T K kb gb) (hs : HS μ na nv T K kb gb) (hm : HM μ na nv) (ht : HT μ T K) (hk : HKp μ nv kb) (hz : HSz μ nv) (hg : HG μ nv gb) (hzz : HZ μ nv) (hw : HW μ na) (hp : HP μ A V na nv) (hP : SimP μ A V na nv) (hBk : SimB μ) (hT : SimT μ) (hF : SimF μ) (hI : SimI μ A V na nv) (hS : SimS μ A V na nv K)
    (f : Fr W μ μ2) (hW : ∀ a k, W a k → WC a k ∨ WM a k) (htt : t < 3) (hb : b < 4) (g : K.testBit t = true → keyedN (T / 16 ^ t % 16 ^^^ 2 ^ b)) (g1 : xI μ2 3 0 = nI (T ^^^ 2 ^ (4 * t + b))) (g2 : ∀ i, xI μ2 294 i = if i = t then nI (T / 16 ^ t % 16 ^^^ 2 ^ b) else xI μ 294 i) (g3 : SC2 μ2 μ2 c) : Sim L xs μ2 := by
  have hn := hB.1
  have hv := hB.2.1
  obtain ⟨b1, b2, b3, b4, b5, b6, b7⟩ := hB
  have f' : Fr (fun a k => WC a k ∨ WM a k) μ μ2 := f.mono hW
  obtain ⟨c1, c2, c3, c4⟩ := g3
  refine sim_all.mpr ⟨o'.fr f' (fun a k q => by unfold WC WM; omega), A, V, na, nv, T ^^^ 2 ^ (4 * t + b), K, kb, gb, ⟨⟨b1, b2, tx_lt b3 (by omega), b4, b5, b6, keyOK_turn b7 htt hb g⟩, ⟨g1, ?_, ?_, ?_, ?_, ?_⟩, hm.fr f' (fun a k _ => by unfold WC WM; omega), fun i hi => ⟨?_, ?_⟩, hk.fr f' (fun k _ => by unfold WC WM; omega), hz.fr f' (fun a k _ _ => by unfold WC WM; omega), hg.fr f' (fun k _ => by unfold WC WM; omega), hzz.fr f' (fun a k _ _ _ _ => by unfold WC WM; omega), hw.fr f' (fun k _ => by unfold WC WM; omega) hn, hp.fr f' hn hv (fun a k q r => by unfold WC WM; omega)⟩, hP.fr f' (fun a k q => by unfold FP at q; unfold WC WM; omega), ⟨c, c1, c2, c3, c4⟩, hBk.fr f' (fun a k q => by unfold FB at q; unfold WC WM; omega), hT.fr f' (fun a k q => by unfold FT at q; unfold WC WM; omega), hF.fr f' (fun a k q => by unfold FF at q; unfold WC WM; omega), hI.fr f' (fun a k q => by unfold FI at q; unfold WC WM; omega), hS.fr f' hn (fun a k q => by unfold FS at q; unfold WC WM; omega)⟩
  · rw [f'.I (by unfold WC WM; omega)]; exact hs.2.1
  · rw [f'.I (by unfold WC WM; omega)]; exact hs.2.2.1
  · rw [f'.I (by unfold WC WM; omega)]; exact hs.2.2.2.1
  · rw [f'.I (by unfold WC WM; omega)]; exact hs.2.2.2.2.1
  · rw [f'.I (by unfold WC WM; omega)]; exact hs.2.2.2.2.2
  · rw [g2 i, tx16 T t b i hb]
    by_cases e : i = t
    · rw [if_pos e, if_pos e]
    · rw [if_neg e, if_neg e]
      exact (ht i hi).1
  · rw [f'.I (by unfold WC WM; omega)]
    exact (ht i hi).2
