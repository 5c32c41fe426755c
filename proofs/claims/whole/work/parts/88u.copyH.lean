/-! holdings are copied -/
section COPYH
def IsH (μ : xM) (h : Nat) : Prop := 2 ≤ h ∧ xK μ h = (13, 16) ∧ ldFR μ h 3 8 = some (h + 1) ∧ ldFR μ h 3 9 = some (h + 2) ∧ ldFR μ h 3 10 = some (h + 3) ∧ ldFR μ h 3 11 = some (h + 4) ∧ ldFR μ h 3 12 = some (h + 5) ∧ ldFR μ h 3 13 = some (h + 6) ∧ ldFR μ h 3 14 = some (h + 7) ∧ ldFR μ h 3 15 = some (h + 8) ∧ (∀ i, i < 10 → ldAR μ (h + 1) (nI i) = some (h + 9 + 5 * i)) ∧ (∀ i, i < 6 → ldAR μ (h + 2) (nI i) = some (h + 59 + 5 * i)) ∧ xK μ (h + 4) = (1, 10) ∧ (∀ a, (a = 3 ∨ 5 ≤ a ∧ a < 9) → xK μ (h + a) = (1, 6)) ∧ (∀ i, i < 10 → IsPic μ (h + 9 + 5 * i) 4) ∧ ∀ i, i < 6 → IsPic μ (h + 59 + 5 * i) 4
theorem pic_imgA {μ : xM} (h : Sh μ) : ∀ i, i < 10 → IsPic μ (101 + 5 * i) 4
  | 0, _ => sh_pic h _ _ (by decide) (by decide) (by decide) rfl
  | 1, _ => sh_pic h _ _ (by decide) (by decide) (by decide) rfl
  | 2, _ => sh_pic h _ _ (by decide) (by decide) (by decide) rfl
  | 3, _ => sh_pic h _ _ (by decide) (by decide) (by decide) rfl
  | 4, _ => sh_pic h _ _ (by decide) (by decide) (by decide) rfl
  | 5, _ => sh_pic h _ _ (by decide) (by decide) (by decide) rfl
  | 6, _ => sh_pic h _ _ (by decide) (by decide) (by decide) rfl
  | 7, _ => sh_pic h _ _ (by decide) (by decide) (by decide) rfl
  | 8, _ => sh_pic h _ _ (by decide) (by decide) (by decide) rfl
  | 9, _ => sh_pic h _ _ (by decide) (by decide) (by decide) rfl
  | _ + 10, h2 => absurd h2 (by omega)
theorem pic_imgV {μ : xM} (h : Sh μ) : ∀ i, i < 6 → IsPic μ (151 + 5 * i) 4
  | 0, _ => sh_pic h _ _ (by decide) (by decide) (by decide) rfl
  | 1, _ => sh_pic h _ _ (by decide) (by decide) (by decide) rfl
  | 2, _ => sh_pic h _ _ (by decide) (by decide) (by decide) rfl
  | 3, _ => sh_pic h _ _ (by decide) (by decide) (by decide) rfl
  | 4, _ => sh_pic h _ _ (by decide) (by decide) (by decide) rfl
  | 5, _ => sh_pic h _ _ (by decide) (by decide) (by decide) rfl
  | _ + 6, h2 => absurd h2 (by omega)
theorem isH {μ : xM} (hh : Sh μ) {h : Nat} (hd : h = 3 ∨ h = 92) : IsH μ h := by
  have kA : ∀ a, (a = 3 ∨ 5 ≤ a ∧ a < 9) → shK.getD (3 + a) (0, 0) = (1, 6) ∧ shK.getD (92 + a) (0, 0) = (1, 6) := by
    have : ∀ a, a < 9 → (a = 3 ∨ 5 ≤ a ∧ a < 9) → shK.getD (3 + a) (0, 0) = (1, 6) ∧ shK.getD (92 + a) (0, 0) = (1, 6) := by decide +kernel
    exact fun a ha => this a (by omega) ha
  have rA : ∀ i, i < 10 → (shR.getD 93 []).getD i none = some (101 + 5 * i) := by decide +kernel
  have rV : ∀ i, i < 6 → (shR.getD 94 []).getD i none = some (151 + 5 * i) := by decide +kernel
  rcases hd with rfl | rfl
  · exact ⟨by decide, kd3 hh, g3_8 hh, g3_9 hh, g3_10 hh, g3_11 hh, g3_12 hh, g3_13 hh, g3_14 hh, g3_15 hh, fun i hi => ar_ask hh hi, fun i hi => ar_view hh hi, kd7 hh, fun a ha => (hh.2.1 _ (by omega) (by omega)).trans (kA a ha).1, pic_ask hh, pic_view hh⟩
  · exact ⟨by decide, kd92 hh, g92_8 hh, g92_9 hh, g92_10 hh, g92_11 hh, g92_12 hh, g92_13 hh, g92_14 hh, g92_15 hh, fun i hi => ldAR_k (kd93 hh) (by decide) hi (by decide) ((hh.2.2 93 i (by decide) (by decide)).trans (rA i hi)), fun i hi => ldAR_k (kd94 hh) (by decide) hi (by decide) ((hh.2.2 94 i (by decide) (by decide)).trans (rV i hi)), kd96 hh, fun a ha => (hh.2.1 _ (by omega) (by omega)).trans (kA a ha).2, pic_imgA hh, pic_imgV hh⟩
/-- any row of whole words is a picture's, by number -/
theorem picL_pic {μ : xM} {p : Nat} (h : PicL μ p) : ∃ Q : xPic, PicC μ p Q ∧ Q.1.length ≤ 4 ∧ Q.2.length ≤ 3 := by
  obtain ⟨r, l, hr, hl, e0, e4⟩ := h
  have nn : ∀ x : Int32, nI x.toBitVec.toNat = x := fun x => by
    apply Int32.toBitVec_inj.mp
    show BitVec.ofNat 32 x.toBitVec.toNat = x.toBitVec
    rw [BitVec.ofNat_toNat, BitVec.setWidth_eq]
  refine ⟨((List.range r).map (fun i => ((xI μ (p + 2) i).toBitVec.toNat, (xI μ (p + 3) i).toBitVec.toNat, (xI μ (p + 4) i).toBitVec.toNat)), (List.range l).map (fun i => (xI μ (p + 1) i).toBitVec.toNat)), ⟨?_, ?_, fun i hi => ?_, fun i hi => ?_⟩, ?_, ?_⟩
  · rw [List.length_map, List.length_range]; exact e0
  · rw [List.length_map, List.length_range]; exact e4
  · rw [List.length_map, List.length_range] at hi
    dsimp only
    rw [List.getD_eq_getElem?_getD, List.getElem?_map, List.getElem?_range hi]
    exact ⟨(nn _).symm, (nn _).symm, (nn _).symm⟩
  · rw [List.length_map, List.length_range] at hi
    dsimp only
    rw [List.getD_eq_getElem?_getD, List.getElem?_map, List.getElem?_range hi]
    exact (nn _).symm
  · rw [List.length_map, List.length_range]; exact hr
  · rw [List.length_map, List.length_range]; exact hl
variable {μ : xM} {d s : Nat}
theorem copyH_ok (hh : Sh μ) (hd : d = 3 ∧ s = 92 ∨ d = 92 ∧ s = 3) {QA QV : Nat → xPic} (hA : ∀ i, i < 10 → PicC μ (s + 9 + 5 * i) (QA i) ∧ (QA i).1.length ≤ 4 ∧ (QA i).2.length ≤ 3) (hV : ∀ i, i < 6 → PicC μ (s + 59 + 5 * i) (QV i) ∧ (QV i).1.length ≤ 4 ∧ (QV i).2.length ≤ 3) : ∃ μ1, fH_copyFrom d s μ = some μ1 ∧ Fr (fun b _ => d ≤ b ∧ b < d + 89) μ μ1 ∧ (∀ k, k < 8 → xI μ1 d k = xI μ s k) ∧ (∀ i, i < 10 → PicC μ1 (d + 9 + 5 * i) (QA i) ∧ xI μ1 (d + 4) i = xI μ (s + 4) i) ∧ ∀ i, i < 6 → PicC μ1 (d + 59 + 5 * i) (QV i) ∧ xI μ1 (d + 3) i = xI μ (s + 3) i ∧ xI μ1 (d + 5) i = xI μ (s + 5) i ∧ xI μ1 (d + 6) i = xI μ (s + 6) i ∧ xI μ1 (d + 7) i = xI μ (s + 7) i ∧ xI μ1 (d + 8) i = xI μ (s + 8) i := by
  have dd : d = 3 ∨ d = 92 := by omega
  have ds : s = 3 ∨ s = 92 := by omega
  have part3 : ∀ μ0, Fr (fun b _ => d ≤ b ∧ b < d + 89) μ μ0 → (∀ k, k < 8 → xI μ0 d k = xI μ s k) → (∀ i, i < 10 → PicC μ0 (d + 9 + 5 * i) (QA i) ∧ xI μ0 (d + 4) i = xI μ (s + 4) i) → ∃ μ1, fH_copyFrom_105 d s μ0 = some μ1 ∧ Fr (fun b _ => d ≤ b ∧ b < d + 89) μ μ1 ∧ (∀ k, k < 8 → xI μ1 d k = xI μ s k) ∧ (∀ i, i < 10 → PicC μ1 (d + 9 + 5 * i) (QA i) ∧ xI μ1 (d + 4) i = xI μ (s + 4) i) ∧ ∀ i, i < 6 → PicC μ1 (d + 59 + 5 * i) (QV i) ∧ xI μ1 (d + 3) i = xI μ (s + 3) i ∧ xI μ1 (d + 5) i = xI μ (s + 5) i ∧ xI μ1 (d + 6) i = xI μ (s + 6) i ∧ xI μ1 (d + 7) i = xI μ (s + 7) i ∧ xI μ1 (d + 8) i = xI μ (s + 8) i := fun μ0 f0 k0 a0 => by
    unfold fH_copyFrom_105
    refine xwh_inv (body := fun z : Int32 × xM => fH_copyFrom_L107 d s z.1 z.2) (fun i z => z.1 = nI i ∧ Fr (fun b _ => d ≤ b ∧ b < d + 89) μ z.2 ∧ (∀ k, k < 8 → xI z.2 d k = xI μ s k) ∧ (∀ i, i < 10 → PicC z.2 (d + 9 + 5 * i) (QA i) ∧ xI z.2 (d + 4) i = xI μ (s + 4) i) ∧ ∀ j, j < i → PicC z.2 (d + 59 + 5 * j) (QV j) ∧ xI z.2 (d + 3) j = xI μ (s + 3) j ∧ xI z.2 (d + 5) j = xI μ (s + 5) j ∧ xI z.2 (d + 6) j = xI μ (s + 6) j ∧ xI z.2 (d + 7) j = xI μ (s + 7) j ∧ xI z.2 (d + 8) j = xI μ (s + 8) j) _ 6 ?_ ?_ 6 0 _ (by omega) ⟨rfl, f0, k0, a0, fun j hj => absurd hj (Nat.not_lt_zero j)⟩
    · rintro i ⟨x, μ'⟩ hi ⟨rfl, f, e1, e2, e3⟩
      left
      dsimp only at f e1 e2 e3
      have h' := f.sh hh
      have D := isH h' dd
      have S := isH h' ds
      have c0 : ¬ xc 6 ≤ nI i := nI_ge (b := 6) hi (by decide)
      obtain ⟨v1, v2, v3⟩ := hV i hi
      obtain ⟨μ2, g1, g2, g3, _, _⟩ := copy_ok (p := d + 59 + 5 * i) (m := 4) (q := s + 59 + 5 * i) (mq := 4) (D.2.2.2.2.2.2.2.2.2.2.2.2.2.2.2 i hi) (S.2.2.2.2.2.2.2.2.2.2.2.2.2.2.2 i hi) (picC_fr v1 f (fun b k q r => by omega)) v2 v2 v3 (by omega)
      have h2 := g2.sh h'
      have D2 := isH h2 dd
      have S2 := isH h2 ds
      obtain ⟨_, _, _, _, D10, _, D12, D13, D14, D15, _, _, _, Dk, _, _⟩ := D2
      obtain ⟨_, _, _, _, S10, _, S12, S13, S14, S15, _, _, _, Sk, _, _⟩ := S2
      have ld : ∀ a z, (a = 3 ∨ 5 ≤ a ∧ a < 9) → Fr (fun b k => d ≤ b ∧ b < d + 89) μ z → ldA z (s + a) (nI i) = some (xI μ (s + a) i) := fun a z ha fz => by
        rw [ldA_k ((isH (fz.sh hh) ds).2.2.2.2.2.2.2.2.2.2.2.2.2.1 a ha) hi (by decide), fz.I (by omega)]
      have st : ∀ a z v, (a = 3 ∨ 5 ≤ a ∧ a < 9) → Fr (fun b k => d ≤ b ∧ b < d + 89) μ z → stA z (d + a) (nI i) v = some (xsI z (d + a) i v) := fun a z v ha fz => by
        rw [stA_k v ((isH (fz.sh hh) dd).2.2.2.2.2.2.2.2.2.2.2.2.2.1 a ha) hi (by decide) (by omega)]
      have F2 : Fr (fun b k => d ≤ b ∧ b < d + 89) μ μ2 := f.trans (g2.mono (fun b k q => by omega))
      have F3 : Fr (fun b k => d ≤ b ∧ b < d + 89) μ (xsI μ2 (d + 3) i (xI μ (s + 3) i)) := F2.s _ (by omega)
      have F4 := F3.s (a := d + 5) (k := i) (xI μ (s + 5) i) (by omega)
      have F5 := F4.s (a := d + 6) (k := i) (xI μ (s + 6) i) (by omega)
      have F6 := F5.s (a := d + 7) (k := i) (xI μ (s + 7) i) (by omega)
      have F7 := F6.s (a := d + 8) (k := i) (xI μ (s + 8) i) (by omega)
      have G : Fr (fun b k => b = d + 3 ∨ d + 5 ≤ b ∧ b < d + 9) μ2 (xsI (xsI (xsI (xsI (xsI μ2 (d + 3) i (xI μ (s + 3) i)) (d + 5) i (xI μ (s + 5) i)) (d + 6) i (xI μ (s + 6) i)) (d + 7) i (xI μ (s + 7) i)) (d + 8) i (xI μ (s + 8) i)) := (((((Fr.refl μ2).s _ (by omega)).s _ (by omega)).s _ (by omega)).s _ (by omega)).s _ (by omega)
      refine ⟨(nI (i + 1), xsI (xsI (xsI (xsI (xsI μ2 (d + 3) i (xI μ (s + 3) i)) (d + 5) i (xI μ (s + 5) i)) (d + 6) i (xI μ (s + 6) i)) (d + 7) i (xI μ (s + 7) i)) (d + 8) i (xI μ (s + 8) i)), ?_, rfl, F7, fun k hk => ?_, fun j hj => ⟨?_, ?_⟩, fun j hj => ?_⟩
      · have H3 := isH (F3.sh hh) dd
        have H3s := isH (F3.sh hh) ds
        have H4 := isH (F4.sh hh) dd
        have H4s := isH (F4.sh hh) ds
        have H5 := isH (F5.sh hh) dd
        have H5s := isH (F5.sh hh) ds
        have H6 := isH (F6.sh hh) dd
        have H6s := isH (F6.sh hh) ds
        simp only [fH_copyFrom_L107, c0, if_false, D.2.2.2.1, S.2.2.2.1, Option.bind_some, D.2.2.2.2.2.2.2.2.2.2.2.1 i hi, S.2.2.2.2.2.2.2.2.2.2.2.1 i hi, g1, D10, S10, ld 3 _ (by omega) F2, st 3 _ _ (by omega) F2, H3.2.2.2.2.2.2.1, H3s.2.2.2.2.2.2.1, ld 5 _ (by omega) F3, st 5 _ _ (by omega) F3, H4.2.2.2.2.2.2.2.1, H4s.2.2.2.2.2.2.2.1, ld 6 _ (by omega) F4, st 6 _ _ (by omega) F4, H5.2.2.2.2.2.2.2.2.1, H5s.2.2.2.2.2.2.2.2.1, ld 7 _ (by omega) F5, st 7 _ _ (by omega) F5, H6.2.2.2.2.2.2.2.2.2.1, H6s.2.2.2.2.2.2.2.2.2.1, ld 8 _ (by omega) F6, st 8 _ _ (by omega) F6, inc1]
      · rw [G.I (by omega), g2.I (by omega)]; exact e1 k hk
      · exact picC_fr (picC_fr (e2 j hj).1 g2 (fun b k q r => by omega)) G (fun b k q r => by omega)
      · rw [G.I (by omega), g2.I (by omega)]; exact (e2 j hj).2
      · by_cases z : j = i
        · subst z
          refine ⟨picC_fr g3 G (fun b k q r => by omega), ?_, ?_, ?_, ?_, ?_⟩
          · simp (disch := omega) only [xI_ne, xI_eq]
          · simp (disch := omega) only [xI_ne, xI_eq]
          · simp (disch := omega) only [xI_ne, xI_eq]
          · simp (disch := omega) only [xI_ne, xI_eq]
          · rw [xI_eq]
        · obtain ⟨w1, w2, w3, w4, w5, w6⟩ := e3 j (by omega)
          refine ⟨picC_fr (picC_fr w1 g2 (fun b k q r => by omega)) G (fun b k q r => by omega), ?_, ?_, ?_, ?_, ?_⟩
          · simp (disch := omega) only [xI_ne]
            rw [g2.I (by omega)]; exact w2
          · simp (disch := omega) only [xI_ne]
            rw [g2.I (by omega)]; exact w3
          · simp (disch := omega) only [xI_ne]
            rw [g2.I (by omega)]; exact w4
          · simp (disch := omega) only [xI_ne]
            rw [g2.I (by omega)]; exact w5
          · simp (disch := omega) only [xI_ne]
            rw [g2.I (by omega)]; exact w6
    · rintro ⟨x, μ'⟩ ⟨rfl, f, e1, e2, e3⟩
      refine ⟨μ', ?_, f, e1, e2, e3⟩
      simp only [fH_copyFrom_L107, show (xc 6 ≤ nI 6) = True from by decide, if_true]
  have part2 : ∀ μ0, Fr (fun b _ => d ≤ b ∧ b < d + 89) μ μ0 → (∀ k, k < 8 → xI μ0 d k = xI μ s k) → ∃ μ1, xwh (fun z : Int32 × xM => fH_copyFrom_L66 d s z.1 z.2) (xc 0, μ0) = some μ1 ∧ Fr (fun b _ => d ≤ b ∧ b < d + 89) μ μ1 ∧ (∀ k, k < 8 → xI μ1 d k = xI μ s k) ∧ (∀ i, i < 10 → PicC μ1 (d + 9 + 5 * i) (QA i) ∧ xI μ1 (d + 4) i = xI μ (s + 4) i) ∧ ∀ i, i < 6 → PicC μ1 (d + 59 + 5 * i) (QV i) ∧ xI μ1 (d + 3) i = xI μ (s + 3) i ∧ xI μ1 (d + 5) i = xI μ (s + 5) i ∧ xI μ1 (d + 6) i = xI μ (s + 6) i ∧ xI μ1 (d + 7) i = xI μ (s + 7) i ∧ xI μ1 (d + 8) i = xI μ (s + 8) i := fun μ0 f0 k0 => by
    refine xwh_inv (body := fun z : Int32 × xM => fH_copyFrom_L66 d s z.1 z.2) (fun i z => z.1 = nI i ∧ Fr (fun b _ => d ≤ b ∧ b < d + 89) μ z.2 ∧ (∀ k, k < 8 → xI z.2 d k = xI μ s k) ∧ ∀ j, j < i → PicC z.2 (d + 9 + 5 * j) (QA j) ∧ xI z.2 (d + 4) j = xI μ (s + 4) j) _ 10 ?_ ?_ 10 0 _ (by omega) ⟨rfl, f0, k0, fun j hj => absurd hj (Nat.not_lt_zero j)⟩
    · rintro i ⟨x, μ'⟩ hi ⟨rfl, f, e1, e2⟩
      left
      dsimp only at f e1 e2
      have h' := f.sh hh
      have D := isH h' dd
      have S := isH h' ds
      have c0 : ¬ xc 10 ≤ nI i := nI_ge (b := 10) hi (by decide)
      obtain ⟨v1, v2, v3⟩ := hA i hi
      obtain ⟨μ2, g1, g2, g3, _, _⟩ := copy_ok (p := d + 9 + 5 * i) (m := 4) (q := s + 9 + 5 * i) (mq := 4) (D.2.2.2.2.2.2.2.2.2.2.2.2.2.2.1 i hi) (S.2.2.2.2.2.2.2.2.2.2.2.2.2.2.1 i hi) (picC_fr v1 f (fun b k q r => by omega)) v2 v2 v3 (by omega)
      have h2 := g2.sh h'
      have D2 := isH h2 dd
      have S2 := isH h2 ds
      have F2 : Fr (fun b k => d ≤ b ∧ b < d + 89) μ μ2 := f.trans (g2.mono (fun b k q => by omega))
      have ld : ldA μ2 (s + 4) (nI i) = some (xI μ (s + 4) i) := by rw [ldA_k S2.2.2.2.2.2.2.2.2.2.2.2.2.1 hi (by decide), F2.I (by omega)]
      have st : stA μ2 (d + 4) (nI i) (xI μ (s + 4) i) = some (xsI μ2 (d + 4) i (xI μ (s + 4) i)) := stA_k _ D2.2.2.2.2.2.2.2.2.2.2.2.2.1 hi (by decide) (by omega)
      have G : Fr (fun b k => b = d + 4) μ2 (xsI μ2 (d + 4) i (xI μ (s + 4) i)) := (Fr.refl μ2).s _ rfl
      refine ⟨(nI (i + 1), xsI μ2 (d + 4) i (xI μ (s + 4) i)), ?_, rfl, F2.s _ (by omega), fun k hk => ?_, fun j hj => ?_⟩
      · simp only [fH_copyFrom_L66, c0, if_false, D.2.2.1, S.2.2.1, Option.bind_some, D.2.2.2.2.2.2.2.2.2.2.1 i hi, S.2.2.2.2.2.2.2.2.2.2.1 i hi, g1, D2.2.2.2.2.2.1, S2.2.2.2.2.2.1, ld, st, inc1]
      · rw [G.I (by omega), g2.I (by omega)]; exact e1 k hk
      · by_cases z : j = i
        · subst z
          exact ⟨picC_fr g3 G (fun b k q r => by omega), xI_eq _ _ _ _⟩
        · obtain ⟨w1, w2⟩ := e2 j (by omega)
          refine ⟨picC_fr (picC_fr w1 g2 (fun b k q r => by omega)) G (fun b k q r => by omega), ?_⟩
          rw [xI_ne (by omega), g2.I (by omega)]
          exact w2
    · rintro ⟨x, μ'⟩ ⟨rfl, f, e1, e2⟩
      obtain ⟨μ1, g1, g2⟩ := part3 μ' f e1 e2
      refine ⟨μ1, ?_, g2⟩
      simp only [fH_copyFrom_L66, show (xc 10 ≤ nI 10) = True from by decide, if_true, g1, Option.map_some]
  have ldf : ∀ z k, Fr (fun b _ => b = d) μ z → ldF z s 3 k = some (xI μ s k) := fun z k fz => by
    rw [ldF_k k ((fz.K s).trans (isH hh ds).2.1), fz.I (by omega)]
  have stf : ∀ z k v, Fr (fun b _ => b = d) μ z → stF z d 3 k v = some (xsI z d k v) := fun z k v fz => stF_k k v ((fz.K d).trans (isH hh dd).2.1) (by omega)
  have F0 : Fr (fun b _ => b = d) μ μ := Fr.refl μ
  have F1 := F0.s (a := d) (k := 0) (xI μ s 0) rfl
  have F2 := F1.s (a := d) (k := 1) (xI μ s 1) rfl
  have F3 := F2.s (a := d) (k := 2) (xI μ s 2) rfl
  have F4 := F3.s (a := d) (k := 3) (xI μ s 3) rfl
  have F5 := F4.s (a := d) (k := 4) (xI μ s 4) rfl
  have F6 := F5.s (a := d) (k := 5) (xI μ s 5) rfl
  have F7 := F6.s (a := d) (k := 6) (xI μ s 6) rfl
  have F8 := F7.s (a := d) (k := 7) (xI μ s 7) rfl
  obtain ⟨μ1, g1, g2⟩ := part2 _ (F8.mono (fun b k q => by omega)) (fun k hk => by
    obtain rfl | rfl | rfl | rfl | rfl | rfl | rfl | rfl : k = 0 ∨ k = 1 ∨ k = 2 ∨ k = 3 ∨ k = 4 ∨ k = 5 ∨ k = 6 ∨ k = 7 := by omega
    all_goals simp (disch := omega) only [xI_ne, xI_eq])
  refine ⟨μ1, ?_, g2⟩
  unfold fH_copyFrom fH_copyFrom_0
  rw [gd_k (isH hh dd).2.1]
  simp only [ldf _ _ F0, stf _ _ _ F0, Option.bind_some, ldf _ _ F1, stf _ _ _ F1, ldf _ _ F2, stf _ _ _ F2, ldf _ _ F3, stf _ _ _ F3, ldf _ _ F4, stf _ _ _ F4, ldf _ _ F5, stf _ _ _ F5, ldf _ _ F6, stf _ _ _ F6, ldf _ _ F7, stf _ _ _ F7]
  exact g1
end COPYH
