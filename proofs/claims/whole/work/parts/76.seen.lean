/-! the class looks: a sight is worked out -/
theorem pim7 {g : pG} (b : gB 7 g) {t : Nat} (h : 2 ≤ t ∨ t < 2) : pim g t < 7 := by
  unfold pim
  split
  · omega
  · cases hg : g t with
    | none => exact (by decide)
    | some u => exact b t u hg
theorem pcode_lt {P : xPic} {g : pG} (b : gB 7 g) : pcode (P.2.map (pim g)) < 512 := by
  have : ∀ k, (P.2.map (pim g)).getD k 0 < 7 := fun k => by
    by_cases q : k < P.2.length
    · rw [getD_map (d := 0) q]
      exact pim7 b (by omega)
    · rw [List.getD_eq_getElem?_getD, List.getElem?_eq_none (by rw [List.length_map]; omega)]
      exact (by decide)
  have a0 := this 0
  have a1 := this 1
  have a2 := this 2
  unfold pcode
  omega
def sCodes (E : xPic × Nat × Bool) (V : Nat → xPic) (v : Nat) : List Nat := (phoms E.1.1 (V v).1 gN).map (pcd v (V v))
theorem gB_gN (B : Nat) : gB B gN := fun t u z => by cases z
theorem shows_mem {E : xPic × Nat × Bool} {V : Nat → xPic} {nv y : Nat} (hN : E.2.2 = false) (bE : TB E.1 7) : y ∈ pShows E V nv ↔ ∃ v, v < nv ∧ y ∈ sCodes E V v := by
  unfold pShows sCodes
  rw [hN, if_neg (by decide), List.mem_filter, List.mem_range, decide_eq_true_eq, List.mem_map]
  have lt : ∀ v g, g ∈ phoms E.1.1 (V v).1 gN → pcode ((V v).2.map (pim g)) < 512 := fun v g hg => pcode_lt (phoms_B (fun e he => (bE.1 e he).2) _ _ (gB_gN 7) hg)
  constructor
  · rintro ⟨h1, g, h2, h3⟩
    refine ⟨y / 512, by omega, List.mem_map.mpr ⟨g, h2, ?_⟩⟩
    unfold pcd
    rw [h3]
    omega
  · rintro ⟨v, h1, h2⟩
    obtain ⟨g, h3, h4⟩ := List.mem_map.mp h2
    have := lt v g h3
    unfold pcd at h4
    have e1 : y / 512 = v := by omega
    have e2 : y % 512 = pcode ((V v).2.map (pim g)) := by omega
    refine ⟨by omega, g, ?_, ?_⟩
    · rw [e1]; exact h3
    · rw [e1, e2]
theorem shows_srt (E : xPic × Nat × Bool) (V : Nat → xPic) (nv : Nat) : Srt (pShows E V nv) := by
  unfold pShows
  split
  · exact List.Pairwise.nil
  · exact srt_filter _ (srt_range _)
theorem shows_lt {E : xPic × Nat × Bool} {V : Nat → xPic} {nv y : Nat} (h : y ∈ pShows E V nv) : y < 512 * nv := by
  unfold pShows at h
  split at h
  · exact absurd h List.not_mem_nil
  · rw [List.mem_filter, List.mem_range] at h
    exact h.1
def WLook (s a k : Nat) : Prop := a = s ∧ (k = 2 ∨ k = 3 ∨ k = 8) ∨ s + 1 ≤ a ∧ a < s + 7
section SEEN
variable {μ : xM}
theorem look_ok (h : Sh μ) {i : Nat} (hi : i < 10) {A : xPic} {V : Nat → xPic} {nv K : Nat} (wA : PicWf A) (cA : PicC μ (12 + 5 * i) A) (hv : ∀ j, j < nv → PicC μ (62 + 5 * j) (V j) ∧ PicWf (V j)) (n6 : nv ≤ 6) (hK : K < 8) (e1 : xI μ 3 1 = nI K) (e3 : xI μ 3 3 = nI nv) (e8 : xI μ (213 + 8 * i) 8 = 0) : ∃ μ1, fS_look (213 + 8 * i) (12 + 5 * i) 3 μ = some μ1 ∧ Fr (WLook (213 + 8 * i)) μ μ1 ∧ SeenOK μ1 (213 + 8 * i) K nv V A ∧ xI μ1 (213 + 8 * i) 8 = 1 := by
  have hs := sight_at h i hi
  have es : ∃ s, s = 213 + 8 * i := ⟨_, rfl⟩
  obtain ⟨s, es⟩ := es
  rw [← es] at hs e8 ⊢
  have hk := hs.2.1
  have h2 := hs.1
  have k1 : Sh (xsI μ s 8 (xc 1)) := h
  have hs1 : IsSight (xsI μ s 8 (xc 1)) s := hs
  have cA1 : PicC (xsI μ s 8 (xc 1)) (12 + 5 * i) A := cA.fr (fun a k q r => xI_ne (by omega))
  obtain ⟨μ2, c1, f2, c2, c3, c4⟩ := copy_ok hs1.2.2.2.2.2.2.2 (pic_ask k1 i hi) cA1 wA.2.1 wA.2.1 wA.2.2.1 (by omega)
  have k2 := f2.sh k1
  have hs2 := f2.sight hs1
  have tb := wA.tb
  have bR : RBs A.1 := fun r hr => by have := tb.1 r hr; unfold RB; omega
  have bH : HBs A.2 := fun t ht => by have := tb.2 t ht; omega
  obtain ⟨μ3, d1, f3, d2, d3, d4⟩ := becomeEnd_ok hs2.2.2.2.2.2.2.2 c2 wA.2.1 wA.2.2.1 bR bH hK c3 c4
  have k3 := f3.sh k2
  have hs3 := f3.sight hs2
  obtain ⟨E, hE⟩ : ∃ E, E = pEnd K A := ⟨_, rfl⟩
  have keep := pEnd_keep (K := K) tb
  rw [← hE] at d2 d3 d4 keep
  obtain ⟨y1, y2, y3⟩ := keep
  have k4 : Sh (xsI μ3 s 2 (xc 0)) := k3
  have hs4 : IsSight (xsI μ3 s 2 (xc 0)) s := hs3
  have k5 : Sh (xsI (xsI μ3 s 2 (xc 0)) s 3 (xc 0)) := k3
  have hs5 : IsSight (xsI (xsI μ3 s 2 (xc 0)) s 3 (xc 0)) s := hs3
  obtain ⟨μ5, h5⟩ : ∃ μ5, μ5 = xsI (xsI μ3 s 2 (xc 0)) s 3 (xc 0) := ⟨_, rfl⟩
  have f15 : Fr (WLook s) μ μ5 := by
    rw [h5]
    exact (((((Fr.refl μ).s _ (by unfold WLook; omega)).trans (f2.mono (fun a k q => by unfold WLook; omega))).trans (f3.mono (fun a k q => by unfold WLook; omega))).s _ (by unfold WLook; omega)).s _ (by unfold WLook; omega)
  have cE : PicC μ5 (s + 1) E.1 := by rw [h5]; exact d2.fr (fun a k q r => by rw [xI_ne (by omega), xI_ne (by omega)])
  have e6 : xI μ5 (s + 1) 6 = nI E.2.1 := by rw [h5, xI_ne (by omega), xI_ne (by omega)]; exact d3
  have e7 : xI μ5 (s + 1) 7 = if E.2.2 then 1 else 0 := by rw [h5, xI_ne (by omega), xI_ne (by omega)]; exact d4
  have e58 : xI μ5 s 8 = 1 := by rw [h5, xI_ne (by omega), xI_ne (by omega), f3.I (by omega), f2.I (by omega), xI_eq]; rfl
  have e52 : xI μ5 s 2 = nI 0 := by rw [h5, xI_ne (by omega), xI_eq]; rfl
  have e53 : xI μ5 s 3 = 0 := by rw [h5, xI_eq]; rfl
  rw [← h5] at k5 hs5
  have r0 : ∀ μ', IsSight μ' s → ldFR μ' s 6 0 = some (s + 1) := fun μ' z => ldFR_k (ci := 6) z.2.1 z.2.2.1
  have ek : ldF μ2 3 3 1 = some (nI K) := by rw [ldF_k (ci := 3) 1 (kd3 k2), f2.I (by omega), xI_ne (by omega), e1]
  have ev : fS_look s (12 + 5 * i) 3 μ = xwh (fun z : Int32 × xM => fS_look_L44 s 3 z.1 z.2) (xc 0, μ5) := by
    rw [h5]
    simp only [fS_look, fS_look_0, gd_k (ci := 6) hk, ldF_k (ci := 6) 8 hk, Option.bind_some, e8, if_true, stFZ_k (ci := 6) (v := xc 1) 8 hk h2 (Or.inr rfl), r0 _ hs1, c1, r0 _ hs2, ek, d1, stF_k (ci := 6) 2 (xc 0) hs3.2.1 h2, stFZ_k (ci := 6) (v := xc 0) 3 hs4.2.1 h2 (Or.inl rfl)]
  rw [ev]
  have fin : ∀ μ', Fr (WS s) μ5 μ' → xI μ' s 3 = (if 12 < (pShows E V nv).length then 1 else 0) → ((pShows E V nv).length ≤ 12 → xI μ' s 2 = nI (pShows E V nv).length ∧ ∀ i, i < (pShows E V nv).length → xI μ' (s + 6) i = nI ((pShows E V nv).getD i 0)) → Fr (WLook s) μ μ' ∧ SeenOK μ' s K nv V A ∧ xI μ' s 8 = 1 := fun μ' f z1 z2 => by
    refine ⟨f15.trans (f.mono (fun a k q => by unfold WS at q; unfold WLook; omega)), ?_, (f.I (by unfold WS; omega)).trans e58⟩
    unfold SeenOK
    rw [← hE]
    exact ⟨cE.ws f (Or.inr rfl), (f.I (by unfold WS; omega)).trans e6, (f.I (by unfold WS; omega)).trans e7, z1, z2⟩
  have e5n : ∀ μ', Fr (WS s) μ5 μ' → ldF μ' 3 3 3 = some (nI nv) := fun μ' f => by rw [ldF_k (ci := 3) 3 (kd3 (f.sh k5)), f.I (by unfold WS; omega), f15.I (by unfold WLook; omega), e3]
  by_cases hN : E.2.2 = true
  · have p0 : pShows E V nv = [] := by unfold pShows; rw [if_pos hN]
    refine ⟨μ5, ?_, fin μ5 (Fr.refl μ5) (by rw [p0]; exact e53) (fun _ => by rw [p0]; exact ⟨e52, fun i hi => absurd hi (Nat.not_lt_zero i)⟩)⟩
    rw [hN] at e7
    have e7' : ¬ xI μ5 (s + 1) 7 = 0 := by rw [e7]; decide
    refine xwh_stop ?_
    by_cases q : nv = 0
    · subst q
      simp only [fS_look_L44, e5n μ5 (Fr.refl μ5), Option.bind_some, show (nI 0 ≤ xc 0) = True from by decide, if_true]
    · have c0 : ¬ nI nv ≤ xc 0 := nI_ge (a := 0) (by omega) (by omega)
      simp only [fS_look_L44, e5n μ5 (Fr.refl μ5), Option.bind_some, c0, if_false, r0 _ hs5, pf hs5.2.2.2.2.2.2.2, e7']
  · simp only [Bool.not_eq_true] at hN
    rw [hN] at e7
    have e7' : xI μ5 (s + 1) 7 = 0 := e7
    have T := @shows_mem E V nv
    have := xwh_inv (body := fun z : Int32 × xM => fS_look_L44 s 3 z.1 z.2) (fun v z => z.1 = nI v ∧ Fr (WS s) μ5 z.2 ∧ ((∃ S, Srt S ∧ FoundS z.2 s S ∧ xI z.2 s 3 = 0 ∧ ∀ y, y ∈ S ↔ ∃ u, u < v ∧ y ∈ sCodes E V u) ∨ (∃ S, Srt S ∧ S.length = 13 ∧ xI z.2 s 3 = 1 ∧ ∀ y, y ∈ S → ∃ u, u < nv ∧ y ∈ sCodes E V u))) (fun μ' => Fr (WS s) μ5 μ' ∧ xI μ' s 3 = (if 12 < (pShows E V nv).length then 1 else 0) ∧ ((pShows E V nv).length ≤ 12 → xI μ' s 2 = nI (pShows E V nv).length ∧ ∀ i, i < (pShows E V nv).length → xI μ' (s + 6) i = nI ((pShows E V nv).getD i 0))) nv ?_ ?_ nv 0 (xc 0, μ5) (by omega) ⟨rfl, Fr.refl μ5, Or.inl ⟨[], List.Pairwise.nil, ⟨Nat.zero_le _, e52, fun i hi => absurd hi (Nat.not_lt_zero i)⟩, e53, fun y => ⟨fun q => absurd q List.not_mem_nil, fun ⟨u, q, _⟩ => absurd q (Nat.not_lt_zero u)⟩⟩⟩
    · obtain ⟨μ1, a1, a2, a3, a4⟩ := this
      exact ⟨μ1, a1, fin μ1 a2 a3 a4⟩
    · rintro v ⟨x, μ'⟩ hv' ⟨rfl, f, hx⟩
      have k' := f.sh k5
      have hs' := f.sight hs5
      have c0 : ¬ nI nv ≤ nI v := nI_ge hv' (by omega)
      have cE' := cE.ws f (Or.inr rfl)
      have e7n : xI μ' (s + 1) 7 = 0 := (f.I (by unfold WS; omega)).trans e7'
      have fs3 : ldF μ' s 6 3 = some (xI μ' s 3) := ldF_k (ci := 6) 3 hs'.2.1
      rcases hx with ⟨S, s1, s2, s3, s4⟩ | ⟨S, s1, s2, s3, s4⟩
      · left
        obtain ⟨cv, wv⟩ := hv v hv'
        have cv' : PicC μ' (62 + 5 * v) (V v) := cv.fr (fun a k q r => (f.I (by unfold WS; omega)).trans (f15.I (by unfold WLook; omega)))
        have bnd : ∀ y, y ∈ S → y < 4096 := fun y hy => by
          obtain ⟨u, q1, q2⟩ := (s4 y).mp hy
          have := shows_lt ((shows_mem (V := V) (nv := nv) hN y1).mpr ⟨u, by omega, q2⟩)
          omega
        have w1 := wv.1
        obtain ⟨⟨r, μ6⟩, t1, t2, S', t3, t4, t5⟩ := leadA_ok (s := s) (p := 62 + 5 * v) (mp := 4) wv wv.2.1 (by omega) y1 (by have := wA.2.1; omega) (view := v) (by omega) (V v).1.length 0 6 gN lSt μ' S hs' (pic_view k' v (by omega)) cv' cE' s2 s1 bnd s3 (by omega) (by have := wv.2.1; omega) led_start (gB_gN 7) (fun t ht hk0 => by omega) (fun g hg t ht => by rw [List.drop_zero] at hg; exact head_led wv hg ht)
        rw [List.drop_zero] at t4 t5
        have evb : fS_look_L44 s 3 (nI v) μ' = some (.inl (nI (v + 1), μ6)) := by
          have t1' : fL_leadRowsA 6 (62 + 5 * v) (s + 1) (Int64.ofNat 34359737376) (xc 0) s (nI v) μ' = some (r, μ6) := t1
          simp only [fS_look_L44, e5n μ' f, Option.bind_some, c0, if_false, r0 _ hs', pf hs'.2.2.2.2.2.2.2, e7n, if_true, fs3, s3, g3_9 k', ar_view k' (show v < 6 by omega), fL_findShows, fL_findShows_0, t1', inc1]
        refine ⟨_, evb, rfl, f.trans t2, ?_⟩
        rcases t5 with ⟨t5, t6, t7, t8⟩ | ⟨t5, t6, t7⟩
        · refine Or.inl ⟨S', t3, t6, t7, fun y => ⟨fun q => ?_, fun q => ?_⟩⟩
          · rcases t4 y q with z | z
            · obtain ⟨u, q1, q2⟩ := (s4 y).mp z
              exact ⟨u, by omega, q2⟩
            · exact ⟨v, by omega, z⟩
          · obtain ⟨u, q1, q2⟩ := q
            by_cases q3 : u = v
            · subst q3; exact t8 y (Or.inr q2)
            · exact t8 y (Or.inl ((s4 y).mpr ⟨u, by omega, q2⟩))
        · refine Or.inr ⟨S', t3, t6, t7, fun y q => ?_⟩
          rcases t4 y q with z | z
          · obtain ⟨u, q1, q2⟩ := (s4 y).mp z
            exact ⟨u, by omega, q2⟩
          · exact ⟨v, by omega, z⟩
      · right
        refine ⟨μ', ?_, f, ?_, ?_⟩
        · have s3' : ¬ xI μ' s 3 = 0 := by rw [s3]; decide
          simp only [fS_look_L44, e5n μ' f, Option.bind_some, c0, if_false, r0 _ hs', pf hs'.2.2.2.2.2.2.2, e7n, if_true, fs3, s3']
        · have := srt_len s1 (shows_srt E V nv) (fun y hy => (shows_mem hN y1).mpr (s4 y hy))
          rw [if_pos (by omega)]; exact s3
        · intro q
          have := srt_len s1 (shows_srt E V nv) (fun y hy => (shows_mem hN y1).mpr (s4 y hy))
          omega
    · rintro ⟨x, μ'⟩ ⟨rfl, f, hx⟩
      refine ⟨μ', ?_, f, ?_⟩
      · simp only [fS_look_L44, e5n μ' f, Option.bind_some, Int32.le_refl, if_true]
      · rcases hx with ⟨S, s1, s2, s3, s4⟩ | ⟨S, s1, s2, s3, s4⟩
        · have eS : S = pShows E V nv := srt_eq S _ s1 (shows_srt E V nv) (fun y => (s4 y).trans (shows_mem hN y1).symm)
          rw [← eS]
          exact ⟨by rw [if_neg (by have := s2.1; omega)]; exact s3, fun _ => s2.2⟩
        · have := srt_len s1 (shows_srt E V nv) (fun y hy => (shows_mem hN y1).mpr (s4 y hy))
          exact ⟨by rw [if_pos (by omega)]; exact s3, fun q => by omega⟩
end SEEN
