/-! shows, show -/
def WFS (a k : Nat) : Prop := a = 293 ∧ 26 ≤ k ∧ k ≤ 51 ∨ 313 ≤ a ∧ a ≤ 325
theorem WFS_scr {a k : Nat} (h : WFS a k) : Scratch a k := by unfold WFS at h; unfold Scratch; omega
def AskM (μ : xM) (E : xPic × Nat × Bool) : Prop := xI μ 293 49 = (if E.2.2 then 1 else 0) ∧ xI μ 293 47 = nI E.1.2.length ∧ ∀ i, i < E.1.2.length → xI μ 324 i = nI (E.1.2.getD i 0)
section FIND
variable {μ : xM} {V : Nat → xPic} {nv K q : Nat} {A : xPic}
theorem findHead_ok (h : Sh μ) {E : xPic × Nat × Bool} (bE : TB E.1 7) (cE : PicE μ E.1) (lE : E.1.1.length ≤ 12) (lH : E.1.2.length ≤ 3) (e35 : xI μ 293 35 = if E.2.2 then 1 else 0) (e9 : xI μ 293 9 = nI nv) (n6 : nv ≤ 6) (wv : ∀ u, u < nv → PicWf (V u) ∧ PicM μ (10 + u) (V u)) (e49 : xI μ 293 49 = if E.2.2 then 1 else 0) (e47 : xI μ 293 47 = nI E.1.2.length) : ∃ a, fM_findShows_81 293 μ = some a ∧ Fr (fun a k => W7 a k ∨ a = 324) μ a.2 ∧ AskM a.2 E ∧ ((a.1 = xc 1 ∧ (pShows E V nv).length ≤ 12 ∧ ShowsM a.2 V (pShows E V nv)) ∨ (a.1 = xc 0 ∧ 12 < (pShows E V nv).length)) := by
  unfold fM_findShows_81
  refine xwh_inv (body := fun s : Int32 × xM => fM_findShows_L83 293 s.1 s.2) (fun i s => s.1 = nI i ∧ Fr (fun a _ => a = 324) μ s.2 ∧ ∀ j, j < i → xI s.2 324 j = nI (E.1.2.getD j 0)) _ E.1.2.length ?_ ?_ E.1.2.length 0 _ (by omega) ⟨rfl, Fr.refl μ, fun u hu => absurd hu (Nat.not_lt_zero u)⟩
  · rintro i ⟨x, μ'⟩ hi ⟨rfl, f, e⟩
    left
    have h' := f.sh h
    have c0 : ¬ nI E.1.2.length ≤ nI i := nI_ge hi (by omega)
    have t1 : ldA μ' 316 (nI i) = some (nI (E.1.2.getD i 0)) := by rw [la316 h' (by omega), f.I (by omega), cE.2.2.2 i hi]
    refine ⟨(nI (i + 1), xsI μ' 324 i (nI (E.1.2.getD i 0))), ?_, rfl, f.s _ rfl, fun u hu => ?_⟩
    · simp only [fM_findShows_L83, f293 h', (f.I (a := 293) (k := 33) (by omega)).trans cE.2.1, Option.bind_some, c0, if_false, g293_48 h', g293_34 h', t1, sa324 h' _ (show i < 3 by omega), inc1]
    · by_cases z : u = i
      · subst z; rw [xI_eq]
      · rw [xI_ne (by omega)]; exact e u (by omega)
  · rintro ⟨x, μ'⟩ ⟨rfl, f, e⟩
    have h' := f.sh h
    obtain ⟨a, a1, a2, a3⟩ := views_ok (V := V) (nv := nv) h' bE (cE.fr f (fun a k q => by omega)) lE ((f.I (by omega)).trans e35) ((f.I (by omega)).trans e9) n6 (fun u hu => ⟨(wv u hu).1, (wv u hu).2.fr' f (fun a k q => by omega)⟩)
    refine ⟨a, ?_, (f.mono (fun a k q => Or.inr q)).trans (a2.mono (fun a k q => Or.inl q)), ⟨?_, ?_, fun i hi => ?_⟩, a3⟩
    · simp only [fM_findShows_L83, f293 h', (f.I (a := 293) (k := 33) (by omega)).trans cE.2.1, Option.bind_some, Int32.le_refl, if_true, a1, Option.map_some]
    · rw [a2.I (by unfold W7; omega), f.I (by omega)]; exact e49
    · rw [a2.I (by unfold W7; omega), f.I (by omega)]; exact e47
    · rw [a2.I (by unfold W7; omega)]; exact e i hi
theorem findShows_ok (h : Sh μ) (cM : PicM μ q A) (hq : q < 16) (wA : PicWf A) (hk : ∀ t, t < 3 → xI μ 295 t = if K.testBit t then xc 1 else xc 0) (e9 : xI μ 293 9 = nI nv) (n6 : nv ≤ 6) (wv : ∀ u, u < nv → PicWf (V u) ∧ PicM μ (10 + u) (V u)) : ∃ a, fM_findShows 293 (nI q) μ = some a ∧ Fr WFS μ a.2 ∧ AskM a.2 (pEnd K A) ∧ ((a.1 = xc 1 ∧ (pShows (pEnd K A) V nv).length ≤ 12 ∧ ShowsM a.2 V (pShows (pEnd K A) V nv)) ∨ (a.1 = xc 0 ∧ 12 < (pShows (pEnd K A) V nv).length)) := by
  obtain ⟨μ1, m1, m2, m3, m4, m5⟩ := findEnd_ok h cM hq wA hk
  have h1 := m2.sh h
  have keep := pEnd_keep (K := K) wA.tb
  generalize pEnd K A = E at m3 m4 m5 keep ⊢
  obtain ⟨bE, lE, lH⟩ := keep
  have l4 : E.1.1.length ≤ 4 := Nat.le_trans lE wA.2.1
  have l3 : E.1.2.length ≤ 3 := by rw [lH]; exact wA.2.2.1
  have z35 : xI μ1 293 35 = 0 ∨ xI μ1 293 35 = 1 := by rw [m5]; split; exact Or.inr rfl; exact Or.inl rfl
  have k1 : Sh (xsI μ1 293 49 (xI μ1 293 35)) := h1
  have k2 : Sh (xsI (xsI μ1 293 49 (xI μ1 293 35)) 293 43 (nI E.1.1.length)) := h1
  have k3 : Sh (xsI (xsI (xsI μ1 293 49 (xI μ1 293 35)) 293 43 (nI E.1.1.length)) 293 47 (nI E.1.2.length)) := h1
  have f3 : Fr (fun a k => a = 293 ∧ (k = 49 ∨ k = 43 ∨ k = 47)) μ1 (xsI (xsI (xsI μ1 293 49 (xI μ1 293 35)) 293 43 (nI E.1.1.length)) 293 47 (nI E.1.2.length)) := (((Fr.refl μ1).s _ (by omega)).s _ (by omega)).s _ (by omega)
  have ev : fM_findShows 293 (nI q) μ = xwh (fun s : Int32 × xM => fM_findShows_L31 293 s.1 s.2) (xc 0, xsI (xsI (xsI μ1 293 49 (xI μ1 293 35)) 293 43 (nI E.1.1.length)) 293 47 (nI E.1.2.length)) := by
    have e29 : xI (xsI μ1 293 49 (xI μ1 293 35)) 293 29 = nI E.1.1.length := (xI_ne (by omega)).trans m3.1
    have e33 : xI (xsI (xsI μ1 293 49 (xI μ1 293 35)) 293 43 (nI E.1.1.length)) 293 33 = nI E.1.2.length := by rw [xI_ne (by omega), xI_ne (by omega)]; exact m3.2.1
    simp only [fM_findShows, fM_findShows_0, gd293 h, m1, Option.bind_some, f293 h1, fz293 h1 49 z35, f293 k1, e29, fs293 k1, f293 k2, e33, fs293 k2]
  rw [ev]
  refine xwh_inv (body := fun s : Int32 × xM => fM_findShows_L31 293 s.1 s.2) (fun i s => s.1 = nI i ∧ Fr (fun a k => a = 293 ∧ (k = 49 ∨ k = 43 ∨ k = 47) ∨ 321 ≤ a ∧ a ≤ 323) μ1 s.2 ∧ xI s.2 293 49 = xI μ1 293 35 ∧ xI s.2 293 47 = nI E.1.2.length) _ E.1.1.length ?_ ?_ E.1.1.length 0 _ (by omega) ⟨rfl, f3.mono (fun a k q => Or.inl q), by rw [xI_ne (by omega), xI_ne (by omega), xI_eq], by rw [xI_eq]⟩
  · rintro i ⟨x, μ'⟩ hi ⟨rfl, f, e49, e47⟩
    left
    have h' := f.sh h1
    have i4 : i < 4 := by omega
    have i12 : i < 12 := by omega
    have c0 : ¬ nI E.1.1.length ≤ nI i := nI_ge hi (by omega)
    have q1 : ∀ a, Sh (xsI μ' 321 i a) := fun a => h'
    have q2 : ∀ a b, Sh (xsI (xsI μ' 321 i a) 322 i b) := fun a b => h'
    refine ⟨(nI (i + 1), xsI (xsI (xsI μ' 321 i (xI μ' 313 i)) 322 i (xI (xsI μ' 321 i (xI μ' 313 i)) 314 i)) 323 i (xI (xsI (xsI μ' 321 i (xI μ' 313 i)) 322 i (xI (xsI μ' 321 i (xI μ' 313 i)) 314 i)) 315 i)), ?_, rfl, ((f.s _ (by omega)).s _ (by omega)).s _ (by omega), ?_, ?_⟩
    · simp only [fM_findShows_L31, f293 h', (f.I (a := 293) (k := 29) (by omega)).trans m3.1, Option.bind_some, c0, if_false, g293_44 h', g293_30 h', la313 h' i12, sa321 h' _ i4, g293_45 (q1 _), g293_31 (q1 _), la314 (q1 _) i12, sa322 (q1 _) _ i4, g293_46 (q2 _ _), g293_32 (q2 _ _), la315 (q2 _ _) i12, sa323 (q2 _ _) _ i4, inc1]
    · simp (disch := omega) only [xI_ne]; exact e49
    · simp (disch := omega) only [xI_ne]; exact e47
  · rintro ⟨x, μ'⟩ ⟨rfl, f, e49, e47⟩
    have h' := f.sh h1
    have fa : Fr WFS μ μ' := (m2.mono (fun a k q => by unfold FE at q; unfold WFS; omega)).trans (f.mono (fun a k q => by unfold WFS; omega))
    obtain ⟨a, a1, a2, a3, a4⟩ := findHead_ok (V := V) (nv := nv) h' bE (m3.fr f (fun a k q => by omega)) (by omega) l3 ((f.I (by omega)).trans m5) ((fa.I (by unfold WFS; omega)).trans e9) n6 (fun u hu => ⟨(wv u hu).1, (wv u hu).2.fr' fa (fun a k q => by unfold WFS; omega)⟩) (e49.trans m5) e47
    refine ⟨a, ?_, fa.trans (a2.mono (fun a k q => by unfold W7 at q; unfold WFS; omega)), a3, a4⟩
    simp only [fM_findShows_L31, f293 h', (f.I (a := 293) (k := 29) (by omega)).trans m3.1, Option.bind_some, Int32.le_refl, if_true, a1, Option.map_some]
end FIND
section SHOW
variable {L : Nat} {xs : Nat → Int32} {μ : xM} {A V : Nat → xPic} {na nv T K kb gb : Nat}
theorem SimA.mvs (h : SimA L xs μ A V na nv T K kb gb) : ∀ u, u < nv → PicWf (V u) ∧ PicM μ (10 + u) (V u) := fun u hu => ⟨h.wfV hu, h.mV hu⟩
theorem mShows_ok (hS : SimA L xs μ A V na nv T K kb gb) {j : Nat} (hj : j < na) : ∃ a, fM_findShows 293 (nI j) μ = some a ∧ Fr Scratch μ a.2 ∧ AskM a.2 (pEnd K (A j)) ∧ ((a.1 = xc 1 ∧ (pShows (pEnd K (A j)) V nv).length ≤ 12 ∧ ShowsM a.2 V (pShows (pEnd K (A j)) V nv)) ∨ (a.1 = xc 0 ∧ 12 < (pShows (pEnd K (A j)) V nv).length)) := by
  have hn := hS.na10
  obtain ⟨a, a1, a2, a3⟩ := findShows_ok hS.sh (hS.mA hj) (by omega) (hS.wfA hj) hS.keys hS.all.2.2.1.2.1 hS.nv6 hS.mvs
  exact ⟨a, a1, a2.mono (fun a k q => WFS_scr q), a3⟩
/-- the same behind a refusal of the class -/
theorem mShows_ok2 (hS : SimA L xs μ A V na nv T K kb gb) {j : Nat} (hj : j < na) {μ2 : xM} (h : Sh μ2) (e : ∀ a j, 293 ≤ a → xI μ2 a j = xI μ a j) : ∃ a, fM_findShows 293 (nI j) μ2 = some a ∧ Fr Scratch μ2 a.2 ∧ AskM a.2 (pEnd K (A j)) ∧ ((a.1 = xc 1 ∧ (pShows (pEnd K (A j)) V nv).length ≤ 12 ∧ ShowsM a.2 V (pShows (pEnd K (A j)) V nv)) ∨ (a.1 = xc 0 ∧ 12 < (pShows (pEnd K (A j)) V nv).length)) := by
  have hn := hS.na10
  obtain ⟨a, a1, a2, a3⟩ := findShows_ok h ((hS.mA hj).fr (fun a k z _ => e a k (by omega))) (by omega) (hS.wfA hj) (fun t ht => (e _ _ (by decide)).trans (hS.keys t ht)) ((e _ _ (by decide)).trans hS.all.2.2.1.2.1) hS.nv6 (fun u hu => ⟨hS.wfV hu, (hS.mV hu).fr (fun a k z _ => e a k (by omega))⟩)
  exact ⟨a, a1, a2.mono (fun a k q => WFS_scr q), a3⟩
theorem seen_done (hS : SimA L xs μ A V na nv T K kb gb) {j : Nat} (hj : j < na) (e8 : xI μ (213 + 8 * j) 8 = 1) : fX_seen 2 (nI j) μ = some (213 + 8 * j, μ) := by
  have hh := hS.sh
  have hn := hS.na10
  have hj10 : j < 10 := by omega
  have hs := sight_at hh j hj10
  have l8 : ldF μ (213 + 8 * j) 6 8 = some (xI μ (213 + 8 * j) 8) := ldF_k (ci := 6) 8 hs.2.1
  have n8 : ¬ xI μ (213 + 8 * j) 8 = 0 := by rw [e8]; decide
  simp only [fX_seen, fX_seen_0, gd2 hh, g2_6 hh, ar_sight hh hj10, g2_0 hh, g3_8 hh, ar_ask hh hj10, Option.bind_some, fS_look, fS_look_0, gd_k (ci := 6) hs.2.1, l8, n8, if_false]
theorem xspent_ok (hS : SimA L xs μ A V na nv T K kb gb) {j : Nat} (hj : j < na) : ∃ μ1, SimA L xs μ1 A V na nv T K kb gb ∧ Fr (fun a _ => 213 ≤ a ∧ a < 293) μ μ1 ∧ SeenOK μ1 (213 + 8 * j) K nv V (A j) ∧ xI μ1 (213 + 8 * j) 8 = 1 ∧ fX_showsRefusal 2 (nI j) μ = some (if 12 < (pShows (pEnd K (A j)) V nv).length then xc (-5) else xc 0, μ1) := by
  have hh := hS.sh
  have hn := hS.na10
  obtain ⟨μ1, s1, s2, s3, s4, s5⟩ := seen_ok hS hj
  have hs := sight_at s2.sh j (by omega)
  have l3 : ldF μ1 (213 + 8 * j) 6 3 = some (xI μ1 (213 + 8 * j) 3) := ldF_k (ci := 6) 3 hs.2.1
  refine ⟨μ1, s2, s3.mono (fun a k q => by omega), s4, s5, ?_⟩
  have xa := xask_yes hh hS.all.2.1.2.2.1 (by omega) hj
  by_cases q : 12 < (pShows (pEnd K (A j)) V nv).length
  · have e3 : ¬ xI μ1 (213 + 8 * j) 3 = 0 := by rw [s4.2.2.2.1, if_pos q]; decide
    rw [if_pos q]
    simp only [fX_showsRefusal, fX_showsRefusal_0, gd2 hh, xa, Option.bind_some, xc1F, if_false, s1, l3, e3]
  · have e3 : xI μ1 (213 + 8 * j) 3 = 0 := by rw [s4.2.2.2.1, if_neg q]
    rw [if_neg q]
    simp only [fX_showsRefusal, fX_showsRefusal_0, gd2 hh, xa, Option.bind_some, xc1F, if_false, s1, l3, e3, if_true]
theorem xspent_no (hh : Sh μ) (e : xI μ 3 2 = nI na) {a : Int32} (q : Off na a) : fX_showsRefusal 2 a μ = some (xc (-1), μ) := by
  simp only [fX_showsRefusal, fX_showsRefusal_0, gd2 hh, xask_no hh e q, Option.bind_some, xc0T, if_true]
theorem m1F : (xc (-1) = 0) = False := eq_false (by decide)
theorem m5F : (xc (-5) = 0) = False := eq_false (by decide)
theorem sim_shows (a1 : Int32) (hS : Sim L xs μ) : SimR L xs (fX_shows 2 a1 μ) (fun μ => fM_shows 293 a1 μ) := by
  obtain ⟨A, V, na, nv, T, K, kb, gb, hA⟩ := simA_iff.mp hS
  have hh := hS.sh
  have hn := hA.na10
  have all := hA.all
  rcases off_or na (by omega) a1 with q | ⟨j, hj, rfl⟩
  · refine sim_refuse 1 hS (by decide) (by decide) ?_ (fun μ1 h1 h2 => ?_)
    · simp only [fX_shows, fX_shows_0, gd2 hh, xspent_no hh all.2.1.2.2.1 q, Option.bind_some, m1F, if_false, bind_eta]
      rfl
    · simp only [fM_shows, fM_shows_0, gd293 h1, mask_no h1 ((h2 _ _ (by decide)).trans all.2.2.1.1) (by omega) q, Option.bind_some, xc0T, if_true, bind_eta]
      rfl
  · have ma : ∀ z, Sh z → xI z 293 8 = nI na → fM_isAsk 293 (nI j) z = some (xc 1) := fun z hz e => mask_yes hz e (by omega) hj
    obtain ⟨μ1, s1, s2, s3, s4, s5⟩ := xspent_ok hA hj
    have h1 := s1.sh
    have hm1 := s1.all.2.2.1.1
    have hs := sight_at h1 j (by omega)
    by_cases q : 12 < (pShows (pEnd K (A j)) V nv).length
    · rw [if_pos q] at s5
      refine sim_refuse2 5 s1.sim (by decide) (by decide) ?_ (fun μ2 h1' h2' => ?_)
      · simp only [fX_shows, fX_shows_0, gd2 hh, s5, Option.bind_some, m5F, if_false, bind_eta]
        rfl
      · obtain ⟨⟨r, μ3⟩, m1, m2, _, m3⟩ := mShows_ok2 s1 hj h1' h2'
        rcases m3 with ⟨_, m3, _⟩ | ⟨m3, _⟩
        · exact absurd q (by omega)
        · have m3' : r = xc 0 := m3
          refine ⟨μ3, m2, ?_⟩
          simp only [fM_shows, fM_shows_0, gd293 h1', ma μ2 h1' ((h2' _ _ (by decide)).trans hm1), Option.bind_some, xc1F, if_false, m1, m3', xc0T, if_true, bind_eta]
          rfl
    · rw [if_neg q] at s5
      obtain ⟨⟨r, μ3⟩, m1, m2, _, m3⟩ := mShows_ok s1 hj
      rcases m3 with ⟨m3, m4, m5⟩ | ⟨_, m3⟩
      · have m3' : r = xc 1 := m3
        refine sim_ans (r := nI (pShows (pEnd K (A j)) V nv).length) (μ2 := μ3) s1.sim ?_ ?_ m2
        · simp only [fX_shows, fX_shows_0, gd2 hh, s5, Option.bind_some, xc0T, if_true, seen_done s1 hj s4, ldF_k (ci := 6) 2 hs.2.1, (s3.2.2.2.2 m4).1]
        · have e39 : xI μ3 293 39 = nI (pShows (pEnd K (A j)) V nv).length := m5.2.1
          simp only [fM_shows, fM_shows_0, gd293 h1, ma μ1 h1 hm1, Option.bind_some, xc1F, if_false, m1, m3', f293 (m2.sh h1), e39]
      · exact absurd m3 q
end SHOW
