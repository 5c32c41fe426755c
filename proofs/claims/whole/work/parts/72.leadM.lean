/-! the reference leads rows -/
theorem xwh_dec {σ α : Type} {body : σ → Option (σ ⊕ α)} (I : Nat → σ → Prop) (Q : α → Prop) (hs : ∀ m s, I m s → (∃ s' m', m' < m ∧ body s = some (.inl s') ∧ I m' s') ∨ ∃ a, body s = some (.inr a) ∧ Q a) : ∀ (n m : Nat) (s : σ), m < n → I m s → ∃ a, xwh body s = some a ∧ Q a
  | 0, m, s, h, _ => absurd h (Nat.not_lt_zero m)
  | n + 1, m, s, h, hi => by
    rcases hs m s hi with ⟨s', m', h1, h2, h3⟩ | ⟨a, h1, h2⟩
    · obtain ⟨a, h4, h5⟩ := xwh_dec I Q hs n m' s' (by omega) h3
      exact ⟨a, xwh_go h2 h4, h5⟩
    · exact ⟨a, xwh_stop h1, h2⟩
theorem pway_yes {E rs : List xRow} {r : xRow} {i : Nat} {is : List Nat} {g g' : pG} (h : pstep (E.getD i (0, 0, 0)) r g = some g') : pway E (r :: rs) (i :: is) g = pway E rs is g' := by
  conv => lhs; unfold pway
  rw [h]
theorem pway_no {E rs : List xRow} {r : xRow} {i : Nat} {is : List Nat} {g : pG} (h : pstep (E.getD i (0, 0, 0)) r g = none) : pway E (r :: rs) (i :: is) g = none := by
  unfold pway
  rw [h]
def gI (g : pG) (t : Nat) : Int32 := if t < 2 then nI t else match g t with
  | none => xc (-1)
  | some u => nI u
def pGoes (μ : xM) (g : pG) : Prop := ∀ t, t < 7 → xI μ 318 t = gI g t
theorem gI_ok {g : pG} (b : gB 64 g) {t s : Nat} (ht : t < 7) (hs : s < 64) : (∃ g', plead g t s = some g' ∧ (gI g t < 0 ∨ (¬ gI g t < 0 ∧ gI g t = nI s)) ∧ ∀ u, (if u = t then nI s else gI g u) = gI g' u) ∨ (plead g t s = none ∧ ¬ gI g t < 0 ∧ ¬ gI g t = nI s) := by
  unfold plead
  by_cases q : t < 2
  · have e : gI g t = nI t := if_pos q
    rw [if_pos q]
    have n0 : ¬ gI g t < 0 := by rw [e]; exact nI_pos (by omega)
    by_cases q2 : t = s
    · rw [if_pos q2]
      refine Or.inl ⟨g, rfl, Or.inr ⟨n0, by rw [e, q2]⟩, fun u => ?_⟩
      by_cases q3 : u = t
      · rw [if_pos q3, q3, e, q2]
      · rw [if_neg q3]
    · rw [if_neg q2]
      exact Or.inr ⟨rfl, n0, fun z => q2 ((nI64 (by omega) (by omega)).mp (e.symm.trans z))⟩
  · rw [if_neg q]
    cases hg : g t with
    | none =>
      have e : gI g t = xc (-1) := by unfold gI; rw [if_neg q, hg]
      refine Or.inl ⟨_, rfl, Or.inl (by rw [e]; decide), fun u => ?_⟩
      by_cases q3 : u = t
      · rw [if_pos q3, q3]
        unfold gI
        rw [if_neg q]
        show nI s = match (if t = t then some s else g t) with
          | none => xc (-1)
          | some u => nI u
        rw [if_pos rfl]
      · rw [if_neg q3]
        unfold gI
        show _ = if u < 2 then nI u else match (if u = t then some s else g u) with
          | none => xc (-1)
          | some u => nI u
        rw [if_neg q3]
    | some w =>
      have e : gI g t = nI w := by unfold gI; rw [if_neg q, hg]
      have hw := b t w hg
      have n0 : ¬ gI g t < 0 := by rw [e]; exact nI_pos (by omega)
      dsimp only
      by_cases q2 : w = s
      · rw [if_pos q2]
        refine Or.inl ⟨g, rfl, Or.inr ⟨n0, by rw [e, q2]⟩, fun u => ?_⟩
        by_cases q3 : u = t
        · rw [if_pos q3, q3, e, q2]
        · rw [if_neg q3]
      · rw [if_neg q2]
        exact Or.inr ⟨rfl, n0, fun z => q2 ((nI64 (by omega) (by omega)).mp (e.symm.trans z))⟩
section LEADM
variable {μ : xM} {q : Nat} {P E : xPic}
theorem PicM.fr' {μ μ' : xM} {P : xPic} {q : Nat} {W : Nat → Nat → Prop} (c : PicM μ q P) (f : Fr W μ μ') (d : ∀ a k, 299 ≤ a ∧ a ≤ 304 → ¬ W a k) : PicM μ' q P := c.fr (fun a k h1 h2 => f.I (d a k ⟨h1, h2⟩))
theorem agree_ok (h : Sh μ) (cM : PicM μ q P) (hq : q < 16) (w : PicWf P) (cE : PicE μ E) (lE : E.1.length ≤ 12) (bE : TB E 64) (is : List Nat) (hl : is.length ≤ P.1.length) (his : ∀ k, k < is.length → xI μ 317 k = nI (is.getD k 0) ∧ is.getD k 0 < E.1.length) : ∃ r μ1, fM_agree 293 (nI q) (nI is.length) μ = some (r, μ1) ∧ Fr (fun a _ => a = 318) μ μ1 ∧ ((pway E.1 P.1 is gN = none ∧ r = xc 0) ∨ ∃ g, pway E.1 P.1 is gN = some g ∧ r = xc 1 ∧ pGoes μ1 g ∧ gB 64 g) := by
  have w4 := w.2.1
  have goal : ∃ a, fM_agree 293 (nI q) (nI is.length) μ = some a ∧ Fr (fun a _ => a = 318) μ a.2 ∧ ((pway E.1 P.1 is gN = none ∧ a.1 = xc 0) ∨ ∃ g, pway E.1 P.1 is gN = some g ∧ a.1 = xc 1 ∧ pGoes a.2 g ∧ gB 64 g) := by
    unfold fM_agree fM_agree_0
    rw [gd293 h]
    refine xwh_inv (fun n s => s.1 = nI n ∧ Fr (fun a _ => a = 318) μ s.2 ∧ ∀ t, t < n → xI s.2 318 t = gI gN t) _ 7 ?_ ?_ 7 0 _ (by omega) ⟨rfl, Fr.refl μ, fun t ht => absurd ht (by omega)⟩
    · rintro n ⟨x, μ'⟩ hn ⟨rfl, f, a1⟩
      left
      have h' := f.sh h
      have c0 : ¬ xc 7 ≤ nI n := nI_ge (b := 7) hn (by decide)
      refine ⟨(nI (n + 1), xsI μ' 318 n (gI gN n)), ?_, rfl, f.s _ rfl, fun t ht => ?_⟩
      · by_cases q2 : n < 2
        · have c1 : ¬ xc 2 ≤ nI n := nI_ge (b := 2) q2 (by decide)
          rw [show gI gN n = nI n from if_pos q2]
          simp only [fM_agree_L2, c0, if_false, g293_38 h', Option.bind_some, c1, fM_agree_23, sa318 h' _ hn, inc1]
        · have c1 : xc 2 ≤ nI n := nI_le (a := 2) (by omega) (by omega)
          rw [show gI gN n = xc (-1) from by unfold gI; rw [if_neg q2]; rfl]
          simp only [fM_agree_L2, c0, if_false, g293_38 h', Option.bind_some, c1, if_true, fM_agree_23, sa318 h' _ hn, inc1]
      · by_cases e : t = n
        · subst e; rw [xI_eq]
        · rw [xI_ne (by omega)]; exact a1 t (by omega)
    · rintro ⟨x, μ'⟩ ⟨rfl, f, a1⟩
      have h' := f.sh h
      have := xwh_inv (body := fun s : Int32 × xM => fM_agree_L32 293 (nI q) (nI is.length) s.1 s.2) (fun r s => s.1 = nI r ∧ Fr (fun a _ => a = 318) μ s.2 ∧ ∃ g, gB 64 g ∧ pGoes s.2 g ∧ pway E.1 P.1 is gN = pway E.1 (P.1.drop r) (is.drop r) g) (fun a => Fr (fun a _ => a = 318) μ a.2 ∧ ((pway E.1 P.1 is gN = none ∧ a.1 = xc 0) ∨ ∃ g, pway E.1 P.1 is gN = some g ∧ a.1 = xc 1 ∧ pGoes a.2 g ∧ gB 64 g)) is.length ?_ ?_ is.length 0 (xc 0, μ') (by omega) ⟨rfl, f, gN, fun t u e => (by cases e), a1, rfl⟩
      · obtain ⟨a, b1, b2⟩ := this
        refine ⟨a, ?_, b2⟩
        simp only [fM_agree_L2, show xc 7 = nI 7 from rfl, Int32.le_refl, if_true, fM_agree_30, b1, Option.map_some]
      · rintro r ⟨x, μ2⟩ hr ⟨rfl, f2, g, bg, hg, hp⟩
        have h2 := f2.sh h
        have hrP : r < P.1.length := by omega
        obtain ⟨p1, p2⟩ := his r hr
        have br := w.tb.row hrP
        have be := bE.row p2
        have c0 : ¬ nI is.length ≤ nI r := nI_ge hr (by omega)
        have t0 : ldA μ2 317 (nI r) = some (nI (is.getD r 0)) := by rw [la317 h2 (by omega), f2.I (by omega), p1]
        have i64 : 4 * q + r < 64 := by omega
        have i12 : is.getD r 0 < 12 := by omega
        have tE : ldA μ2 313 (nI (is.getD r 0)) = some (nI (prow E (is.getD r 0)).1) := by rw [la313 h2 i12, f2.I (by omega), (cE.2.2.1 _ p2).1]
        have tA : ldA μ2 314 (nI (is.getD r 0)) = some (nI (prow E (is.getD r 0)).2.1) := by rw [la314 h2 i12, f2.I (by omega), (cE.2.2.1 _ p2).2.1]
        have tT : ldA μ2 300 (nI (4 * q + r)) = some (nI (prow P r).1) := by rw [la300 h2 i64, f2.I (by omega), (cM.2.2.1 _ hrP).1]; rfl
        have tPA : ldA μ2 301 (nI (4 * q + r)) = some (nI (prow P r).2.1) := by rw [la301 h2 i64, f2.I (by omega), (cM.2.2.1 _ hrP).2.1]; rfl
        have tG : ldA μ2 318 (nI (prow P r).2.1) = some (gI g (prow P r).2.1) := by rw [la318 h2 br.2.1, hg _ br.2.1]
        rw [drop_succD (0, 0, 0) hrP, drop_succD 0 hr] at hp
        have hp' : pway E.1 P.1 is gN = pway E.1 (prow P r :: P.1.drop (r + 1)) (is.getD r 0 :: is.drop (r + 1)) g := hp
        by_cases q1 : (prow E (is.getD r 0)).1 = (prow P r).1
        · have q1' : nI (prow P r).1 = nI (prow E (is.getD r 0)).1 := by rw [q1]
          rcases gI_ok bg br.2.1 be.2.1 with ⟨g1, a1, a2, a3⟩ | ⟨a1, a2, a3⟩
          · have ev1 : fM_agree_L32 293 (nI q) (nI is.length) (nI r) μ2 = fM_agree_110 293 (nI q) (nI is.length) (nI r) (nI (4 * q + r)) (nI (is.getD r 0)) μ2 := by
              rcases a2 with a2 | ⟨a2, a2'⟩
              · simp only [fM_agree_L32, c0, if_false, g293_37 h2, g293_11 h2, g293_30 h2, g293_38 h2, g293_12 h2, Option.bind_some, t0, ix43, tT, tE, q1', if_true, tPA, tG, a2]
              · simp only [fM_agree_L32, c0, if_false, g293_37 h2, g293_11 h2, g293_30 h2, g293_38 h2, g293_12 h2, g293_31 h2, Option.bind_some, t0, ix43, tT, tE, q1', if_true, tPA, tG, tA, a2', nI_pos (show (prow E (is.getD r 0)).2.1 < 2 ^ 31 by omega)]
            have h3 : Sh (xsI μ2 318 (prow P r).2.1 (nI (prow E (is.getD r 0)).2.1)) := h2
            have b1 : gB 64 g1 := plead_B be.2.1 bg a1
            have hg1 : pGoes (xsI μ2 318 (prow P r).2.1 (nI (prow E (is.getD r 0)).2.1)) g1 := fun t ht => by
              rw [← a3 t]
              by_cases e : t = (prow P r).2.1
              · rw [if_pos e, e, xI_eq]
              · rw [if_neg e, xI_ne (by omega)]; exact hg t ht
            have tB : ldA (xsI μ2 318 (prow P r).2.1 (nI (prow E (is.getD r 0)).2.1)) 315 (nI (is.getD r 0)) = some (nI (prow E (is.getD r 0)).2.2) := by rw [la315 h3 i12, xI_ne (by omega), f2.I (by omega), (cE.2.2.1 _ p2).2.2]
            have tPB : ldA (xsI μ2 318 (prow P r).2.1 (nI (prow E (is.getD r 0)).2.1)) 302 (nI (4 * q + r)) = some (nI (prow P r).2.2) := by rw [la302 h3 i64, xI_ne (by omega), f2.I (by omega), (cM.2.2.1 _ hrP).2.2]; rfl
            have tG2 : ldA (xsI μ2 318 (prow P r).2.1 (nI (prow E (is.getD r 0)).2.1)) 318 (nI (prow P r).2.2) = some (gI g1 (prow P r).2.2) := by rw [la318 h3 br.2.2, hg1 _ br.2.2]
            rcases gI_ok b1 br.2.2 be.2.2 with ⟨g2, d1, d2, d3⟩ | ⟨d1, d2, d3⟩
            · left
              have hst : pstep (prow E (is.getD r 0)) (prow P r) g = some g2 := by
                unfold pstep
                rw [if_pos q1, a1]
                exact d1
              have ev2 : fM_agree_110 293 (nI q) (nI is.length) (nI r) (nI (4 * q + r)) (nI (is.getD r 0)) μ2 = some (.inl (nI (r + 1), xsI (xsI μ2 318 (prow P r).2.1 (nI (prow E (is.getD r 0)).2.1)) 318 (prow P r).2.2 (nI (prow E (is.getD r 0)).2.2))) := by
                rcases d2 with d2 | ⟨d2, d2'⟩
                · simp only [fM_agree_110, g293_38 h2, g293_12 h2, g293_31 h2, Option.bind_some, tPA, tA, sa318 h2 _ br.2.1, g293_38 h3, g293_13 h3, tPB, tG2, d2, if_true, fM_agree_168, g293_32 h3, tB, sa318 h3 _ br.2.2, inc1]
                · simp only [fM_agree_110, g293_38 h2, g293_12 h2, g293_31 h2, Option.bind_some, tPA, tA, sa318 h2 _ br.2.1, g293_38 h3, g293_13 h3, tPB, tG2, d2', nI_pos (show (prow E (is.getD r 0)).2.2 < 2 ^ 31 by omega), if_false, if_true, fM_agree_168, g293_32 h3, tB, sa318 h3 _ br.2.2, inc1]
              refine ⟨_, ev1.trans ev2, rfl, (f2.s _ rfl).s _ rfl, g2, plead_B be.2.2 b1 d1, fun t ht => ?_, ?_⟩
              · rw [← d3 t]
                by_cases e : t = (prow P r).2.2
                · rw [if_pos e, e, xI_eq]
                · rw [if_neg e, xI_ne (by omega)]; exact hg1 t ht
              · rw [hp', pway_yes hst]
            · right
              have hst : pstep (prow E (is.getD r 0)) (prow P r) g = none := by
                unfold pstep
                rw [if_pos q1, a1]
                exact d1
              refine ⟨(xc 0, xsI μ2 318 (prow P r).2.1 (nI (prow E (is.getD r 0)).2.1)), ev1.trans ?_, f2.s _ rfl, Or.inl ⟨by rw [hp', pway_no hst], rfl⟩⟩
              simp only [fM_agree_110, g293_38 h2, g293_12 h2, g293_31 h2, Option.bind_some, tPA, tA, sa318 h2 _ br.2.1, g293_38 h3, g293_13 h3, tPB, tG2, d2, d3, if_false, g293_32 h3, tB, fM_agree_166, Option.map_some]
          · right
            have hst : pstep (prow E (is.getD r 0)) (prow P r) g = none := by
              unfold pstep
              rw [if_pos q1, a1]
            refine ⟨(xc 0, μ2), ?_, f2, Or.inl ⟨by rw [hp', pway_no hst], rfl⟩⟩
            simp only [fM_agree_L32, c0, if_false, g293_37 h2, g293_11 h2, g293_30 h2, g293_38 h2, g293_12 h2, g293_31 h2, Option.bind_some, t0, ix43, tT, tE, q1', if_true, tPA, tG, tA, a2, a3, fM_agree_108, Option.map_some]
        · right
          have q1' : ¬ nI (prow P r).1 = nI (prow E (is.getD r 0)).1 := fun z => q1 ((nI64 (by omega) (by omega)).mp z).symm
          refine ⟨(xc 0, μ2), ?_, f2, Or.inl ⟨?_, rfl⟩⟩
          · simp only [fM_agree_L32, c0, if_false, g293_37 h2, g293_11 h2, g293_30 h2, Option.bind_some, t0, ix43, tT, tE, q1', fM_agree_69, Option.map_some]
          · rw [hp', pway_no (if_neg q1)]
      · rintro ⟨x, μ2⟩ ⟨rfl, f2, g, bg, hg, hp⟩
        rw [List.drop_length, pway_nil] at hp
        refine ⟨(xc 1, μ2), ?_, f2, Or.inr ⟨g, hp, rfl, hg, bg⟩⟩
        simp only [fM_agree_L32, Int32.le_refl, if_true, fM_agree_193, Option.map_some]
  obtain ⟨⟨r, μ1⟩, a1, a2, a3⟩ := goal
  exact ⟨r, μ1, a1, a2, a3⟩
def mea : List Nat → Nat → Nat
  | [], _ => 0
  | j :: js, w => (14 - j) * 15 ^ w + mea js (w - 1)
theorem mea_snoc (j : Nat) : ∀ (js : List Nat) (w : Nat), mea (js ++ [j]) w = mea js w + (14 - j) * 15 ^ (w - js.length)
  | [], w => by
    show (14 - j) * 15 ^ w + 0 = 0 + (14 - j) * 15 ^ (w - 0)
    rw [Nat.add_zero, Nat.zero_add, Nat.sub_zero]
  | k :: js, w => by
    show (14 - k) * 15 ^ w + mea (js ++ [j]) (w - 1) = (14 - k) * 15 ^ w + mea js (w - 1) + _
    rw [mea_snoc j js (w - 1), List.length_cons, Nat.add_assoc, show w - 1 - js.length = w - (js.length + 1) by omega]
/-- picks in memory: js full ones (one more than their places), then one of which j is one more than the place -/
def Picks (μ : xM) (P E : xPic) (js : List Nat) (j : Nat) (L : List pG) : Prop := js.length < P.1.length ∧ (∀ k, k < js.length → 1 ≤ js.getD k 0 ∧ js.getD k 0 ≤ E.1.length ∧ xI μ 317 k = nI (js.getD k 0 - 1)) ∧ xI μ 317 js.length = nI j - xc 1 ∧ j ≤ E.1.length ∧ (∃ g, pway E.1 P.1 (js.map (· - 1)) gN = some g) ∧ L = prest E.1 P.1 (js ++ [j]) gN
/-- a way is at hand, these are behind it -/
def Way (μ : xM) (P E : xPic) (L : List pG) : Prop := ∃ js j, js.length + 1 = P.1.length ∧ Picks μ P E js j L
theorem Picks.fr {μ' : xM} {js : List Nat} {j : Nat} {L : List pG} {W : Nat → Nat → Prop} (p : Picks μ P E js j L) (f : Fr W μ μ') (d : ∀ k, ¬ W 317 k) : Picks μ' P E js j L := by
  obtain ⟨p1, p2, p3, p4⟩ := p
  exact ⟨p1, fun k hk => ⟨(p2 k hk).1, (p2 k hk).2.1, (f.I (d k)).trans (p2 k hk).2.2⟩, (f.I (d _)).trans p3, p4⟩
theorem Way.fr {μ' : xM} {L : List pG} {W : Nat → Nat → Prop} (p : Way μ P E L) (f : Fr W μ μ') (d : ∀ k, ¬ W 317 k) : Way μ' P E L := by
  obtain ⟨js, j, p1, p2⟩ := p
  exact ⟨js, j, p1, p2.fr f d⟩
/-- what the search for the next way comes to -/
def NextW (μ : xM) (P E : xPic) (L : List pG) (a : Int32 × xM) : Prop := Fr (fun a _ => a = 317 ∨ a = 318) μ a.2 ∧ ((L = [] ∧ a.1 = xc 0) ∨ ∃ g tl, L = g :: tl ∧ a.1 = xc 1 ∧ pGoes a.2 g ∧ gB 64 g ∧ Way a.2 P E tl)
theorem getD_snoc {l : List Nat} {x : Nat} {k : Nat} (hk : k < (l ++ [x]).length) : (k < l.length ∧ (l ++ [x]).getD k 0 = l.getD k 0) ∨ (k = l.length ∧ (l ++ [x]).getD k 0 = x) := by
  rw [List.length_append, List.length_singleton] at hk
  by_cases e : k = l.length
  · right
    subst e
    exact ⟨rfl, getD_app_r⟩
  · left
    exact ⟨by omega, getD_app_l (by omega)⟩
theorem wayLoop_ok (h : Sh μ) (cM : PicM μ q P) (hq : q < 16) (w : PicWf P) (cE : PicE μ E) (lE : E.1.length ≤ 12) (bE : TB E 64) (L : List pG) : ∀ n m s, m < n → (Fr (fun a _ => a = 317 ∨ a = 318) μ s.2 ∧ ((s.1 = xc (-1) ∧ L = []) ∨ ∃ js j, s.1 = nI js.length ∧ m = mea (js ++ [j]) 3 + 1 ∧ Picks s.2 P E js j L)) → ∃ a, xwh (fun s : Int32 × xM => fM_nextWay_L37 293 (nI q) s.1 s.2) s = some a ∧ NextW μ P E L a := by
  have w4 := w.2.1
  have w1 := w.1
  refine xwh_dec (body := fun s : Int32 × xM => fM_nextWay_L37 293 (nI q) s.1 s.2) (fun m s => Fr (fun a _ => a = 317 ∨ a = 318) μ s.2 ∧ ((s.1 = xc (-1) ∧ L = []) ∨ ∃ js j, s.1 = nI js.length ∧ m = mea (js ++ [j]) 3 + 1 ∧ Picks s.2 P E js j L)) (NextW μ P E L) ?_
  rintro m ⟨x, μ'⟩ ⟨f, hx⟩
  have h' := f.sh h
  rcases hx with ⟨hx, hL⟩ | ⟨js, j, rfl, rfl, p1, p2, p3, p4, ⟨g, p5⟩, p6⟩
  · right
    have hx' : x = xc (-1) := hx
    subst hx'
    refine ⟨(xc 0, μ'), ?_, f, Or.inl ⟨hL, rfl⟩⟩
    simp only [fM_nextWay_L37, show (xc (-1) < 0) = True from by decide, if_true, fM_nextWay_108, Option.map_some]
  · have d4 : js.length < 4 := by omega
    have cM' : PicM μ' q P := cM.fr' f (fun a k q => by omega)
    have n0 : ¬ nI js.length < 0 := nI_pos (by omega)
    have t0 : ldA μ' 317 (nI js.length) = some (nI j - xc 1) := by rw [la317 h' d4, p3]
    have e1 : nI j - xc 1 + xc 1 = nI j := Int32.sub_add_cancel _ _
    have h2 : Sh (xsI μ' 317 js.length (nI j)) := h'
    have f2 : Fr (fun a _ => a = 317 ∨ a = 318) μ (xsI μ' 317 js.length (nI j)) := f.s _ (Or.inl rfl)
    have t1 : ldA (xsI μ' 317 js.length (nI j)) 317 (nI js.length) = some (nI j) := by rw [la317 h2 d4, xI_eq]
    have t2 : ldF (xsI μ' 317 js.length (nI j)) 293 9 29 = some (nI E.1.length) := by rw [f293 h2, xI_ne (by omega), f.I (by omega), cE.1]
    rw [prest_snoc E.1 j js P.1 gN g p1 p5] at p6
    by_cases q1 : j < E.1.length
    · have c1 : nI j < nI E.1.length := nI_lt q1 (by omega)
      -- the picks with this one
      have il : (js.map (· - 1) ++ [j]).length = js.length + 1 := by rw [List.length_append, List.length_map, List.length_singleton]
      have isok : ∀ k, k < (js.map (· - 1) ++ [j]).length → xI (xsI μ' 317 js.length (nI j)) 317 k = nI ((js.map (· - 1) ++ [j]).getD k 0) ∧ (js.map (· - 1) ++ [j]).getD k 0 < E.1.length := by
        intro k hk
        rcases getD_snoc hk with ⟨k1, k2⟩ | ⟨k1, k2⟩
        · rw [List.length_map] at k1
          rw [k2, getD_map (d := 0) k1, xI_ne (by omega)]
          obtain ⟨z1, z2, z3⟩ := p2 k k1
          exact ⟨z3, by omega⟩
        · rw [List.length_map] at k1
          subst k1
          rw [k2, xI_eq]
          exact ⟨rfl, q1⟩
      have cM2 : PicM (xsI μ' 317 js.length (nI j)) q P := cM.fr' f2 (fun a k q => by omega)
      have cE2 : PicE (xsI μ' 317 js.length (nI j)) E := cE.fr f2 (fun a k q => by omega)
      obtain ⟨r, μ3, g1, f3, g2⟩ := agree_ok h2 cM2 hq w cE2 lE bE (js.map (· - 1) ++ [j]) (by rw [il]; omega) isok
      rw [il] at g1
      have h3 := f3.sh h2
      have hw : pway E.1 P.1 (js.map (· - 1) ++ [j]) gN = pstep (E.1.getD j (0, 0, 0)) (P.1.getD js.length (0, 0, 0)) g := by
        rw [pway_snoc E.1 j (js.map (· - 1)) P.1 gN (by rw [List.length_map]; exact p1), p5, List.length_map]
        rfl
      rw [drop_succD (0, 0, 0) q1, List.flatMap_cons, List.append_assoc] at p6
      have p6' : (E.1.drop (j + 1)).flatMap (pF E.1 (P.1.drop (js.length + 1)) (P.1.getD js.length (0, 0, 0)) g) ++ prest E.1 P.1 js gN = prest E.1 P.1 (js ++ [j + 1]) gN := (prest_snoc E.1 (j + 1) js P.1 gN g p1 p5).symm
      rw [p6'] at p6
      have ff : Fr (fun a _ => a = 317 ∨ a = 318) μ μ3 := f2.trans (f3.mono (fun a k q => Or.inr q))
      have pk3 : ∀ k, k < js.length → 1 ≤ js.getD k 0 ∧ js.getD k 0 ≤ E.1.length ∧ xI μ3 317 k = nI (js.getD k 0 - 1) := fun k hk => ⟨(p2 k hk).1, (p2 k hk).2.1, by rw [f3.I (by omega), xI_ne (by omega)]; exact (p2 k hk).2.2⟩
      have pj3 : xI μ3 317 js.length = nI (j + 1) - xc 1 := by rw [f3.I (by omega), xI_eq, show nI (j + 1) - xc 1 = nI (j + 1 - 1) from pk_sub (b := 1) (by omega)]; rfl
      rcases g2 with ⟨g2, rfl⟩ | ⟨g', g2, rfl, g3, g4⟩
      · left
        rw [hw] at g2
        rw [pF_no g2] at p6
        refine ⟨(nI js.length, μ3), _, ?_, ?_, ff, Or.inr ⟨js, j + 1, rfl, rfl, p1, pk3, pj3, q1, ⟨g, p5⟩, p6⟩⟩
        · rw [mea_snoc, mea_snoc]
          obtain ⟨y, hy⟩ : ∃ y, 14 - j = y + 1 := ⟨13 - j, by omega⟩
          have hpos : 0 < 15 ^ (3 - js.length) := Nat.pow_pos (by decide)
          rw [hy, show 14 - (j + 1) = y by omega]
          have hm : (y + 1) * 15 ^ (3 - js.length) = y * 15 ^ (3 - js.length) + 15 ^ (3 - js.length) := Nat.succ_mul y (15 ^ (3 - js.length))
          omega
        · simp only [fM_nextWay_L37, n0, if_false, g293_37 h', Option.bind_some, t0, e1, sa317 h' _ d4, g293_37 h2, t1, t2, c1, if_true, inc1, g1, xc0T]
      · have tR : ldA μ3 299 (nI q) = some (nI P.1.length) := by rw [la299 h3 hq, ff.I (by omega), cM.1]
        have eR : nI P.1.length - xc 1 = nI (P.1.length - 1) := pk_sub (b := 1) (by omega)
        have hst := hw.symm.trans g2
        rw [pF_yes hst] at p6
        by_cases q2 : js.length + 1 = P.1.length
        · right
          have eR2 : nI P.1.length - xc 1 = nI js.length := by rw [eR, ← q2]; rfl
          rw [show P.1.drop (js.length + 1) = [] from by rw [q2, List.drop_length], phoms_nil] at p6
          refine ⟨(xc 1, μ3), ?_, ff, Or.inr ⟨g', _, p6, rfl, g3, g4, js, j + 1, q2, p1, pk3, pj3, q1, ⟨g, p5⟩, rfl⟩⟩
          simp only [fM_nextWay_L37, n0, if_false, g293_37 h', Option.bind_some, t0, e1, sa317 h' _ d4, g293_37 h2, t1, t2, c1, if_true, inc1, g1, xc1F, g293_10 h3, tR, eR2, fM_nextWay_93, Option.map_some]
        · left
          have c2 : ¬ nI js.length = nI (P.1.length - 1) := fun z => by
            have := (nI64 (by omega) (by omega)).mp z
            omega
          have l1 : js.length + 1 < P.1.length := by omega
          have d5 : js.length + 1 < 4 := by omega
          have pw : pway E.1 P.1 ((js ++ [j + 1]).map (· - 1)) gN = some g' := by
            rw [List.map_append, ← g2]
            rfl
          have ln : (js ++ [j + 1]).length = js.length + 1 := by rw [List.length_append, List.length_singleton]
          have p7 := prest_snoc E.1 0 (js ++ [j + 1]) P.1 gN g' (by rw [ln]; exact l1) pw
          rw [List.drop_zero, ln, ← phoms_cons, ← drop_succD (0, 0, 0) l1] at p7
          rw [← p7] at p6
          refine ⟨(nI (js.length + 1), xsI μ3 317 (js.length + 1) (xc (-1))), _, ?_, ?_, ff.s _ (Or.inl rfl), Or.inr ⟨js ++ [j + 1], 0, by rw [ln], rfl, by rw [ln]; exact l1, fun k hk => ?_, ?_, Nat.zero_le _, ⟨g', pw⟩, p6⟩⟩
          · rw [mea_snoc, mea_snoc, mea_snoc, ln]
            obtain ⟨y, hy⟩ : ∃ y, 14 - j = y + 1 := ⟨13 - j, by omega⟩
            obtain ⟨z, hz⟩ : ∃ z, 3 - js.length = z + 1 := ⟨2 - js.length, by omega⟩
            have hpos : 0 < 15 ^ z := Nat.pow_pos (by decide)
            rw [hy, show 14 - (j + 1) = y by omega, hz, show 3 - (js.length + 1) = z by omega, Nat.pow_succ]
            have hm : (y + 1) * (15 ^ z * 15) = y * (15 ^ z * 15) + 15 ^ z * 15 := Nat.succ_mul y (15 ^ z * 15)
            omega
          · simp only [fM_nextWay_L37, n0, if_false, g293_37 h', Option.bind_some, t0, e1, sa317 h' _ d4, g293_37 h2, t1, t2, c1, if_true, inc1, g1, xc1F, g293_10 h3, tR, eR, c2, g293_37 h3, sa317 h3 _ d5]
          · rcases getD_snoc hk with ⟨k1, k2⟩ | ⟨k1, k2⟩
            · rw [k2, xI_ne (by omega)]
              exact pk3 k k1
            · subst k1
              rw [k2, xI_ne (by omega), pj3]
              exact ⟨by omega, by omega, pk_sub (b := 1) (by omega)⟩
          · rw [ln, xI_eq]
            decide
    · left
      have c1 : ¬ nI j < nI E.1.length := nI_nlt (by omega) (by omega)
      have ev : fM_nextWay_L37 293 (nI q) (nI js.length) μ' = some (.inl (nI js.length + xc (-1), xsI μ' 317 js.length (nI j))) := by
        simp only [fM_nextWay_L37, n0, if_false, g293_37 h', Option.bind_some, t0, e1, sa317 h' _ d4, g293_37 h2, t1, t2, c1]
      rw [List.drop_eq_nil_of_le (show E.1.length ≤ j by omega), List.flatMap_nil, List.nil_append] at p6
      rcases List.eq_nil_or_concat js with hj | ⟨js', j', hj⟩
      · subst hj
        rw [prest_nil] at p6
        exact ⟨_, 0, Nat.succ_pos _, ev, f2, Or.inl ⟨show nI 0 + xc (-1) = xc (-1) from by decide, p6⟩⟩
      · rw [List.concat_eq_append] at hj
        subst hj
        have ln : (js' ++ [j']).length = js'.length + 1 := by rw [List.length_append, List.length_singleton]
        have hlast := p2 js'.length (by rw [ln]; omega)
        rw [getD_app_r] at hlast
        refine ⟨_, mea (js' ++ [j']) 3 + 1, ?_, ev, f2, Or.inr ⟨js', j', ?_, rfl, by omega, fun k hk => ?_, ?_, hlast.2.1, ?_, p6⟩⟩
        · rw [mea_snoc j (js' ++ [j'])]
          have hpos : 0 < 15 ^ (3 - (js' ++ [j']).length) := Nat.pow_pos (by decide)
          have : 0 < (14 - j) * 15 ^ (3 - (js' ++ [j']).length) := Nat.mul_pos (by omega) hpos
          omega
        · rw [ln, ← inc1, Int32.add_assoc, show xc 1 + xc (-1) = 0 from by decide, Int32.add_zero]
        · have := p2 k (by rw [ln]; omega)
          rw [getD_app_l hk] at this
          rw [xI_ne (by omega)]
          exact this
        · rw [xI_ne (by omega), hlast.2.2, show nI j' - xc 1 = nI (j' - 1) from pk_sub (b := 1) hlast.1]
        · rw [List.map_append] at p5
          have p5' : pway E.1 P.1 (js'.map (· - 1) ++ [j' - 1]) gN = some g := p5
          rw [pway_snoc E.1 (j' - 1) (js'.map (· - 1)) P.1 gN (by rw [List.length_map]; omega)] at p5'
          cases hz : pway E.1 P.1 (js'.map (· - 1)) gN with
          | none => rw [hz] at p5'; cases p5'
          | some g0 => exact ⟨g0, rfl⟩
theorem nextFirst_ok (h : Sh μ) (cM : PicM μ q P) (hq : q < 16) (w : PicWf P) (cE : PicE μ E) (lE : E.1.length ≤ 12) (bE : TB E 64) : ∃ a, fM_nextWay 293 (nI q) (xc 1) μ = some a ∧ NextW μ P E (phoms E.1 P.1 gN) a := by
  have w1 := w.1
  have f : Fr (fun a _ => a = 317 ∨ a = 318) μ (xsI μ 317 0 (xc (-1))) := (Fr.refl μ).s _ (Or.inl rfl)
  have e : phoms E.1 P.1 gN = prest E.1 P.1 ([] ++ [0]) gN := by
    rw [prest_snoc E.1 0 [] P.1 gN gN w1 (by rw [List.map_nil, pway_nil]), prest_nil, List.append_nil, List.drop_zero, List.length_nil, ← phoms_cons, ← drop_succD (0, 0, 0) w1, List.drop_zero]
  obtain ⟨a, a1, a2⟩ := wayLoop_ok h cM hq w cE lE bE (phoms E.1 P.1 gN) (mea ([] ++ [0]) 3 + 2) (mea ([] ++ [0]) 3 + 1) (xc 0, xsI μ 317 0 (xc (-1))) (Nat.lt_succ_self _) ⟨f, Or.inr ⟨[], 0, rfl, rfl, w1, fun k hk => absurd hk (Nat.not_lt_zero k), by rw [List.length_nil, xI_eq]; decide, Nat.zero_le _, ⟨gN, by rw [List.map_nil, pway_nil]⟩, e⟩⟩
  refine ⟨a, ?_, a2⟩
  have s0 : ∀ v, stA μ 317 (xc 0) v = some (xsI μ 317 0 v) := fun v => sa317 (n := 0) h v (by decide)
  simp only [fM_nextWay, fM_nextWay_0, gd293 h, xc1F, if_false, fM_nextWay_16, g293_37 h, Option.bind_some, fM_nextWay_36, s0]
  exact a1
theorem nextMore_ok (h : Sh μ) (cM : PicM μ q P) (hq : q < 16) (w : PicWf P) (cE : PicE μ E) (lE : E.1.length ≤ 12) (bE : TB E 64) {L : List pG} (hw : Way μ P E L) : ∃ a, fM_nextWay 293 (nI q) (xc 0) μ = some a ∧ NextW μ P E L a := by
  have w1 := w.1
  have w4 := w.2.1
  obtain ⟨js, j, hn, p1, p2, p3, p4⟩ := hw
  have f : Fr (fun a _ => a = 317 ∨ a = 318) μ (xsI μ 317 0 (xI μ 317 0)) := (Fr.refl μ).s _ (Or.inl rfl)
  have same : ∀ k, xI (xsI μ 317 0 (xI μ 317 0)) 317 k = xI μ 317 k := fun k => by
    by_cases e : k = 0
    · subst e; rw [xI_eq]
    · rw [xI_ne (by omega)]
  obtain ⟨a, a1, a2⟩ := wayLoop_ok h cM hq w cE lE bE L (mea (js ++ [j]) 3 + 2) (mea (js ++ [j]) 3 + 1) (nI js.length, xsI μ 317 0 (xI μ 317 0)) (Nat.lt_succ_self _) ⟨f, Or.inr ⟨js, j, rfl, rfl, p1, fun k hk => ⟨(p2 k hk).1, (p2 k hk).2.1, (same k).trans (p2 k hk).2.2⟩, (same _).trans p3, p4⟩⟩
  refine ⟨a, ?_, a2⟩
  have s0 : ∀ v, stA μ 317 (xc 0) v = some (xsI μ 317 0 v) := fun v => sa317 (n := 0) h v (by decide)
  have l0 : ldA μ 317 (xc 0) = some (xI μ 317 0) := la317 (n := 0) h (by decide)
  have tR : ldA μ 299 (nI q) = some (nI P.1.length) := by rw [la299 h hq, cM.1]
  have eR : nI P.1.length - xc 1 = nI js.length := by rw [show nI P.1.length - xc 1 = nI (P.1.length - 1) from pk_sub (b := 1) (by omega), ← hn]; rfl
  simp only [fM_nextWay, fM_nextWay_0, gd293 h, xc0T, if_true, g293_10 h, tR, Option.bind_some, eR, fM_nextWay_16, g293_37 h, l0, fM_nextWay_36, s0]
  exact a1
end LEADM
