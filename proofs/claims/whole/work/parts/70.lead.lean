/-! leading rows: pure facts -/
abbrev pG : Type := Nat → Option Nat
def gN : pG := fun _ => none
def pstep (e r : xRow) (g : pG) : Option pG := if e.1 = r.1 then (match plead g r.2.1 e.2.1 with
  | none => none
  | some g1 => plead g1 r.2.2 e.2.2) else none
def pF (E rs : List xRow) (r : xRow) (g : pG) (e : xRow) : List pG := match pstep e r g with
  | none => []
  | some g' => phoms E rs g'
theorem phoms_cons (E : List xRow) (r : xRow) (rs : List xRow) (g : pG) : phoms E (r :: rs) g = E.flatMap (pF E rs r g) := by
  conv => lhs; unfold phoms
  congr 1
  funext e
  unfold pF pstep
  split
  · cases plead g r.2.1 e.2.1 with
    | none => rfl
    | some g1 => rfl
  · rfl
theorem phoms_nil (E : List xRow) (g : pG) : phoms E [] g = [g] := rfl
theorem pF_no {E rs : List xRow} {r e : xRow} {g : pG} (h : pstep e r g = none) : pF E rs r g e = [] := by unfold pF; rw [h]
theorem pF_yes {E rs : List xRow} {r e : xRow} {g g' : pG} (h : pstep e r g = some g') : pF E rs r g e = phoms E rs g' := by unfold pF; rw [h]
/-- rows led to picked ones -/
def pway (E : List xRow) : List xRow → List Nat → pG → Option pG
  | r :: rs, i :: is, g => match pstep (E.getD i (0, 0, 0)) r g with
    | none => none
    | some g' => pway E rs is g'
  | _, _, g => some g
theorem pway_nil (E rows : List xRow) (g : pG) : pway E rows [] g = some g := by cases rows <;> rfl
theorem pway_snoc (E : List xRow) (i : Nat) : ∀ (is : List Nat) (rows : List xRow) (g : pG), is.length < rows.length → pway E rows (is ++ [i]) g = (pway E rows is g).bind (fun g' => pstep (E.getD i (0, 0, 0)) (rows.getD is.length (0, 0, 0)) g')
  | [], r :: rs, g, _ => by
    rw [pway_nil]
    show pway E (r :: rs) [i] g = pstep (E.getD i (0, 0, 0)) r g
    unfold pway
    cases pstep (E.getD i (0, 0, 0)) r g with
    | none => rfl
    | some g' => exact pway_nil E rs g'
  | j :: is, r :: rs, g, h => by
    show pway E (r :: rs) (j :: (is ++ [i])) g = (pway E (r :: rs) (j :: is) g).bind _
    unfold pway
    cases pstep (E.getD j (0, 0, 0)) r g with
    | none => rfl
    | some g' => exact pway_snoc E i is rs g' (Nat.lt_of_succ_lt_succ h)
  | [], [], _, h => absurd h (Nat.lt_irrefl _)
  | _ :: _, [], _, h => absurd h (Nat.not_lt_zero _)
/-- all ways behind the picked one (picks are one more than their places; 0: none as yet) -/
def prest (E : List xRow) : List xRow → List Nat → pG → List pG
  | r :: rs, j :: js, g => (match js with
      | [] => []
      | _ => match pstep (E.getD (j - 1) (0, 0, 0)) r g with
        | none => []
        | some g' => prest E rs js g') ++ (E.drop j).flatMap (pF E rs r g)
  | _, _, _ => []
theorem prest_nil (E rows : List xRow) (g : pG) : prest E rows [] g = [] := by cases rows <;> rfl
theorem prest_snoc (E : List xRow) (j : Nat) : ∀ (js : List Nat) (rows : List xRow) (g g' : pG), js.length < rows.length → pway E rows (js.map (· - 1)) g = some g' → prest E rows (js ++ [j]) g = (E.drop j).flatMap (pF E (rows.drop (js.length + 1)) (rows.getD js.length (0, 0, 0)) g') ++ prest E rows js g
  | [], r :: rs, g, g', _, hw => by
    rw [List.map_nil, pway_nil] at hw
    cases hw
    rw [prest_nil, List.append_nil]
    rfl
  | k :: js, r :: rs, g, g', h, hw => by
    rw [List.map_cons] at hw
    unfold pway at hw
    cases hp : pstep (E.getD (k - 1) (0, 0, 0)) r g with
    | none => rw [hp] at hw; cases hw
    | some g1 =>
      rw [hp] at hw
      dsimp only at hw
      have ih := prest_snoc E j js rs g1 g' (Nat.lt_of_succ_lt_succ h) hw
      have e1 : prest E (r :: rs) (k :: (js ++ [j])) g = prest E rs (js ++ [j]) g1 ++ (E.drop k).flatMap (pF E rs r g) := by
        conv => lhs; unfold prest
        cases hjs : js ++ [j] with
        | nil => exact absurd hjs (by simp)
        | cons a b => dsimp only; rw [hp]
      have e2 : prest E (r :: rs) (k :: js) g = prest E rs js g1 ++ (E.drop k).flatMap (pF E rs r g) := by
        conv => lhs; unfold prest
        cases js with
        | nil => dsimp only; rw [prest_nil]
        | cons a b => dsimp only; rw [hp]
      show prest E (r :: rs) (k :: (js ++ [j])) g = _
      rw [e1, e2, ih, List.append_assoc]
      rfl
  | [], [], _, _, h, _ => absurd h (Nat.lt_irrefl _)
  | _ :: _, [], _, _, h, _ => absurd h (Nat.not_lt_zero _)
-- what leading gives
def Ext (g h : pG) : Prop := ∀ t u, g t = some u → h t = some u
def con (h : pG) (t s : Nat) : Prop := if t < 2 then t = s else h t = some s
def SatR (E rows : List xRow) (h : pG) : Prop := ∀ r, r ∈ rows → ∃ e, e ∈ E ∧ e.1 = r.1 ∧ con h r.2.1 e.2.1 ∧ con h r.2.2 e.2.2
theorem Ext.refl (g : pG) : Ext g g := fun _ _ h => h
theorem Ext.trans {a b c : pG} (h : Ext a b) (k : Ext b c) : Ext a c := fun t u q => k t u (h t u q)
theorem con.ext {g h : pG} (e : Ext g h) {t s : Nat} (c : con g t s) : con h t s := by
  unfold con at c ⊢
  split
  · rename_i q; rw [if_pos q] at c; exact c
  · rename_i q; rw [if_neg q] at c; exact e t s c
theorem plead_some {g g' : pG} {t s : Nat} (h : plead g t s = some g') : Ext g g' ∧ con g' t s := by
  unfold plead at h
  unfold con
  by_cases q : t < 2
  · rw [if_pos q] at h
    split at h
    · rename_i e; cases h; rw [if_pos q]; exact ⟨Ext.refl _, e⟩
    · cases h
  · rw [if_neg q] at h
    rw [if_neg q]
    cases hg : g t with
    | none =>
      rw [hg] at h
      cases h
      refine ⟨fun u v hu => ?_, if_pos rfl⟩
      by_cases e : u = t
      · rw [e, hg] at hu; cases hu
      · show (if u = t then some s else g u) = some v
        rw [if_neg e]; exact hu
    | some u =>
      rw [hg] at h
      dsimp only at h
      split at h
      · rename_i e; cases h; exact ⟨Ext.refl _, by rw [hg, e]⟩
      · cases h
theorem plead_ext {g h : pG} {t s : Nat} (e : Ext g h) (c : con h t s) : ∃ g', plead g t s = some g' ∧ Ext g' h := by
  unfold plead
  unfold con at c
  by_cases q : t < 2
  · rw [if_pos q] at c ⊢
    rw [if_pos c]
    exact ⟨g, rfl, e⟩
  · rw [if_neg q] at c ⊢
    cases hg : g t with
    | none =>
      refine ⟨_, rfl, fun u v hu => ?_⟩
      by_cases e2 : u = t
      · have hu' : (if u = t then some s else g u) = some v := hu
        rw [if_pos e2] at hu'
        rw [e2, c]; exact hu'
      · have hu' : (if u = t then some s else g u) = some v := hu
        rw [if_neg e2] at hu'
        exact e u v hu'
    | some u =>
      have : h t = some u := e t u hg
      rw [c] at this
      cases this
      dsimp only
      rw [if_pos rfl]
      exact ⟨g, rfl, e⟩
theorem pstep_some {g g' : pG} {r e : xRow} (h : pstep e r g = some g') : Ext g g' ∧ e.1 = r.1 ∧ con g' r.2.1 e.2.1 ∧ con g' r.2.2 e.2.2 := by
  unfold pstep at h
  split at h
  · rename_i q
    cases h1 : plead g r.2.1 e.2.1 with
    | none => rw [h1] at h; cases h
    | some g1 =>
      rw [h1] at h
      obtain ⟨a1, a2⟩ := plead_some h1
      obtain ⟨b1, b2⟩ := plead_some h
      exact ⟨a1.trans b1, q, a2.ext b1, b2⟩
  · cases h
theorem pstep_ext {g h : pG} {r e : xRow} (x : Ext g h) (q : e.1 = r.1) (c1 : con h r.2.1 e.2.1) (c2 : con h r.2.2 e.2.2) : ∃ g', pstep e r g = some g' ∧ Ext g' h := by
  obtain ⟨g1, a1, a2⟩ := plead_ext x c1
  obtain ⟨g2, b1, b2⟩ := plead_ext a2 c2
  refine ⟨g2, ?_, b2⟩
  unfold pstep
  rw [if_pos q, a1]
  exact b1
theorem phoms_sat {E : List xRow} {h : pG} : ∀ (rows : List xRow) (g : pG), h ∈ phoms E rows g → Ext g h ∧ SatR E rows h
  | [], g, q => by
    rw [phoms_nil, List.mem_singleton] at q
    subst q
    exact ⟨Ext.refl _, fun r hr => absurd hr List.not_mem_nil⟩
  | r :: rs, g, q => by
    rw [phoms_cons, List.mem_flatMap] at q
    obtain ⟨e, he, q⟩ := q
    cases hp : pstep e r g with
    | none => rw [pF_no hp] at q; exact absurd q List.not_mem_nil
    | some g' =>
      rw [pF_yes hp] at q
      obtain ⟨a1, a2⟩ := phoms_sat rs g' q
      obtain ⟨b1, b2, b3, b4⟩ := pstep_some hp
      refine ⟨b1.trans a1, fun r' hr' => ?_⟩
      rcases List.mem_cons.mp hr' with e1 | e1
      · subst e1; exact ⟨e, he, b2, b3.ext a1, b4.ext a1⟩
      · exact a2 r' e1
theorem sat_phoms {E : List xRow} {h : pG} : ∀ (rows : List xRow) (g : pG), Ext g h → SatR E rows h → ∃ k, k ∈ phoms E rows g ∧ Ext k h
  | [], g, x, _ => ⟨g, by rw [phoms_nil]; exact List.mem_singleton.mpr rfl, x⟩
  | r :: rs, g, x, s => by
    obtain ⟨e, he, q, c1, c2⟩ := s r List.mem_cons_self
    obtain ⟨g', a1, a2⟩ := pstep_ext x q c1 c2
    obtain ⟨k, b1, b2⟩ := sat_phoms rs g' a2 (fun r' hr' => s r' (List.mem_cons_of_mem _ hr'))
    refine ⟨k, ?_, b2⟩
    rw [phoms_cons, List.mem_flatMap]
    exact ⟨e, he, by rw [pF_yes a1]; exact b1⟩
/-- terms in places led to terms in places -/
def pleads : pG → List Nat → List Nat → Option pG
  | g, t :: ts, s :: ss => match plead g t s with
    | none => none
    | some g' => pleads g' ts ss
  | g, _, _ => some g
def SatH (ts ss : List Nat) (h : pG) : Prop := ∀ i, i < ts.length → con h (ts.getD i 0) (ss.getD i 0)
theorem pleads_some {g' : pG} : ∀ (ts ss : List Nat) (g : pG), ts.length = ss.length → pleads g ts ss = some g' → Ext g g' ∧ SatH ts ss g'
  | [], ss, g, _, h => by
    cases h
    exact ⟨Ext.refl _, fun i hi => absurd hi (Nat.not_lt_zero i)⟩
  | t :: ts, [], g, hl, h => absurd hl (by simp)
  | t :: ts, s :: ss, g, hl, h => by
    unfold pleads at h
    cases hp : plead g t s with
    | none => rw [hp] at h; cases h
    | some g1 =>
      rw [hp] at h
      obtain ⟨a1, a2⟩ := plead_some hp
      obtain ⟨b1, b2⟩ := pleads_some ts ss g1 (by simpa using hl) h
      refine ⟨a1.trans b1, fun i hi => ?_⟩
      cases i with
      | zero => exact a2.ext b1
      | succ i => exact b2 i (by simpa using hi)
theorem pleads_ext {h : pG} : ∀ (ts ss : List Nat) (g : pG), ts.length = ss.length → Ext g h → SatH ts ss h → ∃ g', pleads g ts ss = some g' ∧ Ext g' h
  | [], ss, g, _, x, _ => ⟨g, by cases ss <;> rfl, x⟩
  | t :: ts, [], g, hl, _, _ => absurd hl (by simp)
  | t :: ts, s :: ss, g, hl, x, c => by
    obtain ⟨g1, a1, a2⟩ := plead_ext x (c 0 (by simp))
    obtain ⟨g2, b1, b2⟩ := pleads_ext ts ss g1 (by simpa using hl) a2 (fun i hi => c (i + 1) (by simpa using hi))
    refine ⟨g2, ?_, b2⟩
    unfold pleads
    have a1' : plead g t s = some g1 := a1
    rw [a1']
    exact b1
theorem pim_con {h : pG} {t s : Nat} (ht : 2 ≤ t → h t ≠ none) : con h t s ↔ pim h t = s := by
  unfold con pim
  by_cases q : t < 2
  · rw [if_pos q, if_pos q]
  · rw [if_neg q, if_neg q]
    cases e : h t with
    | none => exact absurd e (ht (by omega))
    | some u => simp
/-- names of a told picture's head are led -/
theorem head_led {E : List xRow} {q : xPic} (w : PicWf q) {g h : pG} (hh : h ∈ phoms E q.1 g) {t : Nat} (ht : t ∈ q.2) : h t ≠ none := by
  obtain ⟨w1, w2, r, hr, e⟩ := w.2.2.2.2 t ht
  obtain ⟨_, s⟩ := phoms_sat _ _ hh
  obtain ⟨x, _, _, c1, c2⟩ := s r hr
  unfold con at c1 c2
  rcases e with e | e
  · rw [e, if_neg (by omega)] at c1
    rw [c1]; exact fun q => by cases q
  · rw [e, if_neg (by omega)] at c2
    rw [c2]; exact fun q => by cases q
theorem within_iff {E : xPic × Nat × Bool} {q : xPic} (w : PicWf q) (hl : E.1.2.length = q.2.length) : (∃ g, pleads gN q.2 E.1.2 = some g ∧ phoms E.1.1 q.1 g ≠ []) ↔ ∃ g, g ∈ phoms E.1.1 q.1 gN ∧ q.2.map (pim g) = E.1.2 := by
  constructor
  · rintro ⟨g, a1, a2⟩
    obtain ⟨b1, b2⟩ := pleads_some _ _ _ hl.symm a1
    obtain ⟨h, hh⟩ := List.exists_mem_of_ne_nil _ a2
    obtain ⟨c1, c2⟩ := phoms_sat _ _ hh
    obtain ⟨k, d1, d2⟩ := sat_phoms q.1 gN (fun t u e => by cases e) c2
    refine ⟨k, d1, ?_⟩
    apply List.ext_getElem
    · rw [List.length_map]; exact hl.symm
    · intro i h1 h2
      rw [List.getElem_map]
      rw [List.length_map] at h1
      have hm : q.2[i] ∈ q.2 := List.getElem_mem h1
      have kn := head_led w d1 hm
      have := (b2 i h1).ext c1
      rw [List.getD_eq_getElem?_getD, List.getElem?_eq_getElem h1, List.getD_eq_getElem?_getD, List.getElem?_eq_getElem h2] at this
      have c3 : con h q.2[i] E.1.2[i] := this
      refine (pim_con (fun _ => kn)).mp ?_
      unfold con at c3 ⊢
      have := w.2.2.2.2 _ hm
      rw [if_neg (by omega)] at c3 ⊢
      cases hk : k q.2[i] with
      | none => exact absurd hk kn
      | some u =>
        have := d2 _ _ hk
        rw [c3] at this
        exact this.symm
  · rintro ⟨h, hh, e⟩
    obtain ⟨c1, c2⟩ := phoms_sat _ _ hh
    have sh : SatH q.2 E.1.2 h := by
      intro i hi
      have hi2 : i < E.1.2.length := by rw [hl]; exact hi
      rw [List.getD_eq_getElem?_getD, List.getElem?_eq_getElem hi, List.getD_eq_getElem?_getD, List.getElem?_eq_getElem hi2]
      show con h q.2[i] E.1.2[i]
      refine (pim_con (fun _ => head_led w hh (List.getElem_mem hi))).mpr ?_
      have : (q.2.map (pim h))[i]'(by rw [List.length_map]; exact hi) = E.1.2[i] := by simp only [e]
      rw [List.getElem_map] at this
      exact this
    obtain ⟨g, a1, a2⟩ := pleads_ext q.2 E.1.2 gN hl.symm (fun t u e => by cases e) sh
    obtain ⟨k, b1, _⟩ := sat_phoms q.1 g a2 c2
    exact ⟨g, a1, List.ne_nil_of_mem b1⟩
/-- terms of an end within bounds -/
def gB (B : Nat) (g : pG) : Prop := ∀ t u, g t = some u → u < B
theorem plead_B {B : Nat} {g g' : pG} {t s : Nat} (hs : s < B) (b : gB B g) (h : plead g t s = some g') : gB B g' := by
  unfold plead at h
  split at h
  · split at h
    · cases h; exact b
    · cases h
  · cases hg : g t with
    | none =>
      rw [hg] at h
      cases h
      intro u v hu
      have hu' : (if u = t then some s else g u) = some v := hu
      split at hu'
      · cases hu'; exact hs
      · exact b u v hu'
    | some u =>
      rw [hg] at h
      dsimp only at h
      split at h
      · cases h; exact b
      · cases h
theorem pstep_B {B : Nat} {g g' : pG} {r e : xRow} (h1 : e.2.1 < B) (h2 : e.2.2 < B) (b : gB B g) (h : pstep e r g = some g') : gB B g' := by
  unfold pstep at h
  split at h
  · cases hp : plead g r.2.1 e.2.1 with
    | none => rw [hp] at h; cases h
    | some g1 =>
      rw [hp] at h
      exact plead_B h2 (plead_B h1 b hp) h
  · cases h
theorem phoms_B {B : Nat} {E : List xRow} {h : pG} (hE : ∀ e, e ∈ E → e.2.1 < B ∧ e.2.2 < B) : ∀ (rows : List xRow) (g : pG), gB B g → h ∈ phoms E rows g → gB B h
  | [], g, b, q => by
    rw [phoms_nil, List.mem_singleton] at q
    rw [q]; exact b
  | r :: rs, g, b, q => by
    rw [phoms_cons, List.mem_flatMap] at q
    obtain ⟨e, he, q⟩ := q
    cases hp : pstep e r g with
    | none => rw [pF_no hp] at q; exact absurd q List.not_mem_nil
    | some g' =>
      rw [pF_yes hp] at q
      exact phoms_B hE rs g' (pstep_B (hE e he).1 (hE e he).2 b hp) q
theorem pleads_yes {g g' : pG} {t s : Nat} {ts ss : List Nat} (h : plead g t s = some g') : pleads g (t :: ts) (s :: ss) = pleads g' ts ss := by
  conv => lhs; unfold pleads
  rw [h]
theorem pleads_no {g : pG} {t s : Nat} {ts ss : List Nat} (h : plead g t s = none) : pleads g (t :: ts) (s :: ss) = none := by
  unfold pleads
  rw [h]
