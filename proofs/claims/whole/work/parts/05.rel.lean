/-! how the abstract memory and frames stand for the machine's: addresses (0: the script's cell b, 1: the constant table's cell th, k + 2: the cell B + k), cells, places of a frame, what the tables say -/
def xad (b th B : Nat) : Nat → Nat
  | 0 => b
  | 1 => th
  | k + 2 => B + k
def xcv (b th B : Nat) : Value → Value
  | .ref k => .ref (xad b th B k)
  | v => v
theorem xcv_cat (b th B : Nat) (v : Value) : (xcv b th B v).category = v.category := by cases v <;> rfl
theorem xcv_sum (b th B : Nat) (st : List Value) : ((st.map (xcv b th B)).map fun v => v.category).sum = (st.map fun v => v.category).sum := by
  rw [List.map_map]
  exact congrArg List.sum (List.map_congr_left (fun v _ => xcv_cat b th B v))
def xFc (c k : Nat) : Nat := match xTy c k with
  | .int => 0
  | .long => 1
  | .boolean => 3
  | _ => 2
def xAT : Nat → FieldType
  | 1 => .int
  | 2 => .boolean
  | 3 => .long
  | 4 => .object "KeptAnswers$Picture"
  | 5 => .object "KeptAnswers$Sight"
  | _ => .array .long
-- what the tables give: class numbers, slots of fields, array classes
abbrev xG : Type := (Nat → ClassId) × (Nat → Nat → Nat) × (Nat → ClassId)
def xval (b th B : Nat) (μ : xM) (a c j : Nat) : Value := match c with
  | 1 => .long (xL μ a j)
  | 2 => va_rf ((xR μ a j).map (xad b th B))
  | _ => .int (xI μ a j)
def xAc : Nat → Nat
  | 1 => 0
  | 2 => 0
  | 3 => 1
  | _ => 2
/-- the cell of number k, as the heap has it -/
def xcell (G : xG) (b th B : Nat) (μ : xM) (H : Heap) (k : Nat) : Prop :=
  if 10 ≤ (xK μ k).1 then t_OB (xad b th B k) (G.1 ((xK μ k).1 - 10)) (xN ((xK μ k).1 - 10)) (G.2.1 ((xK μ k).1 - 10)) H (fun j => xval b th B μ k (xFc ((xK μ k).1 - 10) j) j)
  else H[xad b th B k]? = some (arrV (G.2.2 (xK μ k).1) (xK μ k).2 (fun j => xval b th B μ k (xAc (xK μ k).1) j))
def xHR (G : xG) (b th B L : Nat) (xs : Nat → Int32) (hold : Nat → Int64) (μ : xM) (H : Heap) : Prop :=
  2 ≤ xS μ ∧ H.size + 2 = B + xS μ ∧ (∀ k, 2 ≤ k → k < xS μ → xcell G b th B μ H k) ∧ (xK μ 0 = (1, L) ∧ ∀ j, j < L → xI μ 0 j = xs j) ∧ (xK μ 1 = (3, 6) ∧ ∀ j, j < 6 → xL μ 1 j = hold j)
def xLR (b th B : Nat) (ls : Array Slot) (n : Nat) (lo : xLo) : Prop := ls.size = n ∧ lv_wf ls ∧ lo.length = n ∧ ∀ (i : Nat) (v : Value), lo[i]? = some (some v) → ls[i]? = some (.val (xcv b th B v))
def xA (B : Nat) : Nat → Prop := fun q => B ≤ q
def xAOA (U : State) : Prop := (Cond.arrayOver (.array .long)).before #[] U = true
theorem xAOA.use {A : Array Value} {U : State} (h : xAOA U) : (Cond.arrayOver (.array .long)).before A U = true := h
theorem xAOA.moved {u U : State} (hvm : u.vm.Alike U.vm) (h : xAOA u) : xAOA U := by
  unfold xAOA Cond.before Cond.holds at h ⊢
  simp only [Cond.value, beq_iff_eq, Option.bind_eq_some_iff, Option.map_eq_some_iff] at h ⊢
  obtain ⟨comp, h1, c, h2, k, h3, h4⟩ := h
  obtain ⟨k', hk', he⟩ := hvm.2.2 _ _ h3
  refine ⟨comp, by rw [hvm.findClass]; exact h1, c, ?_, k', hk', ?_⟩
  · have e1 := va_idx_bare U.vm comp
    have e2 := va_idx_bare u.vm comp
    first | rw [← hvm.bare_eq] at e1 | rw [hvm.bare_eq] at e1
    exact (e1.symm.trans e2).trans h2
  · rw [he, hvm.findClass]
    exact h4
def xKn (G : xG) (U : State) : Prop := (∀ ci, ci < 10 → ci ≠ 4 → u_Kn U (xCn ci) (xTf ci) (xN ci) (G.1 ci) (G.2.1 ci)) ∧
  (∀ t, 1 ≤ t → t ≤ 6 → ArrOfT U (G.2.2 t) (xAT t)) ∧ (∀ t, 1 ≤ t → t ≤ 6 → va_RA U (G.2.2 t) (xAT t)) ∧ (∀ w ∈ xNLw, va_Nw w U) ∧ (∀ w ∈ xHLw, va_Nw w U) ∧ va_AO "KeptAnswers$Picture" U ∧ va_AO "KeptAnswers$Sight" U ∧ xAOA U
def xOld (b th B L : Nat) (xs : Nat → Int32) (hold : Nat → Int64) (U : State) (H : Heap) : Prop :=
  va_X b L xs U H ∧ va_T .long th 6 (fun j => .long (hold j)) (xA B) U H ∧ va_Z "KeptAnswers" "HOLDING" "[J" (.ref th) (xA B) U H ∧ b < B ∧ b < H.size
theorem xNw_warm {w : Cond} {s U : State} (hW : s.WarmedH U.vm) (h : w ∈ xNLw ∨ w ∈ xHLw) (hZ : va_Nw w s) : va_Nw w U := by
  rcases h with h | h
  · obtain ⟨q, -, rfl⟩ := List.mem_map.mp h
    exact va_Nw.warmM hW hZ
  · obtain ⟨q, -, rfl⟩ := List.mem_map.mp h
    exact va_Nw.warmF hW hZ
theorem xNw_same {w : Cond} {s U : State} (hW : s.vm = U.vm) (h : w ∈ xNLw ∨ w ∈ xHLw) (hZ : va_Nw w s) : va_Nw w U := by
  rcases h with h | h
  · obtain ⟨q, -, rfl⟩ := List.mem_map.mp h
    exact va_Nw.same rfl hW hZ
  · obtain ⟨q, -, rfl⟩ := List.mem_map.mp h
    exact va_Nw.same rfl hW hZ
theorem xKn.warm {G : xG} {s U : State} (hW : s.WarmedH U.vm) (h : xKn G s) : xKn G U :=
  ⟨fun ci h1 h2 => u_Kn_moved hW.alike (h.1 ci h1 h2), fun t h1 h2 => arrOfT_moved hW.alike (h.2.1 t h1 h2), fun t h1 h2 => (h.2.2.1 t h1 h2).moved hW.alike, fun w hw => xNw_warm hW (Or.inl hw) (h.2.2.2.1 w hw), fun w hw => xNw_warm hW (Or.inr hw) (h.2.2.2.2.1 w hw), h.2.2.2.2.2.1.moved hW.alike, h.2.2.2.2.2.2.1.moved hW.alike, h.2.2.2.2.2.2.2.moved hW.alike⟩
theorem xKn.same {G : xG} {s U : State} (hW : s.vm = U.vm) (h : xKn G s) : xKn G U := by
  have ha : s.vm.Alike U.vm := by rw [hW]; exact Vm.Alike.refl _
  exact ⟨fun ci h1 h2 => u_Kn_moved ha (h.1 ci h1 h2), fun t h1 h2 => arrOfT_moved ha (h.2.1 t h1 h2), fun t h1 h2 => (h.2.2.1 t h1 h2).moved ha, fun w hw => xNw_same hW (Or.inl hw) (h.2.2.2.1 w hw), fun w hw => xNw_same hW (Or.inr hw) (h.2.2.2.2.1 w hw), h.2.2.2.2.2.1.moved ha, h.2.2.2.2.2.2.1.moved ha, h.2.2.2.2.2.2.2.moved ha⟩
theorem xOld.moved {b th B L : Nat} {xs : Nat → Int32} {hold : Nat → Int64} {s U : State} {H : Heap} (ha : s.vm.Alike U.vm) (h : xOld b th B L xs hold s H) : xOld b th B L xs hold U H :=
  ⟨h.1.moved ha, h.2.1.moved ha, h.2.2.1.moved ha, h.2.2.2⟩
theorem xOld.kept {b th B L : Nat} {xs : Nat → Int32} {hold : Nat → Int64} {s : State} {H H1 : Heap} (h : xOld b th B L xs hold s H) (hz : H.size ≤ H1.size) (hq : ∀ a : Nat, a < H.size → ¬ xA B a → H1[a]? = H[a]?) : xOld b th B L xs hold s H1 :=
  ⟨h.1.kept (hq b h.2.2.2.2 (Nat.not_le.mpr h.2.2.2.1)), h.2.1.kept hq, h.2.2.1.kept hq, h.2.2.2.1, Nat.lt_of_lt_of_le h.2.2.2.2 hz⟩
/-- an array that is there, whichever it is -/
theorem xrow {G : xG} {b th B L : Nat} {xs : Nat → Int32} {hold : Nat → Int64} {s : State} {μ : xM} {H : Heap} {locs : List Loc} (hK : xKn G s) (hO : xOld b th B L xs hold s s.heap) (hS : va_S (xA B) s.heap H locs) (h : xHR G b th B L xs hold μ H) {a t n : Nat} (hk : xK μ a = (t, n)) (h1 : 1 ≤ t) (h6 : t ≤ 6) :
    ∃ cell : Cell, H[xad b th B a]? = some cell ∧ s.isArrayOf cell (xAT t) ∧ cell.vm ≠ .unknown ∧ n ≤ cell.slots.size ∧ cell.slots.size.toInt32 = Int32.ofNat n ∧ ∀ j : Nat, j < n → cell.slots[j]? = some (xval b th B μ a (xAc t) j) := by
  obtain ⟨-, -, hc, ⟨k0, v0⟩, ⟨k1, v1⟩⟩ := h
  match a, hk with
  | 0, hk =>
    rw [k0] at hk
    cases hk
    obtain ⟨⟨scr, e1, e2, e3, e4, e5⟩, -, -, hb, hb2⟩ := hO
    refine ⟨scr, ?_, e2, e3, Nat.le_of_eq e4.symm, by rw [e4] <;> rfl, fun j hj => ?_⟩
    · show H[b]? = some scr
      rw [hS.2.1 b hb2 (Nat.not_le.mpr hb)]
      exact e1
    · rw [e5 j hj, ← v0 j hj]
      rfl
  | 1, hk =>
    rw [k1] at hk
    cases hk
    obtain ⟨-, ⟨cell, e1, e2, e3, e4, e5, e6, e7⟩, -⟩ := hO
    refine ⟨cell, ?_, e2, e3, e4, e5, fun j hj => ?_⟩
    · show H[th]? = some cell
      rw [hS.2.1 th (Array.getElem?_eq_some_iff.mp e1).1 e7]
      exact e1
    · rw [e6 j hj]
      show some (Value.long (hold j)) = _
      rw [← v1 j hj]
      rfl
  | k + 2, hk =>
    have hlt : k + 2 < xS μ := by
      unfold xK at hk
      by_cases q : k + 2 < μ.1.1
      · exact q
      · rw [if_neg q] at hk
        cases hk
        omega
    have hx := hc (k + 2) (by omega) hlt
    unfold xcell at hx
    rw [hk, if_neg (by show ¬ 10 ≤ t; omega)] at hx
    refine ⟨_, hx, hK.2.1 t h1 h6 n _, (fun q => by cases q), by rw [arrV_size] <;> exact Nat.le_refl _, by rw [arrV_size] <;> rfl, fun j hj => ?_⟩
    exact arrV_read _ _ hj
theorem xK_lt {μ : xM} {a : Nat} (h : 1 ≤ (xK μ a).1) : a < xS μ := by
  unfold xK at h
  by_cases q : a < μ.1.1
  · exact q
  · rw [if_neg q] at h
    exact absurd h (by decide)
theorem xad_lt {b th B a : Nat} {s : Nat} (h : a < s) (h2 : 2 ≤ a) : xad b th B a + 2 < B + s := by
  match a, h, h2 with
  | k + 2, h, _ =>
    show B + k + 2 < B + s
    omega
theorem xad_inj {b th B a c : Nat} (h : 2 ≤ a) (h2 : 2 ≤ c) (e : xad b th B a = xad b th B c) : a = c := by
  match a, c, h, h2, e with
  | k + 2, j + 2, _, _, e =>
    have e : B + k = B + j := e
    omega
theorem xad_A {b th B a : Nat} (h2 : 2 ≤ a) : xA B (xad b th B a) := by
  match a, h2 with
  | k + 2, _ => exact Nat.le_add_right _ _
-- values of cells under a change of one place
theorem xI_s (μ : xM) (a k : Nat) (v : Int32) (c j : Nat) : xI (xsI μ a k v) c j = if c = a ∧ j = k then v else xI μ c j := rfl
theorem xL_s (μ : xM) (a k : Nat) (v : Int64) (c j : Nat) : xL (xsL μ a k v) c j = if c = a ∧ j = k then v else xL μ c j := rfl
theorem xR_s (μ : xM) (a k : Nat) (v : Option Nat) (c j : Nat) : xR (xsR μ a k v) c j = if c = a ∧ j = k then v else xR μ c j := rfl
/-- one cell has changed, at one place -/
theorem xHR_put {G : xG} {b th B L : Nat} {xs : Nat → Int32} {hold : Nat → Int64} {μ μ' : xM} {H H1 : Heap} {a : Nat} (h : xHR G b th B L xs hold μ H) (h2 : 2 ≤ a) (z : H1.size = H.size) (oq : ∀ q : Nat, q ≠ xad b th B a → H1[q]? = H[q]?)
    (hk : μ'.1 = μ.1 ∧ μ'.2.1 = μ.2.1) (hI : ∀ c, c ≠ a → ∀ j, xI μ' c j = xI μ c j) (hL : ∀ c, c ≠ a → ∀ j, xL μ' c j = xL μ c j) (hR : ∀ c, c ≠ a → ∀ j, xR μ' c j = xR μ c j) (hx : xcell G b th B μ' H1 a) : xHR G b th B L xs hold μ' H1 := by
  obtain ⟨g1, g2, g3, ⟨g4, g5⟩, g6, g7⟩ := h
  have eS : xS μ' = xS μ := by show μ'.1.1 = μ.1.1; rw [hk.1]
  have eK : ∀ c, xK μ' c = xK μ c := fun c => by unfold xK; rw [hk.1, hk.2]
  refine ⟨by rw [eS]; exact g1, by rw [eS, z]; exact g2, fun k k2 kl => ?_, ⟨by rw [eK]; exact g4, fun j hj => by rw [hI 0 (by omega)]; exact g5 j hj⟩, by rw [eK]; exact g6, fun j hj => by rw [hL 1 (by omega)]; exact g7 j hj⟩
  by_cases e : k = a
  · rw [e]; exact hx
  · have hold := g3 k k2 (by rw [← eS]; exact kl)
    have hne : xad b th B k ≠ xad b th B a := fun q => e (xad_inj k2 h2 q)
    have ev : ∀ c j, xval b th B μ' k c j = xval b th B μ k c j := fun c j => by
      unfold xval
      rw [hI k e, hL k e, hR k e]
    unfold xcell at hold ⊢
    rw [eK]
    by_cases q : 10 ≤ (xK μ k).1
    · rw [if_pos q] at hold ⊢
      exact (hold.kept (oq _ hne)).to (fun j _ => (ev _ j).symm)
    · rw [if_neg q] at hold ⊢
      rw [oq _ hne, hold]
      exact congrArg (fun f => some (arrV _ _ f)) (funext fun j => (ev _ j).symm)
-- frames
def xprs (b th B : Nat) (lo : xLo) : List (Nat × Value) := (List.range lo.length).filterMap (fun i => match lo[i]? with | some (some v) => some (i, xcv b th B v) | _ => none)
theorem xprs_mem {b th B : Nat} {lo : xLo} {i : Nat} {v : Value} (h : lo[i]? = some (some v)) : (i, xcv b th B v) ∈ xprs b th B lo := by
  refine List.mem_filterMap.mpr ⟨i, List.mem_range.mpr (List.getElem?_eq_some_iff.mp h).1, ?_⟩
  rw [h]
theorem xLR.has {b th B : Nat} {ls : Array Slot} {n : Nat} {lo : xLo} (h : xLR b th B ls n lo) : lv_has ls n (xprs b th B lo) := by
  refine ⟨h.1, h.2.1, fun q hq => ?_⟩
  obtain ⟨i, -, hi⟩ := List.mem_filterMap.mp hq
  split at hi
  · rename_i v e
    cases hi
    exact h.2.2.2 i v e
  · cases hi
theorem xkill_s (lo : xLo) (k : Nat) : xkill lo (k + 1) = if xcat lo[k]? then lo.set k none else lo := rfl
theorem xkill_get {lo : xLo} {i j : Nat} {w : Value} (h : (xkill lo i)[j]? = some (some w)) : lo[j]? = some (some w) ∧ ¬ (j + 1 = i ∧ w.category = 2) := by
  match i, h with
  | 0, h => exact ⟨h, fun q => by omega⟩
  | k + 1, h =>
    rw [xkill_s] at h
    by_cases c : xcat lo[k]? = true
    · rw [if_pos c] at h
      by_cases e : j = k
      · subst e
        rw [List.getElem?_set] at h
        split at h
        · split at h <;> cases h
        · exact absurd rfl (by assumption)
      · rw [List.getElem?_set_ne (fun q => e q.symm)] at h
        exact ⟨h, fun q => e (by omega)⟩
    · rw [if_neg c] at h
      refine ⟨h, fun q => c ?_⟩
      have e : j = k := by omega
      subst e
      rw [h]
      show Nat.beq w.category 2 = true
      rw [q.2]
      rfl
theorem xkill_len (lo : xLo) (i : Nat) : (xkill lo i).length = lo.length := by
  match i with
  | 0 => rfl
  | k + 1 =>
    rw [xkill_s]
    by_cases c : xcat lo[k]? = true
    · rw [if_pos c, List.length_set]
    · rw [if_neg c]
theorem xLR.of1 {b th B : Nat} {ls ls' : Array Slot} {n i : Nat} {lo : xLo} {v : Value} (h : xLR b th B ls n lo) (hi : i < lo.length) (hc : v.category = 1)
    (h' : lv_has ls' n ((i, xcv b th B v) :: (xprs b th B lo).filter (fun q => !(q.1 == i) && !(q.1 + 1 == i && q.2.category == 2)))) : xLR b th B ls' n (xst1 lo i v) := by
  refine ⟨h'.1, h'.2.1, by unfold xst1; rw [List.length_set, xkill_len]; exact h.2.2.1, fun j w hj => ?_⟩
  unfold xst1 at hj
  by_cases q : j = i
  · subst q
    rw [List.getElem?_set, if_pos rfl, if_pos (by rw [xkill_len]; exact hi)] at hj
    cases hj
    exact h'.2.2 _ List.mem_cons_self
  · rw [List.getElem?_set_ne (fun z => q z.symm)] at hj
    obtain ⟨h1, h2⟩ := xkill_get hj
    refine h'.2.2 (j, xcv b th B w) (List.mem_cons_of_mem _ (List.mem_filter.mpr ⟨xprs_mem h1, ?_⟩))
    have e1 : (j == i) = false := by simp [q]
    have e2 : ((j + 1 == i) && ((xcv b th B w).category == 2)) = false := by
      rw [xcv_cat]
      by_cases z : j + 1 = i
      · have : ¬ w.category = 2 := fun y => h2 ⟨z, y⟩
        simp [this]
      · simp [z]
    show (!(j == i) && !((j + 1 == i) && ((xcv b th B w).category == 2))) = true
    rw [e1, e2]
    rfl
theorem xLR.of2 {b th B : Nat} {ls ls' : Array Slot} {n i : Nat} {lo : xLo} {v : Value} (h : xLR b th B ls n lo) (hi : i + 1 < lo.length) (hc : v.category = 2)
    (h' : lv_has ls' n ((i, xcv b th B v) :: (xprs b th B lo).filter (fun q => !(q.1 == i) && (!(q.1 == i + 1) && !(q.1 + 1 == i && q.2.category == 2))))) : xLR b th B ls' n (xst2 lo i v) := by
  refine ⟨h'.1, h'.2.1, by unfold xst2; rw [List.length_set, List.length_set, xkill_len]; exact h.2.2.1, fun j w hj => ?_⟩
  unfold xst2 at hj
  by_cases q1 : j = i + 1
  · subst q1
    rw [List.getElem?_set] at hj
    split at hj
    · split at hj <;> cases hj
    · exact absurd rfl (by assumption)
  rw [List.getElem?_set_ne (fun z => q1 z.symm)] at hj
  by_cases q : j = i
  · subst q
    rw [List.getElem?_set, if_pos rfl, if_pos (by rw [xkill_len]; omega)] at hj
    cases hj
    exact h'.2.2 _ List.mem_cons_self
  · rw [List.getElem?_set_ne (fun z => q z.symm)] at hj
    obtain ⟨h1, h2⟩ := xkill_get hj
    refine h'.2.2 (j, xcv b th B w) (List.mem_cons_of_mem _ (List.mem_filter.mpr ⟨xprs_mem h1, ?_⟩))
    have e1 : (j == i) = false := by simp [q]
    have e3 : (j == i + 1) = false := by simp [q1]
    have e2 : ((j + 1 == i) && ((xcv b th B w).category == 2)) = false := by
      rw [xcv_cat]
      by_cases z : j + 1 = i
      · have : ¬ w.category = 2 := fun y => h2 ⟨z, y⟩
        simp [this]
      · simp [z]
    show (!(j == i) && (!(j == i + 1) && !((j + 1 == i) && ((xcv b th B w).category == 2)))) = true
    rw [e1, e2, e3]
    rfl
