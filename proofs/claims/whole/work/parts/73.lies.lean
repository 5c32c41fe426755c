/-! the reference: the end at hand lies within a picture -/
theorem take_map_snoc {P : List Nat} {H : List Nat} {g : pG} {k : Nat} (h1 : k < P.length) (h2 : k < H.length) : ((P.take (k + 1)).map (pim g) = H.take (k + 1)) ↔ ((P.take k).map (pim g) = H.take k ∧ pim g (P.getD k 0) = H.getD k 0) := by
  rw [take_succD P k 0 h1, take_succD H k 0 h2, List.map_append]
  constructor
  · intro h
    have h3 := List.append_inj_left' h (by rfl)
    have h4 := List.append_inj_right' h (by rfl)
    exact ⟨h3, (List.cons.inj h4).1⟩
  · rintro ⟨h3, h4⟩
    rw [h3, List.map_singleton, h4]
theorem gI_pim {g : pG} {t s : Nat} (ht : g t ≠ none) (b : gB 64 g) (h2 : 2 ≤ t) (hs : s < 64) : gI g t = nI s ↔ pim g t = s := by
  unfold gI pim
  rw [if_neg (by omega), if_neg (by omega)]
  cases hg : g t with
  | none => exact absurd hg ht
  | some u =>
    have := b t u hg
    exact nI_eq (by omega) (by omega)
section LIES
variable {μ : xM} {q : Nat} {P : xPic}
theorem fitIn_ok (h : Sh μ) (cM : PicM μ q P) (hq : q < 16) (w : PicWf P) {E : xPic} (cE : PicE μ E) (bE : TB E 64) (q0 : E.2.length = P.2.length) {g : pG} (bg : gB 64 g) (hg : pGoes μ g) (hl : ∀ t, t ∈ P.2 → g t ≠ none) {x : (Int32 × xM) ⊕ (Int32 × xM)} (hx : fM_liesWithin_91 293 (nI q) (if P.2.map (pim g) = E.2 then xc 1 else xc 0) μ = some x) : xwh (fun s : Int32 × Int32 => fM_liesWithin_L40 293 (nI q) s.1 s.2 μ) (xc 1, xc 0) = some x := by
  have lph := w.2.2.1
  have := xwh_inv (body := fun s : Int32 × Int32 => fM_liesWithin_L40 293 (nI q) s.1 s.2 μ) (fun k s => s = ((if (P.2.take k).map (pim g) = E.2.take k then xc 1 else xc 0), nI k)) (fun a => a = x) P.2.length ?_ ?_ P.2.length 0 (xc 1, xc 0) (by omega) ?_
  · obtain ⟨a, h1, h2⟩ := this
    rw [h1, h2]
  · rintro k s hk rfl
    left
    have hk2 : k < E.2.length := by omega
    have c0 : ¬ nI E.2.length ≤ nI k := nI_ge hk2 (by omega)
    refine ⟨_, ?_, rfl⟩
    by_cases e1 : (P.2.take k).map (pim g) = E.2.take k
    · rw [if_pos e1]
      have hb := w.tb.head hk
      have hb2 := (w.2.2.2.2 _ (getD_memD (d := 0) hk)).1
      have bs := bE.head hk2
      have t1 : ldA μ 304 (nI (3 * q + k)) = some (nI (P.2.getD k 0)) := by rw [la304 h (by omega), cM.2.2.2 k hk]
      have t2 : ldA μ 318 (nI (P.2.getD k 0)) = some (gI g (P.2.getD k 0)) := by rw [la318 h hb, hg _ hb]
      have t3 : ldA μ 316 (nI k) = some (nI (E.2.getD k 0)) := by rw [la316 h (by omega), cE.2.2.2 k hk2]
      have hh := gI_pim (hl _ (getD_memD hk)) bg hb2 bs
      by_cases e2 : pim g (P.2.getD k 0) = E.2.getD k 0
      · have c1 : gI g (P.2.getD k 0) = nI (E.2.getD k 0) := hh.mpr e2
        rw [if_pos ((take_map_snoc hk hk2).mpr ⟨e1, e2⟩)]
        simp only [fM_liesWithin_L40, f293 h, cE.2.1, Option.bind_some, c0, if_false, xc1F, g293_38 h, g293_15 h, ix33, t1, t2, g293_34 h, t3, c1, if_true, fM_liesWithin_84, inc1]
      · have c1 : ¬ gI g (P.2.getD k 0) = nI (E.2.getD k 0) := fun z => e2 (hh.mp z)
        rw [if_neg (fun z => e2 ((take_map_snoc hk hk2).mp z).2)]
        simp only [fM_liesWithin_L40, f293 h, cE.2.1, Option.bind_some, c0, if_false, xc1F, g293_38 h, g293_15 h, ix33, t1, t2, g293_34 h, t3, c1, fM_liesWithin_83, fM_liesWithin_84, inc1]
    · rw [if_neg e1, if_neg (fun z => e1 ((take_map_snoc hk hk2).mp z).1)]
      simp only [fM_liesWithin_L40, f293 h, cE.2.1, Option.bind_some, c0, if_false, xc0T, if_true, fM_liesWithin_83, fM_liesWithin_84, inc1]
  · rintro s rfl
    refine ⟨x, ?_, rfl⟩
    rw [List.take_length, ← q0, List.take_length]
    simp only [fM_liesWithin_L40, f293 h, cE.2.1, Option.bind_some, Int32.le_refl, if_true, hx, Option.map_some]
  · rw [List.take_zero, List.take_zero]
    rfl
theorem lies_ok (h : Sh μ) (cM : PicM μ q P) (hq : q < 16) (w : PicWf P) {E : xPic × Nat × Bool} (cE : PicE μ E.1) (lE : E.1.1.length ≤ 12) (lH : E.1.2.length ≤ 3) (bE : TB E.1 64) (e35 : xI μ 293 35 = if E.2.2 then 1 else 0) : ∃ r μ1, fM_liesWithin 293 (nI q) μ = some (r, μ1) ∧ Fr (fun a _ => a = 317 ∨ a = 318) μ μ1 ∧ ((pWithin E P ∧ r = xc 1) ∨ (¬ pWithin E P ∧ r = xc 0)) := by
  have lph := w.2.2.1
  have tH : ldA μ 303 (nI q) = some (nI P.2.length) := by rw [la303 h hq, cM.2.1]
  by_cases q0 : E.1.2.length = P.2.length
  · by_cases hN : E.2.2 = true
    · refine ⟨xc 1, μ, ?_, Fr.refl μ, Or.inl ⟨⟨q0, Or.inl hN⟩, rfl⟩⟩
      rw [hN] at e35
      have e35' : ¬ xI μ 293 35 = 0 := by rw [e35]; decide
      simp only [fM_liesWithin, fM_liesWithin_0, gd293 h, f293 h, Option.bind_some, cE.2.1, g293_14 h, tH, q0, if_true, e35', if_false]
    · simp only [Bool.not_eq_true] at hN
      rw [hN] at e35
      have e35' : xI μ 293 35 = 0 := e35
      have hW : pWithin E P ↔ ∃ g, g ∈ phoms E.1.1 P.1 gN ∧ P.2.map (pim g) = E.1.2 := by
        unfold pWithin
        constructor
        · rintro ⟨_, z | z⟩
          · rw [hN] at z; cases z
          · exact z
        · exact fun z => ⟨q0, Or.inr z⟩
      have b31 : gB 64 gN := fun t u z => by cases z
      have goal : ∃ a, fM_liesWithin 293 (nI q) μ = some a ∧ Fr (fun a _ => a = 317 ∨ a = 318) μ a.2 ∧ ((pWithin E P ∧ a.1 = xc 1) ∨ (¬ pWithin E P ∧ a.1 = xc 0)) := by
        rw [hW]
        obtain ⟨⟨r0, μ0⟩, n1, n2⟩ := nextFirst_ok h cM hq w cE lE bE
        have ev : fM_liesWithin 293 (nI q) μ = xwh (fun s : Int32 × xM => fM_liesWithin_L31 293 (nI q) s.1 s.2) (r0, μ0) := by
          simp only [fM_liesWithin, fM_liesWithin_0, gd293 h, f293 h, Option.bind_some, cE.2.1, g293_14 h, tH, q0, if_true, e35', n1]
        rw [ev]
        obtain ⟨n3, n4⟩ := n2
        refine xwh_dec (body := fun s : Int32 × xM => fM_liesWithin_L31 293 (nI q) s.1 s.2) (fun m s => Fr (fun a _ => a = 317 ∨ a = 318) μ s.2 ∧ ((s.1 = xc 0 ∧ ¬ ∃ g, g ∈ phoms E.1.1 P.1 gN ∧ P.2.map (pim g) = E.1.2) ∨ ∃ g tl, s.1 = xc 1 ∧ pGoes s.2 g ∧ gB 64 g ∧ Way s.2 P E.1 tl ∧ m = tl.length + 1 ∧ (∀ k, k ∈ g :: tl → k ∈ phoms E.1.1 P.1 gN) ∧ ((∃ g, g ∈ phoms E.1.1 P.1 gN ∧ P.2.map (pim g) = E.1.2) ↔ ∃ k, k ∈ g :: tl ∧ P.2.map (pim k) = E.1.2))) _ ?_ ((phoms E.1.1 P.1 gN).length + 1) (phoms E.1.1 P.1 gN).length (r0, μ0) (by omega) ⟨n3, ?_⟩
        · rintro m ⟨x, μ'⟩ ⟨f, hx⟩
          have h' := f.sh h
          rcases hx with ⟨hx, hn⟩ | ⟨g, tl, hx, hg, bg, hw, rfl, hm, he⟩
          · right
            have hx' : x = xc 0 := hx
            subst hx'
            refine ⟨(xc 0, μ'), ?_, f, Or.inr ⟨hn, rfl⟩⟩
            simp only [fM_liesWithin_L31, xc0T, if_true, fM_liesWithin_107, Option.map_some]
          · have hx' : x = xc 1 := hx
            subst hx'
            have cM' := cM.fr' f (fun a k q => by omega)
            have cE' := cE.fr f (fun a k q => by omega)
            have led : ∀ t, t ∈ P.2 → g t ≠ none := fun t ht => head_led w (hm g List.mem_cons_self) ht
            have evb : ∀ y, fM_liesWithin_91 293 (nI q) (if P.2.map (pim g) = E.1.2 then xc 1 else xc 0) μ' = some y → fM_liesWithin_L31 293 (nI q) (xc 1) μ' = some y := fun y hy => by
              simp only [fM_liesWithin_L31, xc1F, if_false]
              exact fitIn_ok h' cM' hq w cE' bE q0 bg hg led hy
            by_cases fit : P.2.map (pim g) = E.1.2
            · right
              refine ⟨(xc 1, μ'), evb _ ?_, f, Or.inl ⟨⟨g, hm g List.mem_cons_self, fit⟩, rfl⟩⟩
              rw [if_pos fit]
              simp only [fM_liesWithin_91, xc1F, if_false, fM_liesWithin_95, Option.map_some]
            · left
              obtain ⟨⟨r1, μ1⟩, m1, m2, m3⟩ := nextMore_ok h' cM' hq w cE' lE bE hw
              have e91 : fM_liesWithin_91 293 (nI q) (if P.2.map (pim g) = E.1.2 then xc 1 else xc 0) μ' = some (.inl (r1, μ1)) := by
                rw [if_neg fit]
                simp only [fM_liesWithin_91, xc0T, if_true, m1, Option.bind_some]
              rcases m3 with ⟨m3, m4⟩ | ⟨g1, tl1, m3, m4, m5, m6, m7⟩
              · refine ⟨(r1, μ1), 0, Nat.succ_pos _, evb _ e91, f.trans m2, Or.inl ⟨m4, ?_⟩⟩
                rw [he, m3]
                rintro ⟨k, k1, k2⟩
                rw [List.mem_singleton] at k1
                rw [k1] at k2
                exact fit k2
              · refine ⟨(r1, μ1), tl1.length + 1, ?_, evb _ e91, f.trans m2, Or.inr ⟨g1, tl1, m4, m5, m6, m7, rfl, ?_, ?_⟩⟩
                · rw [m3, List.length_cons]; omega
                · intro k hk
                  exact hm k (List.mem_cons_of_mem _ (m3 ▸ hk))
                · rw [he, m3]
                  constructor
                  · rintro ⟨k, k1, k2⟩
                    rcases List.mem_cons.mp k1 with z | z
                    · rw [z] at k2; exact absurd k2 fit
                    · exact ⟨k, z, k2⟩
                  · rintro ⟨k, k1, k2⟩
                    exact ⟨k, List.mem_cons_of_mem _ k1, k2⟩
        · rcases n4 with ⟨n4, n5⟩ | ⟨g, tl, n4, n5, n6, n7, n8⟩
          · refine Or.inl ⟨n5, ?_⟩
            rw [n4]
            rintro ⟨g, z, _⟩
            exact absurd z List.not_mem_nil
          · refine Or.inr ⟨g, tl, n5, n6, n7, n8, ?_, ?_, ?_⟩
            · rw [n4, List.length_cons]
            · rw [n4]; exact fun k hk => hk
            · rw [n4]
      obtain ⟨⟨r, μ1⟩, a1, a2, a3⟩ := goal
      exact ⟨r, μ1, a1, a2, a3⟩
  · refine ⟨xc 0, μ, ?_, Fr.refl μ, Or.inr ⟨fun z => q0 z.1, rfl⟩⟩
    have c0 : ¬ nI E.1.2.length = nI P.2.length := fun z => q0 ((nI_eq (by omega) (by omega)).mp z)
    simp only [fM_liesWithin, fM_liesWithin_0, gd293 h, f293 h, Option.bind_some, cE.2.1, g293_14 h, tH, c0, if_false]
end LIES
