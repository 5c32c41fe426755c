section READM
variable {μ : xM} {q n : Nat} {bt : Nat → Int32}
theorem rowsM_ok (hq : q < 16) : ∀ (f i : Nat) (R : List xRow) (μ : xM), BtM μ bt n → PicM μ q (R, []) → R.length + f = 4 → i = 4 * R.length → (∀ r, r ∈ R → r.1 < 3 ∧ r.2.1 < 7 ∧ r.2.2 < 7) → xI μ 293 26 = nI i → xI μ 293 28 = xc 0 → ∃ μ1, ((fM_readRow 293 (nI q) μ).bind fun r44 => xwh (fun s : xM => fM_readPicture_L42 293 (nI q) s) r44) = some (rI (pRows bt n f i R).1, μ1) ∧ Fr (WQ q) μ μ1 ∧ PicM μ1 q (pRows bt n f i R).2 := by
  intro f
  have stopF : ∀ (i : Nat) (R : List xRow) (μ μ1 : xM), BtM μ1 bt n → Fr (WQ q) μ μ1 → PicM μ1 q (R, []) → xI μ1 293 26 = nI i → xI μ1 293 28 = xc 1 → ∃ μ2, xwh (fun s : xM => fM_readPicture_L42 293 (nI q) s) μ1 = some (nI i, μ2) ∧ Fr (WQ q) μ μ2 ∧ PicM μ2 q (R, []) := fun i R μ μ1 hB fr c e e28 => by
    have hh := hB.1
    have fr0 : Fr W3 μ1 (xsI μ1 293 28 (xc 1)) := (Fr.refl μ1).s _ (by unfold W3; omega)
    refine ⟨xsI μ1 293 28 (xc 1), xwh_stop ?_, fr.trans (fr0.mono (fun a k z => W3_WQ z)), picM_fr c fr0 (fun a k x y => by unfold W3; omega)⟩
    simp only [fM_readPicture_L42, f293 hh, e28, Option.bind_some, xc1F, if_false, fM_readPicture_76, fin_f hh e e28, Option.map_some]
  induction f with
  | zero =>
    intro i R μ hB c hf hi hR e e28
    obtain ⟨μ1, a1, a2, a3, a4⟩ := readRow_ok hB (by omega) e e28 hq c (by omega)
    rcases a4 with ⟨z, _⟩ | ⟨j, j1, j2, j3, j4, j5⟩
    · omega
    · have ej : j = i := by
        rcases j2 with ⟨_, z⟩ | ⟨z, _⟩
        · exact z
        · omega
      subst ej
      obtain ⟨μ2, g1, g2, g3⟩ := stopF j R μ μ1 a3 a2 j5 j4 j3
      refine ⟨μ2, ?_, g2, g3⟩
      rw [a1, Option.bind_some]
      exact g1
  | succ f ih =>
    intro i R μ hB c hf hi hR e e28
    obtain ⟨μ1, a1, a2, a3, a4⟩ := readRow_ok hB (by omega) e e28 hq c (by omega)
    rw [a1, Option.bind_some]
    unfold pRows
    rcases a4 with ⟨z, r, r1, r2, r3, r4⟩ | ⟨j, j1, j2, j3, j4, j5⟩
    · rw [r1]
      dsimp only
      obtain ⟨hh, hn, e27, eb⟩ := id a3
      have he := here_ok a3 (i := i + 3) (by omega) r3
      have lr : (R ++ [r]).length = R.length + 1 := by rw [List.length_append, List.length_singleton]
      have hR' : ∀ u, u ∈ R ++ [r] → u.1 < 3 ∧ u.2.1 < 7 ∧ u.2.2 < 7 := fun u hu => by
        rcases List.mem_append.mp hu with y | y
        · exact hR u y
        · rw [List.mem_singleton.mp y]; exact row_lt r1
      by_cases q1 : n ≤ i + 3
      · rw [if_pos q1]
        have ea : at_ bt n (i + 3) = xc (-1) := if_neg (by omega)
        rw [ea] at he
        obtain ⟨v, fe⟩ := fin_e a3 (i := i + 3) (by omega) r3 r2
        rw [if_pos q1] at fe
        have fr5 : Fr W3 μ1 (xsI μ1 293 28 v) := (Fr.refl μ1).s _ (by unfold W3; omega)
        refine ⟨xsI μ1 293 28 v, xwh_stop ?_, a2.trans (fr5.mono (fun a k z => W3_WQ z)), picM_fr r4 fr5 (fun a k x y => by unfold W3; omega)⟩
        simp only [fM_readPicture_L42, f293 hh, r2, Option.bind_some, xc0T, if_true, he, show (xc (-1) = xc 44) = False from by decide, if_false, fM_readPicture_76, show (xc (-1) = xc 58) = False from by decide, fe, Option.map_some]
        rfl
      · rw [if_neg q1]
        have ea : at_ bt n (i + 3) = bt (i + 3) := if_pos (by omega)
        rw [ea] at he
        have s1 : Sh (xsI μ1 293 26 (nI (i + 4))) := hh
        have fr1 : Fr W3 μ1 (xsI μ1 293 26 (nI (i + 4))) := (Fr.refl μ1).s _ (by unfold W3; omega)
        have hB1 := a3.fr fr1 dBt3
        have c1 := picM_fr r4 fr1 (fun a k x y => by unfold W3; omega)
        have i4 : nI (i + 3) + xc 1 = nI (i + 4) := inc1 (i + 3)
        have v28 : xI (xsI μ1 293 26 (nI (i + 4))) 293 28 = xc 0 := (xI_ne (by omega)).trans r2
        have F1 : Fr (WQ q) μ (xsI μ1 293 26 (nI (i + 4))) := a2.trans (fr1.mono (fun a k z => W3_WQ z))
        by_cases q2 : bt (i + 3) = xc 58
        · rw [if_pos q2]
          have n44 : ¬ bt (i + 3) = xc 44 := by rw [q2]; decide
          obtain ⟨μ2, g1, g2, g3⟩ := headM_ok hq (show (R ++ [r]).length ≤ 4 by omega) hR' 3 (i + 4) [] _ hB1 c1 rfl (by omega) (xI_eq _ _ _ _) v28
          refine ⟨μ2, xwh_stop ?_, F1.trans g2, g3⟩
          simp only [fM_readPicture_L42, f293 hh, r2, Option.bind_some, xc0T, if_true, he, eq_false n44, if_false, fM_readPicture_76, eq_true q2, r3, i4, fs293 hh, g1, Option.map_some]
        · rw [if_neg q2]
          by_cases q3 : bt (i + 3) = xc 44
          · rw [if_pos q3]
            obtain ⟨μ2, g1, g2, g3⟩ := ih (i + 4) (R ++ [r]) _ hB1 c1 (by omega) (by omega) hR' (xI_eq _ _ _ _) v28
            cases hrow : fM_readRow 293 (nI q) (xsI μ1 293 26 (nI (i + 4))) with
            | none => rw [hrow] at g1; cases g1
            | some μ3 =>
              rw [hrow, Option.bind_some] at g1
              refine ⟨μ2, xwh_go ?_ g1, F1.trans g2, g3⟩
              simp only [fM_readPicture_L42, f293 hh, r2, Option.bind_some, xc0T, if_true, he, eq_true q3, r3, i4, fs293 hh, hrow]
          · rw [if_neg q3]
            obtain ⟨v, fe⟩ := fin_e a3 (i := i + 3) (by omega) r3 r2
            rw [if_neg q1] at fe
            have fr5 : Fr W3 μ1 (xsI μ1 293 28 v) := (Fr.refl μ1).s _ (by unfold W3; omega)
            refine ⟨xsI μ1 293 28 v, xwh_stop ?_, a2.trans (fr5.mono (fun a k z => W3_WQ z)), picM_fr r4 fr5 (fun a k x y => by unfold W3; omega)⟩
            simp only [fM_readPicture_L42, f293 hh, r2, Option.bind_some, xc0T, if_true, he, eq_false q3, if_false, fM_readPicture_76, eq_false q2, fe, Option.map_some]
            rfl
    · have ej : pRow bt n i = .inl j := by
        rcases j2 with ⟨z, _⟩ | ⟨_, z⟩
        · omega
        · exact z
      rw [ej]
      exact stopF j R μ μ1 a3 a2 j5 j4 j3
def W8 (q a k : Nat) : Prop := WQ q a k ∨ a = 293 ∧ (k = 7 ∨ k = 27)
theorem readPic_ok (hh : Sh μ) (hn : n ≤ 24) (e7 : xI μ 293 7 = nI n) (eb : ∀ j, j < n → xI μ 298 j = bt j) (hq : q < 16) : ∃ μ1, fM_readPicture 293 (nI q) μ = some (rI (pRows bt n 4 0 []).1, μ1) ∧ Fr (W8 q) μ μ1 ∧ PicM μ1 q (pRows bt n 4 0 []).2 ∧ xI μ1 293 7 = nI 0 := by
  generalize hμ : xsI (xsI (xsI (xsI (xsI (xsI μ 293 27 (nI n)) 293 7 (xc 0)) 293 26 (xc 0)) 293 28 (xc 0)) 299 q (xc 0)) 303 q (xc 0) = μ6
  have F6 : Fr (W8 q) μ μ6 := by
    rw [← hμ]
    exact ((((((Fr.refl μ).s _ (by unfold W8 WQ; omega)).s _ (by unfold W8 WQ; omega)).s _ (by unfold W8 WQ; omega)).s _ (by unfold W8 WQ; omega)).s _ (by unfold W8 WQ; omega)).s _ (by unfold W8 WQ; omega)
  have h6 := F6.sh hh
  have hB : BtM μ6 bt n := ⟨h6, hn, by rw [← hμ]; simp (disch := omega) only [xI_ne, xI_eq], fun j hj => by rw [← hμ]; simp (disch := omega) only [xI_ne]; exact eb j hj⟩
  have c6 : PicM μ6 q ([], []) := ⟨by rw [← hμ]; simp (disch := omega) only [xI_ne, xI_eq]; rfl, by rw [← hμ]; simp (disch := omega) only [xI_ne, xI_eq]; rfl, fun k hk => absurd hk (Nat.not_lt_zero k), fun k hk => absurd hk (Nat.not_lt_zero k)⟩
  have z26 : xI μ6 293 26 = nI 0 := by rw [← hμ]; simp (disch := omega) only [xI_ne, xI_eq]; rfl
  have z28 : xI μ6 293 28 = xc 0 := by rw [← hμ]; simp (disch := omega) only [xI_ne, xI_eq]
  obtain ⟨μ1, g1, g2, g3⟩ := rowsM_ok hq 4 0 [] μ6 hB c6 rfl rfl (fun r hr => absurd hr List.not_mem_nil) z26 z28
  refine ⟨μ1, ?_, F6.trans (g2.mono (fun a k z => Or.inl z)), g3, ?_⟩
  · have s1 : Sh (xsI μ 293 27 (nI n)) := hh
    have s2 : Sh (xsI (xsI μ 293 27 (nI n)) 293 7 (xc 0)) := hh
    have s3 : Sh (xsI (xsI (xsI μ 293 27 (nI n)) 293 7 (xc 0)) 293 26 (xc 0)) := hh
    have s4 : Sh (xsI (xsI (xsI (xsI μ 293 27 (nI n)) 293 7 (xc 0)) 293 26 (xc 0)) 293 28 (xc 0)) := hh
    have s5 : Sh (xsI (xsI (xsI (xsI (xsI μ 293 27 (nI n)) 293 7 (xc 0)) 293 26 (xc 0)) 293 28 (xc 0)) 299 q (xc 0)) := hh
    simp only [fM_readPicture, fM_readPicture_0, gd293 hh, f293 hh, e7, Option.bind_some, fs293 hh, fs293 s1, fs293 s2, fz293 s3 28 (show xc 0 = 0 ∨ xc 0 = 1 from Or.inl rfl), g293_10 s4, sa299 s4 _ hq, g293_14 s5, sa303 s5 _ hq, hμ]
    exact g1
  · rw [g2.I (by unfold WQ; omega), ← hμ]
    simp (disch := omega) only [xI_ne, xI_eq]
    rfl
end READM
