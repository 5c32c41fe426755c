/-! the memory behind the constructors: kinds and references of all cells (printed); the relation of class and reference in it -/
def shK0 : List (Nat × Nat) := [(0, 0), (3, 6), (10, 10), (13, 16), (4, 10), (4, 6), (1, 6), (1, 10), (1, 6), (1, 6), (1, 6), (1, 6), (15, 8), (1, 3), (1, 4), (1, 4), (1, 4), (15, 8), (1, 3), (1, 4), (1, 4), (1, 4), (15, 8), (1, 3), (1, 4), (1, 4), (1, 4), (15, 8), (1, 3), (1, 4), (1, 4), (1, 4), (15, 8), (1, 3), (1, 4), (1, 4), (1, 4), (15, 8), (1, 3), (1, 4)]
def shK1 : List (Nat × Nat) := [(1, 4), (1, 4), (15, 8), (1, 3), (1, 4), (1, 4), (1, 4), (15, 8), (1, 3), (1, 4), (1, 4), (1, 4), (15, 8), (1, 3), (1, 4), (1, 4), (1, 4), (15, 8), (1, 3), (1, 4), (1, 4), (1, 4), (15, 8), (1, 3), (1, 4), (1, 4), (1, 4), (15, 8), (1, 3), (1, 4), (1, 4), (1, 4), (15, 8), (1, 3), (1, 4), (1, 4), (1, 4), (15, 8), (1, 3), (1, 4)]
def shK2 : List (Nat × Nat) := [(1, 4), (1, 4), (15, 8), (1, 3), (1, 4), (1, 4), (1, 4), (15, 8), (1, 3), (1, 4), (1, 4), (1, 4), (13, 16), (4, 10), (4, 6), (1, 6), (1, 10), (1, 6), (1, 6), (1, 6), (1, 6), (15, 8), (1, 3), (1, 4), (1, 4), (1, 4), (15, 8), (1, 3), (1, 4), (1, 4), (1, 4), (15, 8), (1, 3), (1, 4), (1, 4), (1, 4), (15, 8), (1, 3), (1, 4), (1, 4)]
def shK3 : List (Nat × Nat) := [(1, 4), (15, 8), (1, 3), (1, 4), (1, 4), (1, 4), (15, 8), (1, 3), (1, 4), (1, 4), (1, 4), (15, 8), (1, 3), (1, 4), (1, 4), (1, 4), (15, 8), (1, 3), (1, 4), (1, 4), (1, 4), (15, 8), (1, 3), (1, 4), (1, 4), (1, 4), (15, 8), (1, 3), (1, 4), (1, 4), (1, 4), (15, 8), (1, 3), (1, 4), (1, 4), (1, 4), (15, 8), (1, 3), (1, 4), (1, 4)]
def shK4 : List (Nat × Nat) := [(1, 4), (15, 8), (1, 3), (1, 4), (1, 4), (1, 4), (15, 8), (1, 3), (1, 4), (1, 4), (1, 4), (15, 8), (1, 3), (1, 4), (1, 4), (1, 4), (15, 8), (1, 3), (1, 4), (1, 4), (1, 4), (17, 2), (1, 24), (11, 2), (1, 60), (12, 2), (1, 40), (5, 10), (15, 8), (1, 3), (1, 12), (1, 12), (1, 12), (18, 4), (3, 64), (6, 6), (3, 64), (3, 64), (3, 64), (3, 64)]
def shK5 : List (Nat × Nat) := [(3, 64), (3, 64), (6, 8), (3, 64), (3, 64), (3, 64), (3, 64), (3, 64), (3, 64), (3, 64), (3, 64), (3, 64), (1, 7), (16, 10), (15, 8), (1, 3), (1, 4), (1, 4), (1, 4), (1, 12), (3, 64), (16, 10), (15, 8), (1, 3), (1, 4), (1, 4), (1, 4), (1, 12), (3, 64), (16, 10), (15, 8), (1, 3), (1, 4), (1, 4), (1, 4), (1, 12), (3, 64), (16, 10), (15, 8), (1, 3)]
def shK6 : List (Nat × Nat) := [(1, 4), (1, 4), (1, 4), (1, 12), (3, 64), (16, 10), (15, 8), (1, 3), (1, 4), (1, 4), (1, 4), (1, 12), (3, 64), (16, 10), (15, 8), (1, 3), (1, 4), (1, 4), (1, 4), (1, 12), (3, 64), (16, 10), (15, 8), (1, 3), (1, 4), (1, 4), (1, 4), (1, 12), (3, 64), (16, 10), (15, 8), (1, 3), (1, 4), (1, 4), (1, 4), (1, 12), (3, 64), (16, 10), (15, 8), (1, 3)]
def shK7 : List (Nat × Nat) := [(1, 4), (1, 4), (1, 4), (1, 12), (3, 64), (16, 10), (15, 8), (1, 3), (1, 4), (1, 4), (1, 4), (1, 12), (3, 64), (19, 65), (1, 3), (2, 3), (1, 40), (1, 60), (1, 24), (1, 16), (1, 64), (1, 64), (1, 64), (1, 16), (1, 48), (1, 6), (1, 10), (1, 6), (1, 6), (1, 6), (1, 6), (2, 6), (1, 7), (1, 12), (1, 12), (1, 12), (1, 3), (1, 4), (1, 7), (1, 12)]
def shK8 : List (Nat × Nat) := [(1, 12), (1, 4), (1, 4), (1, 4), (1, 3), (2, 343), (1, 7), (1, 300), (2, 4096), (1, 4096), (2, 24576), (2, 640), (1, 100)]
def shK : List (Nat × Nat) := shK0 ++ (shK1 ++ (shK2 ++ (shK3 ++ (shK4 ++ (shK5 ++ (shK6 ++ (shK7 ++ (shK8))))))))
def shR0 : List (List (Option Nat)) := [[], [], [some 3, some 92, none, some 181, some 183, some 185, some 187, some 188, some 193, some 212], [none, none, none, none, none, none, none, none, some 4, some 5, some 6, some 7, some 8, some 9, some 10, some 11], [some 12, some 17, some 22, some 27, some 32, some 37, some 42, some 47, some 52, some 57], [some 62, some 67, some 72, some 77, some 82, some 87], [], [], [], [], [], [], [none, some 14, some 15, some 16, none, some 13], [], [], [], [], [none, some 19, some 20, some 21, none, some 18], [], [], [], [], [none, some 24, some 25, some 26, none, some 23], [], [], [], [], [none, some 29, some 30, some 31, none, some 28], [], [], [], [], [none, some 34, some 35, some 36, none, some 33], [], [], [], [], [none, some 39, some 40, some 41, none, some 38], [], []]
def shR1 : List (List (Option Nat)) := [[], [], [none, some 44, some 45, some 46, none, some 43], [], [], [], [], [none, some 49, some 50, some 51, none, some 48], [], [], [], [], [none, some 54, some 55, some 56, none, some 53], [], [], [], [], [none, some 59, some 60, some 61, none, some 58], [], [], [], [], [none, some 64, some 65, some 66, none, some 63], [], [], [], [], [none, some 69, some 70, some 71, none, some 68], [], [], [], [], [none, some 74, some 75, some 76, none, some 73], [], [], [], [], [none, some 79, some 80, some 81, none, some 78], [], []]
def shR2 : List (List (Option Nat)) := [[], [], [none, some 84, some 85, some 86, none, some 83], [], [], [], [], [none, some 89, some 90, some 91, none, some 88], [], [], [], [], [none, none, none, none, none, none, none, none, some 93, some 94, some 95, some 96, some 97, some 98, some 99, some 100], [some 101, some 106, some 111, some 116, some 121, some 126, some 131, some 136, some 141, some 146], [some 151, some 156, some 161, some 166, some 171, some 176], [], [], [], [], [], [], [none, some 103, some 104, some 105, none, some 102], [], [], [], [], [none, some 108, some 109, some 110, none, some 107], [], [], [], [], [none, some 113, some 114, some 115, none, some 112], [], [], [], [], [none, some 118, some 119, some 120, none, some 117], [], [], []]
def shR3 : List (List (Option Nat)) := [[], [none, some 123, some 124, some 125, none, some 122], [], [], [], [], [none, some 128, some 129, some 130, none, some 127], [], [], [], [], [none, some 133, some 134, some 135, none, some 132], [], [], [], [], [none, some 138, some 139, some 140, none, some 137], [], [], [], [], [none, some 143, some 144, some 145, none, some 142], [], [], [], [], [none, some 148, some 149, some 150, none, some 147], [], [], [], [], [none, some 153, some 154, some 155, none, some 152], [], [], [], [], [none, some 158, some 159, some 160, none, some 157], [], [], []]
def shR4 : List (List (Option Nat)) := [[], [none, some 163, some 164, some 165, none, some 162], [], [], [], [], [none, some 168, some 169, some 170, none, some 167], [], [], [], [], [none, some 173, some 174, some 175, none, some 172], [], [], [], [], [none, some 178, some 179, some 180, none, some 177], [], [], [], [], [some 182], [], [some 184], [], [some 186], [], [some 213, some 221, some 229, some 237, some 245, some 253, some 261, some 269, some 277, some 285], [none, some 190, some 191, some 192, none, some 189], [], [], [], [], [some 194, some 195, some 202, some 211], [], [some 196, some 197, some 198, some 199, some 200, some 201], [], [], [], []]
def shR5 : List (List (Option Nat)) := [[], [], [some 203, some 204, some 205, some 206, some 207, some 208, some 209, some 210], [], [], [], [], [], [], [], [], [], [], [some 214, some 219, none, none, some 220], [none, some 216, some 217, some 218, none, some 215], [], [], [], [], [], [], [some 222, some 227, none, none, some 228], [none, some 224, some 225, some 226, none, some 223], [], [], [], [], [], [], [some 230, some 235, none, none, some 236], [none, some 232, some 233, some 234, none, some 231], [], [], [], [], [], [], [some 238, some 243, none, none, some 244], [none, some 240, some 241, some 242, none, some 239], []]
def shR6 : List (List (Option Nat)) := [[], [], [], [], [], [some 246, some 251, none, none, some 252], [none, some 248, some 249, some 250, none, some 247], [], [], [], [], [], [], [some 254, some 259, none, none, some 260], [none, some 256, some 257, some 258, none, some 255], [], [], [], [], [], [], [some 262, some 267, none, none, some 268], [none, some 264, some 265, some 266, none, some 263], [], [], [], [], [], [], [some 270, some 275, none, none, some 276], [none, some 272, some 273, some 274, none, some 271], [], [], [], [], [], [], [some 278, some 283, none, none, some 284], [none, some 280, some 281, some 282, none, some 279], []]
def shR7 : List (List (Option Nat)) := [[], [], [], [], [], [some 286, some 291, none, none, some 292], [none, some 288, some 289, some 290, none, some 287], [], [], [], [], [], [], [some 294, some 295, some 296, none, some 297, none, some 298, none, none, none, some 299, some 300, some 301, some 302, some 303, some 304, some 305, some 306, some 307, some 308, some 309, some 310, some 311, none, none, some 312, none, none, none, none, some 313, some 314, some 315, none, some 316, none, none, some 317, some 318, none, none, some 319, some 320, none, some 321, some 322, some 323, none, some 324, none, some 325, some 326, none, some 327, none, none, none, some 328, some 329, some 330, some 331, none, some 332], [], [], [], [], [], [], [], [], [], [], [], [], [], [], [], [], [], [], [], [], [], [], [], [], [], []]
def shR8 : List (List (Option Nat)) := [[], [], [], [], [], [], [], [], [], [], [], [], []]
def shR : List (List (Option Nat)) := shR0 ++ (shR1 ++ (shR2 ++ (shR3 ++ (shR4 ++ (shR5 ++ (shR6 ++ (shR7 ++ (shR8))))))))
def Scr (L : Nat) (xs : Nat → Int32) (μ : xM) : Prop := xK μ 0 = (1, L) ∧ ∀ j, j < L → xI μ 0 j = xs j
def Sh (μ : xM) : Prop := μ.1 = (333, 37983) ∧ (∀ a, 1 ≤ a → a < 333 → xK μ a = shK.getD a (0, 0)) ∧ ∀ a k, 2 ≤ a → a < 333 → xR μ a k = (shR.getD a []).getD k none
/-- class (from cell 2) and reference (from cell 293) stand alike -/
def Sim (L : Nat) (xs : Nat → Int32) (μ : xM) : Prop := Sh μ ∧ Scr L xs μ ∧ (∀ j, j < 6 → xL μ 1 j = xhold j) ∧ ∃ (A V : Nat → xPic) (na nv T K kb gb : Nat), HRel μ 3 (vM μ) A V na nv T K kb gb ∧
  (∀ i, i < na → PicM μ i (A i) ∧ PicWf (A i)) ∧ (∀ i, i < nv → PicM μ (10 + i) (V i) ∧ PicWf (V i)) ∧
  (∃ c, c ≤ 40 ∧ xI μ 185 1 = nI c ∧ xI μ 293 3 = nI c ∧ ∀ j, j < c → ∃ r f, r < 12 ∧ f < 2 ∧ xI μ 186 j = nI r ∧ xI μ 296 j = nI (100 * f + 10 * (r / 4) + r % 4)) ∧
  (∃ n, n ≤ 60 ∧ xI μ 183 1 = nI n ∧ xI μ 293 5 = nI n ∧ ∀ j, j < n → xI μ 184 j = xI μ 297 j) ∧
  (∃ n, n ≤ 24 ∧ xI μ 181 1 = nI n ∧ xI μ 293 7 = nI n ∧ ∀ j, j < n → xI μ 182 j = xI μ 298 j) ∧
  (∀ k, k < 7 → xI μ 212 k = xI μ 312 k) ∧
  ((xI μ 2 2 = 0 ∧ xI μ 293 61 = 0) ∨ (xI μ 2 2 = 1 ∧ xI μ 293 61 = 1 ∧ ∃ na' nv' T' K' kb' gb', na' ≤ na ∧ nv' ≤ nv ∧ HRel μ 92 (fun j => xI μ 332 j) A V na' nv' T' K' kb' gb')) ∧
  ∀ i, i < 10 → (xI μ (213 + 8 * i) 8 = 0 ∧ xI μ (213 + 8 * i) 9 = 0) ∨ (i < na ∧ xI μ (213 + 8 * i) 8 = 1 ∧ SeenOK μ (213 + 8 * i) K nv V (A i) ∧ (xI μ (213 + 8 * i) 9 = 0 ∨ xI μ (213 + 8 * i) 9 = 1 ∧ ThroughOK μ (213 + 8 * i) K nv V (A i)))
theorem Sim.sh {L : Nat} {xs : Nat → Int32} {μ : xM} (h : Sim L xs μ) : Sh μ := h.1
theorem Sim.scr {L : Nat} {xs : Nat → Int32} {μ : xM} (h : Sim L xs μ) : Scr L xs μ := h.2.1
/-- a call of the class, then the same of the reference: one answer, alike again -/
def SimR (L : Nat) (xs : Nat → Int32) (o : Option (Int32 × xM)) (fm : xM → Option (Int32 × xM)) : Prop := ∃ (r : Int32) (μ1 μ2 : xM), o = some (r, μ1) ∧ Scr L xs μ1 ∧ fm μ1 = some (r, μ2) ∧ Sim L xs μ2
-- kinds and references by number
theorem kd1 {μ : xM} (h : Sh μ) : xK μ 1 = (3, 6) := (h.2.1 1 (by decide) (by decide)).trans rfl
theorem kd2 {μ : xM} (h : Sh μ) : xK μ 2 = (10, 10) := (h.2.1 2 (by decide) (by decide)).trans rfl
theorem kd3 {μ : xM} (h : Sh μ) : xK μ 3 = (13, 16) := (h.2.1 3 (by decide) (by decide)).trans rfl
theorem kd4 {μ : xM} (h : Sh μ) : xK μ 4 = (4, 10) := (h.2.1 4 (by decide) (by decide)).trans rfl
theorem kd5 {μ : xM} (h : Sh μ) : xK μ 5 = (4, 6) := (h.2.1 5 (by decide) (by decide)).trans rfl
theorem kd6 {μ : xM} (h : Sh μ) : xK μ 6 = (1, 6) := (h.2.1 6 (by decide) (by decide)).trans rfl
theorem kd7 {μ : xM} (h : Sh μ) : xK μ 7 = (1, 10) := (h.2.1 7 (by decide) (by decide)).trans rfl
theorem kd8 {μ : xM} (h : Sh μ) : xK μ 8 = (1, 6) := (h.2.1 8 (by decide) (by decide)).trans rfl
theorem kd9 {μ : xM} (h : Sh μ) : xK μ 9 = (1, 6) := (h.2.1 9 (by decide) (by decide)).trans rfl
theorem kd10 {μ : xM} (h : Sh μ) : xK μ 10 = (1, 6) := (h.2.1 10 (by decide) (by decide)).trans rfl
theorem kd11 {μ : xM} (h : Sh μ) : xK μ 11 = (1, 6) := (h.2.1 11 (by decide) (by decide)).trans rfl
theorem kd12 {μ : xM} (h : Sh μ) : xK μ 12 = (15, 8) := (h.2.1 12 (by decide) (by decide)).trans rfl
theorem kd13 {μ : xM} (h : Sh μ) : xK μ 13 = (1, 3) := (h.2.1 13 (by decide) (by decide)).trans rfl
theorem kd14 {μ : xM} (h : Sh μ) : xK μ 14 = (1, 4) := (h.2.1 14 (by decide) (by decide)).trans rfl
theorem kd15 {μ : xM} (h : Sh μ) : xK μ 15 = (1, 4) := (h.2.1 15 (by decide) (by decide)).trans rfl
theorem kd16 {μ : xM} (h : Sh μ) : xK μ 16 = (1, 4) := (h.2.1 16 (by decide) (by decide)).trans rfl
theorem kd17 {μ : xM} (h : Sh μ) : xK μ 17 = (15, 8) := (h.2.1 17 (by decide) (by decide)).trans rfl
theorem kd18 {μ : xM} (h : Sh μ) : xK μ 18 = (1, 3) := (h.2.1 18 (by decide) (by decide)).trans rfl
theorem kd19 {μ : xM} (h : Sh μ) : xK μ 19 = (1, 4) := (h.2.1 19 (by decide) (by decide)).trans rfl
theorem kd20 {μ : xM} (h : Sh μ) : xK μ 20 = (1, 4) := (h.2.1 20 (by decide) (by decide)).trans rfl
theorem kd21 {μ : xM} (h : Sh μ) : xK μ 21 = (1, 4) := (h.2.1 21 (by decide) (by decide)).trans rfl
theorem kd22 {μ : xM} (h : Sh μ) : xK μ 22 = (15, 8) := (h.2.1 22 (by decide) (by decide)).trans rfl
theorem kd23 {μ : xM} (h : Sh μ) : xK μ 23 = (1, 3) := (h.2.1 23 (by decide) (by decide)).trans rfl
theorem kd24 {μ : xM} (h : Sh μ) : xK μ 24 = (1, 4) := (h.2.1 24 (by decide) (by decide)).trans rfl
theorem kd25 {μ : xM} (h : Sh μ) : xK μ 25 = (1, 4) := (h.2.1 25 (by decide) (by decide)).trans rfl
theorem kd26 {μ : xM} (h : Sh μ) : xK μ 26 = (1, 4) := (h.2.1 26 (by decide) (by decide)).trans rfl
theorem kd27 {μ : xM} (h : Sh μ) : xK μ 27 = (15, 8) := (h.2.1 27 (by decide) (by decide)).trans rfl
theorem kd28 {μ : xM} (h : Sh μ) : xK μ 28 = (1, 3) := (h.2.1 28 (by decide) (by decide)).trans rfl
theorem kd29 {μ : xM} (h : Sh μ) : xK μ 29 = (1, 4) := (h.2.1 29 (by decide) (by decide)).trans rfl
theorem kd30 {μ : xM} (h : Sh μ) : xK μ 30 = (1, 4) := (h.2.1 30 (by decide) (by decide)).trans rfl
theorem kd31 {μ : xM} (h : Sh μ) : xK μ 31 = (1, 4) := (h.2.1 31 (by decide) (by decide)).trans rfl
theorem kd32 {μ : xM} (h : Sh μ) : xK μ 32 = (15, 8) := (h.2.1 32 (by decide) (by decide)).trans rfl
theorem kd33 {μ : xM} (h : Sh μ) : xK μ 33 = (1, 3) := (h.2.1 33 (by decide) (by decide)).trans rfl
theorem kd34 {μ : xM} (h : Sh μ) : xK μ 34 = (1, 4) := (h.2.1 34 (by decide) (by decide)).trans rfl
theorem kd35 {μ : xM} (h : Sh μ) : xK μ 35 = (1, 4) := (h.2.1 35 (by decide) (by decide)).trans rfl
theorem kd36 {μ : xM} (h : Sh μ) : xK μ 36 = (1, 4) := (h.2.1 36 (by decide) (by decide)).trans rfl
theorem kd37 {μ : xM} (h : Sh μ) : xK μ 37 = (15, 8) := (h.2.1 37 (by decide) (by decide)).trans rfl
theorem kd38 {μ : xM} (h : Sh μ) : xK μ 38 = (1, 3) := (h.2.1 38 (by decide) (by decide)).trans rfl
theorem kd39 {μ : xM} (h : Sh μ) : xK μ 39 = (1, 4) := (h.2.1 39 (by decide) (by decide)).trans rfl
theorem kd40 {μ : xM} (h : Sh μ) : xK μ 40 = (1, 4) := (h.2.1 40 (by decide) (by decide)).trans rfl
theorem kd41 {μ : xM} (h : Sh μ) : xK μ 41 = (1, 4) := (h.2.1 41 (by decide) (by decide)).trans rfl
theorem kd42 {μ : xM} (h : Sh μ) : xK μ 42 = (15, 8) := (h.2.1 42 (by decide) (by decide)).trans rfl
theorem kd43 {μ : xM} (h : Sh μ) : xK μ 43 = (1, 3) := (h.2.1 43 (by decide) (by decide)).trans rfl
theorem kd44 {μ : xM} (h : Sh μ) : xK μ 44 = (1, 4) := (h.2.1 44 (by decide) (by decide)).trans rfl
theorem kd45 {μ : xM} (h : Sh μ) : xK μ 45 = (1, 4) := (h.2.1 45 (by decide) (by decide)).trans rfl
theorem kd46 {μ : xM} (h : Sh μ) : xK μ 46 = (1, 4) := (h.2.1 46 (by decide) (by decide)).trans rfl
theorem kd47 {μ : xM} (h : Sh μ) : xK μ 47 = (15, 8) := (h.2.1 47 (by decide) (by decide)).trans rfl
theorem kd48 {μ : xM} (h : Sh μ) : xK μ 48 = (1, 3) := (h.2.1 48 (by decide) (by decide)).trans rfl
theorem kd49 {μ : xM} (h : Sh μ) : xK μ 49 = (1, 4) := (h.2.1 49 (by decide) (by decide)).trans rfl
theorem kd50 {μ : xM} (h : Sh μ) : xK μ 50 = (1, 4) := (h.2.1 50 (by decide) (by decide)).trans rfl
theorem kd51 {μ : xM} (h : Sh μ) : xK μ 51 = (1, 4) := (h.2.1 51 (by decide) (by decide)).trans rfl
theorem kd52 {μ : xM} (h : Sh μ) : xK μ 52 = (15, 8) := (h.2.1 52 (by decide) (by decide)).trans rfl
theorem kd53 {μ : xM} (h : Sh μ) : xK μ 53 = (1, 3) := (h.2.1 53 (by decide) (by decide)).trans rfl
theorem kd54 {μ : xM} (h : Sh μ) : xK μ 54 = (1, 4) := (h.2.1 54 (by decide) (by decide)).trans rfl
theorem kd55 {μ : xM} (h : Sh μ) : xK μ 55 = (1, 4) := (h.2.1 55 (by decide) (by decide)).trans rfl
theorem kd56 {μ : xM} (h : Sh μ) : xK μ 56 = (1, 4) := (h.2.1 56 (by decide) (by decide)).trans rfl
theorem kd57 {μ : xM} (h : Sh μ) : xK μ 57 = (15, 8) := (h.2.1 57 (by decide) (by decide)).trans rfl
theorem kd58 {μ : xM} (h : Sh μ) : xK μ 58 = (1, 3) := (h.2.1 58 (by decide) (by decide)).trans rfl
theorem kd59 {μ : xM} (h : Sh μ) : xK μ 59 = (1, 4) := (h.2.1 59 (by decide) (by decide)).trans rfl
theorem kd60 {μ : xM} (h : Sh μ) : xK μ 60 = (1, 4) := (h.2.1 60 (by decide) (by decide)).trans rfl
theorem kd61 {μ : xM} (h : Sh μ) : xK μ 61 = (1, 4) := (h.2.1 61 (by decide) (by decide)).trans rfl
theorem kd62 {μ : xM} (h : Sh μ) : xK μ 62 = (15, 8) := (h.2.1 62 (by decide) (by decide)).trans rfl
theorem kd63 {μ : xM} (h : Sh μ) : xK μ 63 = (1, 3) := (h.2.1 63 (by decide) (by decide)).trans rfl
theorem kd64 {μ : xM} (h : Sh μ) : xK μ 64 = (1, 4) := (h.2.1 64 (by decide) (by decide)).trans rfl
theorem kd65 {μ : xM} (h : Sh μ) : xK μ 65 = (1, 4) := (h.2.1 65 (by decide) (by decide)).trans rfl
theorem kd66 {μ : xM} (h : Sh μ) : xK μ 66 = (1, 4) := (h.2.1 66 (by decide) (by decide)).trans rfl
theorem kd67 {μ : xM} (h : Sh μ) : xK μ 67 = (15, 8) := (h.2.1 67 (by decide) (by decide)).trans rfl
theorem kd68 {μ : xM} (h : Sh μ) : xK μ 68 = (1, 3) := (h.2.1 68 (by decide) (by decide)).trans rfl
theorem kd69 {μ : xM} (h : Sh μ) : xK μ 69 = (1, 4) := (h.2.1 69 (by decide) (by decide)).trans rfl
theorem kd70 {μ : xM} (h : Sh μ) : xK μ 70 = (1, 4) := (h.2.1 70 (by decide) (by decide)).trans rfl
theorem kd71 {μ : xM} (h : Sh μ) : xK μ 71 = (1, 4) := (h.2.1 71 (by decide) (by decide)).trans rfl
theorem kd72 {μ : xM} (h : Sh μ) : xK μ 72 = (15, 8) := (h.2.1 72 (by decide) (by decide)).trans rfl
theorem kd73 {μ : xM} (h : Sh μ) : xK μ 73 = (1, 3) := (h.2.1 73 (by decide) (by decide)).trans rfl
theorem kd74 {μ : xM} (h : Sh μ) : xK μ 74 = (1, 4) := (h.2.1 74 (by decide) (by decide)).trans rfl
theorem kd75 {μ : xM} (h : Sh μ) : xK μ 75 = (1, 4) := (h.2.1 75 (by decide) (by decide)).trans rfl
theorem kd76 {μ : xM} (h : Sh μ) : xK μ 76 = (1, 4) := (h.2.1 76 (by decide) (by decide)).trans rfl
theorem kd77 {μ : xM} (h : Sh μ) : xK μ 77 = (15, 8) := (h.2.1 77 (by decide) (by decide)).trans rfl
theorem kd78 {μ : xM} (h : Sh μ) : xK μ 78 = (1, 3) := (h.2.1 78 (by decide) (by decide)).trans rfl
theorem kd79 {μ : xM} (h : Sh μ) : xK μ 79 = (1, 4) := (h.2.1 79 (by decide) (by decide)).trans rfl
theorem kd80 {μ : xM} (h : Sh μ) : xK μ 80 = (1, 4) := (h.2.1 80 (by decide) (by decide)).trans rfl
theorem kd81 {μ : xM} (h : Sh μ) : xK μ 81 = (1, 4) := (h.2.1 81 (by decide) (by decide)).trans rfl
theorem kd82 {μ : xM} (h : Sh μ) : xK μ 82 = (15, 8) := (h.2.1 82 (by decide) (by decide)).trans rfl
theorem kd83 {μ : xM} (h : Sh μ) : xK μ 83 = (1, 3) := (h.2.1 83 (by decide) (by decide)).trans rfl
theorem kd84 {μ : xM} (h : Sh μ) : xK μ 84 = (1, 4) := (h.2.1 84 (by decide) (by decide)).trans rfl
theorem kd85 {μ : xM} (h : Sh μ) : xK μ 85 = (1, 4) := (h.2.1 85 (by decide) (by decide)).trans rfl
theorem kd86 {μ : xM} (h : Sh μ) : xK μ 86 = (1, 4) := (h.2.1 86 (by decide) (by decide)).trans rfl
theorem kd87 {μ : xM} (h : Sh μ) : xK μ 87 = (15, 8) := (h.2.1 87 (by decide) (by decide)).trans rfl
theorem kd88 {μ : xM} (h : Sh μ) : xK μ 88 = (1, 3) := (h.2.1 88 (by decide) (by decide)).trans rfl
theorem kd89 {μ : xM} (h : Sh μ) : xK μ 89 = (1, 4) := (h.2.1 89 (by decide) (by decide)).trans rfl
theorem kd90 {μ : xM} (h : Sh μ) : xK μ 90 = (1, 4) := (h.2.1 90 (by decide) (by decide)).trans rfl
theorem kd91 {μ : xM} (h : Sh μ) : xK μ 91 = (1, 4) := (h.2.1 91 (by decide) (by decide)).trans rfl
theorem kd92 {μ : xM} (h : Sh μ) : xK μ 92 = (13, 16) := (h.2.1 92 (by decide) (by decide)).trans rfl
theorem kd93 {μ : xM} (h : Sh μ) : xK μ 93 = (4, 10) := (h.2.1 93 (by decide) (by decide)).trans rfl
theorem kd94 {μ : xM} (h : Sh μ) : xK μ 94 = (4, 6) := (h.2.1 94 (by decide) (by decide)).trans rfl
theorem kd95 {μ : xM} (h : Sh μ) : xK μ 95 = (1, 6) := (h.2.1 95 (by decide) (by decide)).trans rfl
theorem kd96 {μ : xM} (h : Sh μ) : xK μ 96 = (1, 10) := (h.2.1 96 (by decide) (by decide)).trans rfl
theorem kd97 {μ : xM} (h : Sh μ) : xK μ 97 = (1, 6) := (h.2.1 97 (by decide) (by decide)).trans rfl
theorem kd98 {μ : xM} (h : Sh μ) : xK μ 98 = (1, 6) := (h.2.1 98 (by decide) (by decide)).trans rfl
theorem kd99 {μ : xM} (h : Sh μ) : xK μ 99 = (1, 6) := (h.2.1 99 (by decide) (by decide)).trans rfl
theorem kd100 {μ : xM} (h : Sh μ) : xK μ 100 = (1, 6) := (h.2.1 100 (by decide) (by decide)).trans rfl
theorem kd101 {μ : xM} (h : Sh μ) : xK μ 101 = (15, 8) := (h.2.1 101 (by decide) (by decide)).trans rfl
theorem kd102 {μ : xM} (h : Sh μ) : xK μ 102 = (1, 3) := (h.2.1 102 (by decide) (by decide)).trans rfl
theorem kd103 {μ : xM} (h : Sh μ) : xK μ 103 = (1, 4) := (h.2.1 103 (by decide) (by decide)).trans rfl
theorem kd104 {μ : xM} (h : Sh μ) : xK μ 104 = (1, 4) := (h.2.1 104 (by decide) (by decide)).trans rfl
theorem kd105 {μ : xM} (h : Sh μ) : xK μ 105 = (1, 4) := (h.2.1 105 (by decide) (by decide)).trans rfl
theorem kd106 {μ : xM} (h : Sh μ) : xK μ 106 = (15, 8) := (h.2.1 106 (by decide) (by decide)).trans rfl
theorem kd107 {μ : xM} (h : Sh μ) : xK μ 107 = (1, 3) := (h.2.1 107 (by decide) (by decide)).trans rfl
theorem kd108 {μ : xM} (h : Sh μ) : xK μ 108 = (1, 4) := (h.2.1 108 (by decide) (by decide)).trans rfl
theorem kd109 {μ : xM} (h : Sh μ) : xK μ 109 = (1, 4) := (h.2.1 109 (by decide) (by decide)).trans rfl
theorem kd110 {μ : xM} (h : Sh μ) : xK μ 110 = (1, 4) := (h.2.1 110 (by decide) (by decide)).trans rfl
theorem kd111 {μ : xM} (h : Sh μ) : xK μ 111 = (15, 8) := (h.2.1 111 (by decide) (by decide)).trans rfl
theorem kd112 {μ : xM} (h : Sh μ) : xK μ 112 = (1, 3) := (h.2.1 112 (by decide) (by decide)).trans rfl
theorem kd113 {μ : xM} (h : Sh μ) : xK μ 113 = (1, 4) := (h.2.1 113 (by decide) (by decide)).trans rfl
theorem kd114 {μ : xM} (h : Sh μ) : xK μ 114 = (1, 4) := (h.2.1 114 (by decide) (by decide)).trans rfl
theorem kd115 {μ : xM} (h : Sh μ) : xK μ 115 = (1, 4) := (h.2.1 115 (by decide) (by decide)).trans rfl
theorem kd116 {μ : xM} (h : Sh μ) : xK μ 116 = (15, 8) := (h.2.1 116 (by decide) (by decide)).trans rfl
theorem kd117 {μ : xM} (h : Sh μ) : xK μ 117 = (1, 3) := (h.2.1 117 (by decide) (by decide)).trans rfl
theorem kd118 {μ : xM} (h : Sh μ) : xK μ 118 = (1, 4) := (h.2.1 118 (by decide) (by decide)).trans rfl
theorem kd119 {μ : xM} (h : Sh μ) : xK μ 119 = (1, 4) := (h.2.1 119 (by decide) (by decide)).trans rfl
theorem kd120 {μ : xM} (h : Sh μ) : xK μ 120 = (1, 4) := (h.2.1 120 (by decide) (by decide)).trans rfl
theorem kd121 {μ : xM} (h : Sh μ) : xK μ 121 = (15, 8) := (h.2.1 121 (by decide) (by decide)).trans rfl
theorem kd122 {μ : xM} (h : Sh μ) : xK μ 122 = (1, 3) := (h.2.1 122 (by decide) (by decide)).trans rfl
theorem kd123 {μ : xM} (h : Sh μ) : xK μ 123 = (1, 4) := (h.2.1 123 (by decide) (by decide)).trans rfl
theorem kd124 {μ : xM} (h : Sh μ) : xK μ 124 = (1, 4) := (h.2.1 124 (by decide) (by decide)).trans rfl
theorem kd125 {μ : xM} (h : Sh μ) : xK μ 125 = (1, 4) := (h.2.1 125 (by decide) (by decide)).trans rfl
theorem kd126 {μ : xM} (h : Sh μ) : xK μ 126 = (15, 8) := (h.2.1 126 (by decide) (by decide)).trans rfl
theorem kd127 {μ : xM} (h : Sh μ) : xK μ 127 = (1, 3) := (h.2.1 127 (by decide) (by decide)).trans rfl
theorem kd128 {μ : xM} (h : Sh μ) : xK μ 128 = (1, 4) := (h.2.1 128 (by decide) (by decide)).trans rfl
theorem kd129 {μ : xM} (h : Sh μ) : xK μ 129 = (1, 4) := (h.2.1 129 (by decide) (by decide)).trans rfl
theorem kd130 {μ : xM} (h : Sh μ) : xK μ 130 = (1, 4) := (h.2.1 130 (by decide) (by decide)).trans rfl
theorem kd131 {μ : xM} (h : Sh μ) : xK μ 131 = (15, 8) := (h.2.1 131 (by decide) (by decide)).trans rfl
theorem kd132 {μ : xM} (h : Sh μ) : xK μ 132 = (1, 3) := (h.2.1 132 (by decide) (by decide)).trans rfl
theorem kd133 {μ : xM} (h : Sh μ) : xK μ 133 = (1, 4) := (h.2.1 133 (by decide) (by decide)).trans rfl
theorem kd134 {μ : xM} (h : Sh μ) : xK μ 134 = (1, 4) := (h.2.1 134 (by decide) (by decide)).trans rfl
theorem kd135 {μ : xM} (h : Sh μ) : xK μ 135 = (1, 4) := (h.2.1 135 (by decide) (by decide)).trans rfl
theorem kd136 {μ : xM} (h : Sh μ) : xK μ 136 = (15, 8) := (h.2.1 136 (by decide) (by decide)).trans rfl
theorem kd137 {μ : xM} (h : Sh μ) : xK μ 137 = (1, 3) := (h.2.1 137 (by decide) (by decide)).trans rfl
theorem kd138 {μ : xM} (h : Sh μ) : xK μ 138 = (1, 4) := (h.2.1 138 (by decide) (by decide)).trans rfl
theorem kd139 {μ : xM} (h : Sh μ) : xK μ 139 = (1, 4) := (h.2.1 139 (by decide) (by decide)).trans rfl
theorem kd140 {μ : xM} (h : Sh μ) : xK μ 140 = (1, 4) := (h.2.1 140 (by decide) (by decide)).trans rfl
theorem kd141 {μ : xM} (h : Sh μ) : xK μ 141 = (15, 8) := (h.2.1 141 (by decide) (by decide)).trans rfl
theorem kd142 {μ : xM} (h : Sh μ) : xK μ 142 = (1, 3) := (h.2.1 142 (by decide) (by decide)).trans rfl
theorem kd143 {μ : xM} (h : Sh μ) : xK μ 143 = (1, 4) := (h.2.1 143 (by decide) (by decide)).trans rfl
theorem kd144 {μ : xM} (h : Sh μ) : xK μ 144 = (1, 4) := (h.2.1 144 (by decide) (by decide)).trans rfl
theorem kd145 {μ : xM} (h : Sh μ) : xK μ 145 = (1, 4) := (h.2.1 145 (by decide) (by decide)).trans rfl
theorem kd146 {μ : xM} (h : Sh μ) : xK μ 146 = (15, 8) := (h.2.1 146 (by decide) (by decide)).trans rfl
theorem kd147 {μ : xM} (h : Sh μ) : xK μ 147 = (1, 3) := (h.2.1 147 (by decide) (by decide)).trans rfl
theorem kd148 {μ : xM} (h : Sh μ) : xK μ 148 = (1, 4) := (h.2.1 148 (by decide) (by decide)).trans rfl
theorem kd149 {μ : xM} (h : Sh μ) : xK μ 149 = (1, 4) := (h.2.1 149 (by decide) (by decide)).trans rfl
theorem kd150 {μ : xM} (h : Sh μ) : xK μ 150 = (1, 4) := (h.2.1 150 (by decide) (by decide)).trans rfl
theorem kd151 {μ : xM} (h : Sh μ) : xK μ 151 = (15, 8) := (h.2.1 151 (by decide) (by decide)).trans rfl
theorem kd152 {μ : xM} (h : Sh μ) : xK μ 152 = (1, 3) := (h.2.1 152 (by decide) (by decide)).trans rfl
theorem kd153 {μ : xM} (h : Sh μ) : xK μ 153 = (1, 4) := (h.2.1 153 (by decide) (by decide)).trans rfl
theorem kd154 {μ : xM} (h : Sh μ) : xK μ 154 = (1, 4) := (h.2.1 154 (by decide) (by decide)).trans rfl
theorem kd155 {μ : xM} (h : Sh μ) : xK μ 155 = (1, 4) := (h.2.1 155 (by decide) (by decide)).trans rfl
theorem kd156 {μ : xM} (h : Sh μ) : xK μ 156 = (15, 8) := (h.2.1 156 (by decide) (by decide)).trans rfl
theorem kd157 {μ : xM} (h : Sh μ) : xK μ 157 = (1, 3) := (h.2.1 157 (by decide) (by decide)).trans rfl
theorem kd158 {μ : xM} (h : Sh μ) : xK μ 158 = (1, 4) := (h.2.1 158 (by decide) (by decide)).trans rfl
theorem kd159 {μ : xM} (h : Sh μ) : xK μ 159 = (1, 4) := (h.2.1 159 (by decide) (by decide)).trans rfl
theorem kd160 {μ : xM} (h : Sh μ) : xK μ 160 = (1, 4) := (h.2.1 160 (by decide) (by decide)).trans rfl
theorem kd161 {μ : xM} (h : Sh μ) : xK μ 161 = (15, 8) := (h.2.1 161 (by decide) (by decide)).trans rfl
theorem kd162 {μ : xM} (h : Sh μ) : xK μ 162 = (1, 3) := (h.2.1 162 (by decide) (by decide)).trans rfl
theorem kd163 {μ : xM} (h : Sh μ) : xK μ 163 = (1, 4) := (h.2.1 163 (by decide) (by decide)).trans rfl
theorem kd164 {μ : xM} (h : Sh μ) : xK μ 164 = (1, 4) := (h.2.1 164 (by decide) (by decide)).trans rfl
theorem kd165 {μ : xM} (h : Sh μ) : xK μ 165 = (1, 4) := (h.2.1 165 (by decide) (by decide)).trans rfl
theorem kd166 {μ : xM} (h : Sh μ) : xK μ 166 = (15, 8) := (h.2.1 166 (by decide) (by decide)).trans rfl
theorem kd167 {μ : xM} (h : Sh μ) : xK μ 167 = (1, 3) := (h.2.1 167 (by decide) (by decide)).trans rfl
theorem kd168 {μ : xM} (h : Sh μ) : xK μ 168 = (1, 4) := (h.2.1 168 (by decide) (by decide)).trans rfl
theorem kd169 {μ : xM} (h : Sh μ) : xK μ 169 = (1, 4) := (h.2.1 169 (by decide) (by decide)).trans rfl
theorem kd170 {μ : xM} (h : Sh μ) : xK μ 170 = (1, 4) := (h.2.1 170 (by decide) (by decide)).trans rfl
theorem kd171 {μ : xM} (h : Sh μ) : xK μ 171 = (15, 8) := (h.2.1 171 (by decide) (by decide)).trans rfl
theorem kd172 {μ : xM} (h : Sh μ) : xK μ 172 = (1, 3) := (h.2.1 172 (by decide) (by decide)).trans rfl
theorem kd173 {μ : xM} (h : Sh μ) : xK μ 173 = (1, 4) := (h.2.1 173 (by decide) (by decide)).trans rfl
theorem kd174 {μ : xM} (h : Sh μ) : xK μ 174 = (1, 4) := (h.2.1 174 (by decide) (by decide)).trans rfl
theorem kd175 {μ : xM} (h : Sh μ) : xK μ 175 = (1, 4) := (h.2.1 175 (by decide) (by decide)).trans rfl
theorem kd176 {μ : xM} (h : Sh μ) : xK μ 176 = (15, 8) := (h.2.1 176 (by decide) (by decide)).trans rfl
theorem kd177 {μ : xM} (h : Sh μ) : xK μ 177 = (1, 3) := (h.2.1 177 (by decide) (by decide)).trans rfl
theorem kd178 {μ : xM} (h : Sh μ) : xK μ 178 = (1, 4) := (h.2.1 178 (by decide) (by decide)).trans rfl
theorem kd179 {μ : xM} (h : Sh μ) : xK μ 179 = (1, 4) := (h.2.1 179 (by decide) (by decide)).trans rfl
theorem kd180 {μ : xM} (h : Sh μ) : xK μ 180 = (1, 4) := (h.2.1 180 (by decide) (by decide)).trans rfl
theorem kd181 {μ : xM} (h : Sh μ) : xK μ 181 = (17, 2) := (h.2.1 181 (by decide) (by decide)).trans rfl
theorem kd182 {μ : xM} (h : Sh μ) : xK μ 182 = (1, 24) := (h.2.1 182 (by decide) (by decide)).trans rfl
theorem kd183 {μ : xM} (h : Sh μ) : xK μ 183 = (11, 2) := (h.2.1 183 (by decide) (by decide)).trans rfl
theorem kd184 {μ : xM} (h : Sh μ) : xK μ 184 = (1, 60) := (h.2.1 184 (by decide) (by decide)).trans rfl
theorem kd185 {μ : xM} (h : Sh μ) : xK μ 185 = (12, 2) := (h.2.1 185 (by decide) (by decide)).trans rfl
theorem kd186 {μ : xM} (h : Sh μ) : xK μ 186 = (1, 40) := (h.2.1 186 (by decide) (by decide)).trans rfl
theorem kd187 {μ : xM} (h : Sh μ) : xK μ 187 = (5, 10) := (h.2.1 187 (by decide) (by decide)).trans rfl
theorem kd188 {μ : xM} (h : Sh μ) : xK μ 188 = (15, 8) := (h.2.1 188 (by decide) (by decide)).trans rfl
theorem kd189 {μ : xM} (h : Sh μ) : xK μ 189 = (1, 3) := (h.2.1 189 (by decide) (by decide)).trans rfl
theorem kd190 {μ : xM} (h : Sh μ) : xK μ 190 = (1, 12) := (h.2.1 190 (by decide) (by decide)).trans rfl
theorem kd191 {μ : xM} (h : Sh μ) : xK μ 191 = (1, 12) := (h.2.1 191 (by decide) (by decide)).trans rfl
theorem kd192 {μ : xM} (h : Sh μ) : xK μ 192 = (1, 12) := (h.2.1 192 (by decide) (by decide)).trans rfl
theorem kd193 {μ : xM} (h : Sh μ) : xK μ 193 = (18, 4) := (h.2.1 193 (by decide) (by decide)).trans rfl
theorem kd194 {μ : xM} (h : Sh μ) : xK μ 194 = (3, 64) := (h.2.1 194 (by decide) (by decide)).trans rfl
theorem kd195 {μ : xM} (h : Sh μ) : xK μ 195 = (6, 6) := (h.2.1 195 (by decide) (by decide)).trans rfl
theorem kd196 {μ : xM} (h : Sh μ) : xK μ 196 = (3, 64) := (h.2.1 196 (by decide) (by decide)).trans rfl
theorem kd197 {μ : xM} (h : Sh μ) : xK μ 197 = (3, 64) := (h.2.1 197 (by decide) (by decide)).trans rfl
theorem kd198 {μ : xM} (h : Sh μ) : xK μ 198 = (3, 64) := (h.2.1 198 (by decide) (by decide)).trans rfl
theorem kd199 {μ : xM} (h : Sh μ) : xK μ 199 = (3, 64) := (h.2.1 199 (by decide) (by decide)).trans rfl
theorem kd200 {μ : xM} (h : Sh μ) : xK μ 200 = (3, 64) := (h.2.1 200 (by decide) (by decide)).trans rfl
theorem kd201 {μ : xM} (h : Sh μ) : xK μ 201 = (3, 64) := (h.2.1 201 (by decide) (by decide)).trans rfl
theorem kd202 {μ : xM} (h : Sh μ) : xK μ 202 = (6, 8) := (h.2.1 202 (by decide) (by decide)).trans rfl
theorem kd203 {μ : xM} (h : Sh μ) : xK μ 203 = (3, 64) := (h.2.1 203 (by decide) (by decide)).trans rfl
theorem kd204 {μ : xM} (h : Sh μ) : xK μ 204 = (3, 64) := (h.2.1 204 (by decide) (by decide)).trans rfl
theorem kd205 {μ : xM} (h : Sh μ) : xK μ 205 = (3, 64) := (h.2.1 205 (by decide) (by decide)).trans rfl
theorem kd206 {μ : xM} (h : Sh μ) : xK μ 206 = (3, 64) := (h.2.1 206 (by decide) (by decide)).trans rfl
theorem kd207 {μ : xM} (h : Sh μ) : xK μ 207 = (3, 64) := (h.2.1 207 (by decide) (by decide)).trans rfl
theorem kd208 {μ : xM} (h : Sh μ) : xK μ 208 = (3, 64) := (h.2.1 208 (by decide) (by decide)).trans rfl
theorem kd209 {μ : xM} (h : Sh μ) : xK μ 209 = (3, 64) := (h.2.1 209 (by decide) (by decide)).trans rfl
theorem kd210 {μ : xM} (h : Sh μ) : xK μ 210 = (3, 64) := (h.2.1 210 (by decide) (by decide)).trans rfl
theorem kd211 {μ : xM} (h : Sh μ) : xK μ 211 = (3, 64) := (h.2.1 211 (by decide) (by decide)).trans rfl
theorem kd212 {μ : xM} (h : Sh μ) : xK μ 212 = (1, 7) := (h.2.1 212 (by decide) (by decide)).trans rfl
theorem kd213 {μ : xM} (h : Sh μ) : xK μ 213 = (16, 10) := (h.2.1 213 (by decide) (by decide)).trans rfl
theorem kd214 {μ : xM} (h : Sh μ) : xK μ 214 = (15, 8) := (h.2.1 214 (by decide) (by decide)).trans rfl
theorem kd215 {μ : xM} (h : Sh μ) : xK μ 215 = (1, 3) := (h.2.1 215 (by decide) (by decide)).trans rfl
theorem kd216 {μ : xM} (h : Sh μ) : xK μ 216 = (1, 4) := (h.2.1 216 (by decide) (by decide)).trans rfl
theorem kd217 {μ : xM} (h : Sh μ) : xK μ 217 = (1, 4) := (h.2.1 217 (by decide) (by decide)).trans rfl
theorem kd218 {μ : xM} (h : Sh μ) : xK μ 218 = (1, 4) := (h.2.1 218 (by decide) (by decide)).trans rfl
theorem kd219 {μ : xM} (h : Sh μ) : xK μ 219 = (1, 12) := (h.2.1 219 (by decide) (by decide)).trans rfl
theorem kd220 {μ : xM} (h : Sh μ) : xK μ 220 = (3, 64) := (h.2.1 220 (by decide) (by decide)).trans rfl
theorem kd221 {μ : xM} (h : Sh μ) : xK μ 221 = (16, 10) := (h.2.1 221 (by decide) (by decide)).trans rfl
theorem kd222 {μ : xM} (h : Sh μ) : xK μ 222 = (15, 8) := (h.2.1 222 (by decide) (by decide)).trans rfl
theorem kd223 {μ : xM} (h : Sh μ) : xK μ 223 = (1, 3) := (h.2.1 223 (by decide) (by decide)).trans rfl
theorem kd224 {μ : xM} (h : Sh μ) : xK μ 224 = (1, 4) := (h.2.1 224 (by decide) (by decide)).trans rfl
theorem kd225 {μ : xM} (h : Sh μ) : xK μ 225 = (1, 4) := (h.2.1 225 (by decide) (by decide)).trans rfl
theorem kd226 {μ : xM} (h : Sh μ) : xK μ 226 = (1, 4) := (h.2.1 226 (by decide) (by decide)).trans rfl
theorem kd227 {μ : xM} (h : Sh μ) : xK μ 227 = (1, 12) := (h.2.1 227 (by decide) (by decide)).trans rfl
theorem kd228 {μ : xM} (h : Sh μ) : xK μ 228 = (3, 64) := (h.2.1 228 (by decide) (by decide)).trans rfl
theorem kd229 {μ : xM} (h : Sh μ) : xK μ 229 = (16, 10) := (h.2.1 229 (by decide) (by decide)).trans rfl
theorem kd230 {μ : xM} (h : Sh μ) : xK μ 230 = (15, 8) := (h.2.1 230 (by decide) (by decide)).trans rfl
theorem kd231 {μ : xM} (h : Sh μ) : xK μ 231 = (1, 3) := (h.2.1 231 (by decide) (by decide)).trans rfl
theorem kd232 {μ : xM} (h : Sh μ) : xK μ 232 = (1, 4) := (h.2.1 232 (by decide) (by decide)).trans rfl
theorem kd233 {μ : xM} (h : Sh μ) : xK μ 233 = (1, 4) := (h.2.1 233 (by decide) (by decide)).trans rfl
theorem kd234 {μ : xM} (h : Sh μ) : xK μ 234 = (1, 4) := (h.2.1 234 (by decide) (by decide)).trans rfl
theorem kd235 {μ : xM} (h : Sh μ) : xK μ 235 = (1, 12) := (h.2.1 235 (by decide) (by decide)).trans rfl
theorem kd236 {μ : xM} (h : Sh μ) : xK μ 236 = (3, 64) := (h.2.1 236 (by decide) (by decide)).trans rfl
theorem kd237 {μ : xM} (h : Sh μ) : xK μ 237 = (16, 10) := (h.2.1 237 (by decide) (by decide)).trans rfl
theorem kd238 {μ : xM} (h : Sh μ) : xK μ 238 = (15, 8) := (h.2.1 238 (by decide) (by decide)).trans rfl
theorem kd239 {μ : xM} (h : Sh μ) : xK μ 239 = (1, 3) := (h.2.1 239 (by decide) (by decide)).trans rfl
theorem kd240 {μ : xM} (h : Sh μ) : xK μ 240 = (1, 4) := (h.2.1 240 (by decide) (by decide)).trans rfl
theorem kd241 {μ : xM} (h : Sh μ) : xK μ 241 = (1, 4) := (h.2.1 241 (by decide) (by decide)).trans rfl
theorem kd242 {μ : xM} (h : Sh μ) : xK μ 242 = (1, 4) := (h.2.1 242 (by decide) (by decide)).trans rfl
theorem kd243 {μ : xM} (h : Sh μ) : xK μ 243 = (1, 12) := (h.2.1 243 (by decide) (by decide)).trans rfl
theorem kd244 {μ : xM} (h : Sh μ) : xK μ 244 = (3, 64) := (h.2.1 244 (by decide) (by decide)).trans rfl
theorem kd245 {μ : xM} (h : Sh μ) : xK μ 245 = (16, 10) := (h.2.1 245 (by decide) (by decide)).trans rfl
theorem kd246 {μ : xM} (h : Sh μ) : xK μ 246 = (15, 8) := (h.2.1 246 (by decide) (by decide)).trans rfl
theorem kd247 {μ : xM} (h : Sh μ) : xK μ 247 = (1, 3) := (h.2.1 247 (by decide) (by decide)).trans rfl
theorem kd248 {μ : xM} (h : Sh μ) : xK μ 248 = (1, 4) := (h.2.1 248 (by decide) (by decide)).trans rfl
theorem kd249 {μ : xM} (h : Sh μ) : xK μ 249 = (1, 4) := (h.2.1 249 (by decide) (by decide)).trans rfl
theorem kd250 {μ : xM} (h : Sh μ) : xK μ 250 = (1, 4) := (h.2.1 250 (by decide) (by decide)).trans rfl
theorem kd251 {μ : xM} (h : Sh μ) : xK μ 251 = (1, 12) := (h.2.1 251 (by decide) (by decide)).trans rfl
theorem kd252 {μ : xM} (h : Sh μ) : xK μ 252 = (3, 64) := (h.2.1 252 (by decide) (by decide)).trans rfl
theorem kd253 {μ : xM} (h : Sh μ) : xK μ 253 = (16, 10) := (h.2.1 253 (by decide) (by decide)).trans rfl
theorem kd254 {μ : xM} (h : Sh μ) : xK μ 254 = (15, 8) := (h.2.1 254 (by decide) (by decide)).trans rfl
theorem kd255 {μ : xM} (h : Sh μ) : xK μ 255 = (1, 3) := (h.2.1 255 (by decide) (by decide)).trans rfl
theorem kd256 {μ : xM} (h : Sh μ) : xK μ 256 = (1, 4) := (h.2.1 256 (by decide) (by decide)).trans rfl
theorem kd257 {μ : xM} (h : Sh μ) : xK μ 257 = (1, 4) := (h.2.1 257 (by decide) (by decide)).trans rfl
theorem kd258 {μ : xM} (h : Sh μ) : xK μ 258 = (1, 4) := (h.2.1 258 (by decide) (by decide)).trans rfl
theorem kd259 {μ : xM} (h : Sh μ) : xK μ 259 = (1, 12) := (h.2.1 259 (by decide) (by decide)).trans rfl
theorem kd260 {μ : xM} (h : Sh μ) : xK μ 260 = (3, 64) := (h.2.1 260 (by decide) (by decide)).trans rfl
theorem kd261 {μ : xM} (h : Sh μ) : xK μ 261 = (16, 10) := (h.2.1 261 (by decide) (by decide)).trans rfl
theorem kd262 {μ : xM} (h : Sh μ) : xK μ 262 = (15, 8) := (h.2.1 262 (by decide) (by decide)).trans rfl
theorem kd263 {μ : xM} (h : Sh μ) : xK μ 263 = (1, 3) := (h.2.1 263 (by decide) (by decide)).trans rfl
theorem kd264 {μ : xM} (h : Sh μ) : xK μ 264 = (1, 4) := (h.2.1 264 (by decide) (by decide)).trans rfl
theorem kd265 {μ : xM} (h : Sh μ) : xK μ 265 = (1, 4) := (h.2.1 265 (by decide) (by decide)).trans rfl
theorem kd266 {μ : xM} (h : Sh μ) : xK μ 266 = (1, 4) := (h.2.1 266 (by decide) (by decide)).trans rfl
theorem kd267 {μ : xM} (h : Sh μ) : xK μ 267 = (1, 12) := (h.2.1 267 (by decide) (by decide)).trans rfl
theorem kd268 {μ : xM} (h : Sh μ) : xK μ 268 = (3, 64) := (h.2.1 268 (by decide) (by decide)).trans rfl
theorem kd269 {μ : xM} (h : Sh μ) : xK μ 269 = (16, 10) := (h.2.1 269 (by decide) (by decide)).trans rfl
theorem kd270 {μ : xM} (h : Sh μ) : xK μ 270 = (15, 8) := (h.2.1 270 (by decide) (by decide)).trans rfl
theorem kd271 {μ : xM} (h : Sh μ) : xK μ 271 = (1, 3) := (h.2.1 271 (by decide) (by decide)).trans rfl
theorem kd272 {μ : xM} (h : Sh μ) : xK μ 272 = (1, 4) := (h.2.1 272 (by decide) (by decide)).trans rfl
theorem kd273 {μ : xM} (h : Sh μ) : xK μ 273 = (1, 4) := (h.2.1 273 (by decide) (by decide)).trans rfl
theorem kd274 {μ : xM} (h : Sh μ) : xK μ 274 = (1, 4) := (h.2.1 274 (by decide) (by decide)).trans rfl
theorem kd275 {μ : xM} (h : Sh μ) : xK μ 275 = (1, 12) := (h.2.1 275 (by decide) (by decide)).trans rfl
theorem kd276 {μ : xM} (h : Sh μ) : xK μ 276 = (3, 64) := (h.2.1 276 (by decide) (by decide)).trans rfl
theorem kd277 {μ : xM} (h : Sh μ) : xK μ 277 = (16, 10) := (h.2.1 277 (by decide) (by decide)).trans rfl
theorem kd278 {μ : xM} (h : Sh μ) : xK μ 278 = (15, 8) := (h.2.1 278 (by decide) (by decide)).trans rfl
theorem kd279 {μ : xM} (h : Sh μ) : xK μ 279 = (1, 3) := (h.2.1 279 (by decide) (by decide)).trans rfl
theorem kd280 {μ : xM} (h : Sh μ) : xK μ 280 = (1, 4) := (h.2.1 280 (by decide) (by decide)).trans rfl
theorem kd281 {μ : xM} (h : Sh μ) : xK μ 281 = (1, 4) := (h.2.1 281 (by decide) (by decide)).trans rfl
theorem kd282 {μ : xM} (h : Sh μ) : xK μ 282 = (1, 4) := (h.2.1 282 (by decide) (by decide)).trans rfl
theorem kd283 {μ : xM} (h : Sh μ) : xK μ 283 = (1, 12) := (h.2.1 283 (by decide) (by decide)).trans rfl
theorem kd284 {μ : xM} (h : Sh μ) : xK μ 284 = (3, 64) := (h.2.1 284 (by decide) (by decide)).trans rfl
theorem kd285 {μ : xM} (h : Sh μ) : xK μ 285 = (16, 10) := (h.2.1 285 (by decide) (by decide)).trans rfl
theorem kd286 {μ : xM} (h : Sh μ) : xK μ 286 = (15, 8) := (h.2.1 286 (by decide) (by decide)).trans rfl
theorem kd287 {μ : xM} (h : Sh μ) : xK μ 287 = (1, 3) := (h.2.1 287 (by decide) (by decide)).trans rfl
theorem kd288 {μ : xM} (h : Sh μ) : xK μ 288 = (1, 4) := (h.2.1 288 (by decide) (by decide)).trans rfl
theorem kd289 {μ : xM} (h : Sh μ) : xK μ 289 = (1, 4) := (h.2.1 289 (by decide) (by decide)).trans rfl
theorem kd290 {μ : xM} (h : Sh μ) : xK μ 290 = (1, 4) := (h.2.1 290 (by decide) (by decide)).trans rfl
theorem kd291 {μ : xM} (h : Sh μ) : xK μ 291 = (1, 12) := (h.2.1 291 (by decide) (by decide)).trans rfl
theorem kd292 {μ : xM} (h : Sh μ) : xK μ 292 = (3, 64) := (h.2.1 292 (by decide) (by decide)).trans rfl
theorem kd293 {μ : xM} (h : Sh μ) : xK μ 293 = (19, 65) := (h.2.1 293 (by decide) (by decide)).trans rfl
theorem kd294 {μ : xM} (h : Sh μ) : xK μ 294 = (1, 3) := (h.2.1 294 (by decide) (by decide)).trans rfl
theorem kd295 {μ : xM} (h : Sh μ) : xK μ 295 = (2, 3) := (h.2.1 295 (by decide) (by decide)).trans rfl
theorem kd296 {μ : xM} (h : Sh μ) : xK μ 296 = (1, 40) := (h.2.1 296 (by decide) (by decide)).trans rfl
theorem kd297 {μ : xM} (h : Sh μ) : xK μ 297 = (1, 60) := (h.2.1 297 (by decide) (by decide)).trans rfl
theorem kd298 {μ : xM} (h : Sh μ) : xK μ 298 = (1, 24) := (h.2.1 298 (by decide) (by decide)).trans rfl
theorem kd299 {μ : xM} (h : Sh μ) : xK μ 299 = (1, 16) := (h.2.1 299 (by decide) (by decide)).trans rfl
theorem kd300 {μ : xM} (h : Sh μ) : xK μ 300 = (1, 64) := (h.2.1 300 (by decide) (by decide)).trans rfl
theorem kd301 {μ : xM} (h : Sh μ) : xK μ 301 = (1, 64) := (h.2.1 301 (by decide) (by decide)).trans rfl
theorem kd302 {μ : xM} (h : Sh μ) : xK μ 302 = (1, 64) := (h.2.1 302 (by decide) (by decide)).trans rfl
theorem kd303 {μ : xM} (h : Sh μ) : xK μ 303 = (1, 16) := (h.2.1 303 (by decide) (by decide)).trans rfl
theorem kd304 {μ : xM} (h : Sh μ) : xK μ 304 = (1, 48) := (h.2.1 304 (by decide) (by decide)).trans rfl
theorem kd305 {μ : xM} (h : Sh μ) : xK μ 305 = (1, 6) := (h.2.1 305 (by decide) (by decide)).trans rfl
theorem kd306 {μ : xM} (h : Sh μ) : xK μ 306 = (1, 10) := (h.2.1 306 (by decide) (by decide)).trans rfl
theorem kd307 {μ : xM} (h : Sh μ) : xK μ 307 = (1, 6) := (h.2.1 307 (by decide) (by decide)).trans rfl
theorem kd308 {μ : xM} (h : Sh μ) : xK μ 308 = (1, 6) := (h.2.1 308 (by decide) (by decide)).trans rfl
theorem kd309 {μ : xM} (h : Sh μ) : xK μ 309 = (1, 6) := (h.2.1 309 (by decide) (by decide)).trans rfl
theorem kd310 {μ : xM} (h : Sh μ) : xK μ 310 = (1, 6) := (h.2.1 310 (by decide) (by decide)).trans rfl
theorem kd311 {μ : xM} (h : Sh μ) : xK μ 311 = (2, 6) := (h.2.1 311 (by decide) (by decide)).trans rfl
theorem kd312 {μ : xM} (h : Sh μ) : xK μ 312 = (1, 7) := (h.2.1 312 (by decide) (by decide)).trans rfl
theorem kd313 {μ : xM} (h : Sh μ) : xK μ 313 = (1, 12) := (h.2.1 313 (by decide) (by decide)).trans rfl
theorem kd314 {μ : xM} (h : Sh μ) : xK μ 314 = (1, 12) := (h.2.1 314 (by decide) (by decide)).trans rfl
theorem kd315 {μ : xM} (h : Sh μ) : xK μ 315 = (1, 12) := (h.2.1 315 (by decide) (by decide)).trans rfl
theorem kd316 {μ : xM} (h : Sh μ) : xK μ 316 = (1, 3) := (h.2.1 316 (by decide) (by decide)).trans rfl
theorem kd317 {μ : xM} (h : Sh μ) : xK μ 317 = (1, 4) := (h.2.1 317 (by decide) (by decide)).trans rfl
theorem kd318 {μ : xM} (h : Sh μ) : xK μ 318 = (1, 7) := (h.2.1 318 (by decide) (by decide)).trans rfl
theorem kd319 {μ : xM} (h : Sh μ) : xK μ 319 = (1, 12) := (h.2.1 319 (by decide) (by decide)).trans rfl
theorem kd320 {μ : xM} (h : Sh μ) : xK μ 320 = (1, 12) := (h.2.1 320 (by decide) (by decide)).trans rfl
theorem kd321 {μ : xM} (h : Sh μ) : xK μ 321 = (1, 4) := (h.2.1 321 (by decide) (by decide)).trans rfl
theorem kd322 {μ : xM} (h : Sh μ) : xK μ 322 = (1, 4) := (h.2.1 322 (by decide) (by decide)).trans rfl
theorem kd323 {μ : xM} (h : Sh μ) : xK μ 323 = (1, 4) := (h.2.1 323 (by decide) (by decide)).trans rfl
theorem kd324 {μ : xM} (h : Sh μ) : xK μ 324 = (1, 3) := (h.2.1 324 (by decide) (by decide)).trans rfl
theorem kd325 {μ : xM} (h : Sh μ) : xK μ 325 = (2, 343) := (h.2.1 325 (by decide) (by decide)).trans rfl
theorem kd326 {μ : xM} (h : Sh μ) : xK μ 326 = (1, 7) := (h.2.1 326 (by decide) (by decide)).trans rfl
theorem kd327 {μ : xM} (h : Sh μ) : xK μ 327 = (1, 300) := (h.2.1 327 (by decide) (by decide)).trans rfl
theorem kd328 {μ : xM} (h : Sh μ) : xK μ 328 = (2, 4096) := (h.2.1 328 (by decide) (by decide)).trans rfl
theorem kd329 {μ : xM} (h : Sh μ) : xK μ 329 = (1, 4096) := (h.2.1 329 (by decide) (by decide)).trans rfl
theorem kd330 {μ : xM} (h : Sh μ) : xK μ 330 = (2, 24576) := (h.2.1 330 (by decide) (by decide)).trans rfl
theorem kd331 {μ : xM} (h : Sh μ) : xK μ 331 = (2, 640) := (h.2.1 331 (by decide) (by decide)).trans rfl
theorem kd332 {μ : xM} (h : Sh μ) : xK μ 332 = (1, 100) := (h.2.1 332 (by decide) (by decide)).trans rfl
theorem rf2_0 {μ : xM} (h : Sh μ) : xR μ 2 0 = some 3 := (h.2.2 2 0 (by decide) (by decide)).trans rfl
theorem rf2_1 {μ : xM} (h : Sh μ) : xR μ 2 1 = some 92 := (h.2.2 2 1 (by decide) (by decide)).trans rfl
theorem rf2_3 {μ : xM} (h : Sh μ) : xR μ 2 3 = some 181 := (h.2.2 2 3 (by decide) (by decide)).trans rfl
theorem rf2_4 {μ : xM} (h : Sh μ) : xR μ 2 4 = some 183 := (h.2.2 2 4 (by decide) (by decide)).trans rfl
theorem rf2_5 {μ : xM} (h : Sh μ) : xR μ 2 5 = some 185 := (h.2.2 2 5 (by decide) (by decide)).trans rfl
theorem rf2_6 {μ : xM} (h : Sh μ) : xR μ 2 6 = some 187 := (h.2.2 2 6 (by decide) (by decide)).trans rfl
theorem rf2_7 {μ : xM} (h : Sh μ) : xR μ 2 7 = some 188 := (h.2.2 2 7 (by decide) (by decide)).trans rfl
theorem rf2_8 {μ : xM} (h : Sh μ) : xR μ 2 8 = some 193 := (h.2.2 2 8 (by decide) (by decide)).trans rfl
theorem rf2_9 {μ : xM} (h : Sh μ) : xR μ 2 9 = some 212 := (h.2.2 2 9 (by decide) (by decide)).trans rfl
theorem rf3_8 {μ : xM} (h : Sh μ) : xR μ 3 8 = some 4 := (h.2.2 3 8 (by decide) (by decide)).trans rfl
theorem rf3_9 {μ : xM} (h : Sh μ) : xR μ 3 9 = some 5 := (h.2.2 3 9 (by decide) (by decide)).trans rfl
theorem rf3_10 {μ : xM} (h : Sh μ) : xR μ 3 10 = some 6 := (h.2.2 3 10 (by decide) (by decide)).trans rfl
theorem rf3_11 {μ : xM} (h : Sh μ) : xR μ 3 11 = some 7 := (h.2.2 3 11 (by decide) (by decide)).trans rfl
theorem rf3_12 {μ : xM} (h : Sh μ) : xR μ 3 12 = some 8 := (h.2.2 3 12 (by decide) (by decide)).trans rfl
theorem rf3_13 {μ : xM} (h : Sh μ) : xR μ 3 13 = some 9 := (h.2.2 3 13 (by decide) (by decide)).trans rfl
theorem rf3_14 {μ : xM} (h : Sh μ) : xR μ 3 14 = some 10 := (h.2.2 3 14 (by decide) (by decide)).trans rfl
theorem rf3_15 {μ : xM} (h : Sh μ) : xR μ 3 15 = some 11 := (h.2.2 3 15 (by decide) (by decide)).trans rfl
theorem rf4_0 {μ : xM} (h : Sh μ) : xR μ 4 0 = some 12 := (h.2.2 4 0 (by decide) (by decide)).trans rfl
theorem rf4_1 {μ : xM} (h : Sh μ) : xR μ 4 1 = some 17 := (h.2.2 4 1 (by decide) (by decide)).trans rfl
theorem rf4_2 {μ : xM} (h : Sh μ) : xR μ 4 2 = some 22 := (h.2.2 4 2 (by decide) (by decide)).trans rfl
theorem rf4_3 {μ : xM} (h : Sh μ) : xR μ 4 3 = some 27 := (h.2.2 4 3 (by decide) (by decide)).trans rfl
theorem rf4_4 {μ : xM} (h : Sh μ) : xR μ 4 4 = some 32 := (h.2.2 4 4 (by decide) (by decide)).trans rfl
theorem rf4_5 {μ : xM} (h : Sh μ) : xR μ 4 5 = some 37 := (h.2.2 4 5 (by decide) (by decide)).trans rfl
theorem rf4_6 {μ : xM} (h : Sh μ) : xR μ 4 6 = some 42 := (h.2.2 4 6 (by decide) (by decide)).trans rfl
theorem rf4_7 {μ : xM} (h : Sh μ) : xR μ 4 7 = some 47 := (h.2.2 4 7 (by decide) (by decide)).trans rfl
theorem rf4_8 {μ : xM} (h : Sh μ) : xR μ 4 8 = some 52 := (h.2.2 4 8 (by decide) (by decide)).trans rfl
theorem rf4_9 {μ : xM} (h : Sh μ) : xR μ 4 9 = some 57 := (h.2.2 4 9 (by decide) (by decide)).trans rfl
theorem rf5_0 {μ : xM} (h : Sh μ) : xR μ 5 0 = some 62 := (h.2.2 5 0 (by decide) (by decide)).trans rfl
theorem rf5_1 {μ : xM} (h : Sh μ) : xR μ 5 1 = some 67 := (h.2.2 5 1 (by decide) (by decide)).trans rfl
theorem rf5_2 {μ : xM} (h : Sh μ) : xR μ 5 2 = some 72 := (h.2.2 5 2 (by decide) (by decide)).trans rfl
theorem rf5_3 {μ : xM} (h : Sh μ) : xR μ 5 3 = some 77 := (h.2.2 5 3 (by decide) (by decide)).trans rfl
theorem rf5_4 {μ : xM} (h : Sh μ) : xR μ 5 4 = some 82 := (h.2.2 5 4 (by decide) (by decide)).trans rfl
theorem rf5_5 {μ : xM} (h : Sh μ) : xR μ 5 5 = some 87 := (h.2.2 5 5 (by decide) (by decide)).trans rfl
theorem rf12_1 {μ : xM} (h : Sh μ) : xR μ 12 1 = some 14 := (h.2.2 12 1 (by decide) (by decide)).trans rfl
theorem rf12_2 {μ : xM} (h : Sh μ) : xR μ 12 2 = some 15 := (h.2.2 12 2 (by decide) (by decide)).trans rfl
theorem rf12_3 {μ : xM} (h : Sh μ) : xR μ 12 3 = some 16 := (h.2.2 12 3 (by decide) (by decide)).trans rfl
theorem rf12_5 {μ : xM} (h : Sh μ) : xR μ 12 5 = some 13 := (h.2.2 12 5 (by decide) (by decide)).trans rfl
theorem rf17_1 {μ : xM} (h : Sh μ) : xR μ 17 1 = some 19 := (h.2.2 17 1 (by decide) (by decide)).trans rfl
theorem rf17_2 {μ : xM} (h : Sh μ) : xR μ 17 2 = some 20 := (h.2.2 17 2 (by decide) (by decide)).trans rfl
theorem rf17_3 {μ : xM} (h : Sh μ) : xR μ 17 3 = some 21 := (h.2.2 17 3 (by decide) (by decide)).trans rfl
theorem rf17_5 {μ : xM} (h : Sh μ) : xR μ 17 5 = some 18 := (h.2.2 17 5 (by decide) (by decide)).trans rfl
theorem rf22_1 {μ : xM} (h : Sh μ) : xR μ 22 1 = some 24 := (h.2.2 22 1 (by decide) (by decide)).trans rfl
theorem rf22_2 {μ : xM} (h : Sh μ) : xR μ 22 2 = some 25 := (h.2.2 22 2 (by decide) (by decide)).trans rfl
theorem rf22_3 {μ : xM} (h : Sh μ) : xR μ 22 3 = some 26 := (h.2.2 22 3 (by decide) (by decide)).trans rfl
theorem rf22_5 {μ : xM} (h : Sh μ) : xR μ 22 5 = some 23 := (h.2.2 22 5 (by decide) (by decide)).trans rfl
theorem rf27_1 {μ : xM} (h : Sh μ) : xR μ 27 1 = some 29 := (h.2.2 27 1 (by decide) (by decide)).trans rfl
theorem rf27_2 {μ : xM} (h : Sh μ) : xR μ 27 2 = some 30 := (h.2.2 27 2 (by decide) (by decide)).trans rfl
theorem rf27_3 {μ : xM} (h : Sh μ) : xR μ 27 3 = some 31 := (h.2.2 27 3 (by decide) (by decide)).trans rfl
theorem rf27_5 {μ : xM} (h : Sh μ) : xR μ 27 5 = some 28 := (h.2.2 27 5 (by decide) (by decide)).trans rfl
theorem rf32_1 {μ : xM} (h : Sh μ) : xR μ 32 1 = some 34 := (h.2.2 32 1 (by decide) (by decide)).trans rfl
theorem rf32_2 {μ : xM} (h : Sh μ) : xR μ 32 2 = some 35 := (h.2.2 32 2 (by decide) (by decide)).trans rfl
theorem rf32_3 {μ : xM} (h : Sh μ) : xR μ 32 3 = some 36 := (h.2.2 32 3 (by decide) (by decide)).trans rfl
theorem rf32_5 {μ : xM} (h : Sh μ) : xR μ 32 5 = some 33 := (h.2.2 32 5 (by decide) (by decide)).trans rfl
theorem rf37_1 {μ : xM} (h : Sh μ) : xR μ 37 1 = some 39 := (h.2.2 37 1 (by decide) (by decide)).trans rfl
theorem rf37_2 {μ : xM} (h : Sh μ) : xR μ 37 2 = some 40 := (h.2.2 37 2 (by decide) (by decide)).trans rfl
theorem rf37_3 {μ : xM} (h : Sh μ) : xR μ 37 3 = some 41 := (h.2.2 37 3 (by decide) (by decide)).trans rfl
theorem rf37_5 {μ : xM} (h : Sh μ) : xR μ 37 5 = some 38 := (h.2.2 37 5 (by decide) (by decide)).trans rfl
theorem rf42_1 {μ : xM} (h : Sh μ) : xR μ 42 1 = some 44 := (h.2.2 42 1 (by decide) (by decide)).trans rfl
theorem rf42_2 {μ : xM} (h : Sh μ) : xR μ 42 2 = some 45 := (h.2.2 42 2 (by decide) (by decide)).trans rfl
theorem rf42_3 {μ : xM} (h : Sh μ) : xR μ 42 3 = some 46 := (h.2.2 42 3 (by decide) (by decide)).trans rfl
theorem rf42_5 {μ : xM} (h : Sh μ) : xR μ 42 5 = some 43 := (h.2.2 42 5 (by decide) (by decide)).trans rfl
theorem rf47_1 {μ : xM} (h : Sh μ) : xR μ 47 1 = some 49 := (h.2.2 47 1 (by decide) (by decide)).trans rfl
theorem rf47_2 {μ : xM} (h : Sh μ) : xR μ 47 2 = some 50 := (h.2.2 47 2 (by decide) (by decide)).trans rfl
theorem rf47_3 {μ : xM} (h : Sh μ) : xR μ 47 3 = some 51 := (h.2.2 47 3 (by decide) (by decide)).trans rfl
theorem rf47_5 {μ : xM} (h : Sh μ) : xR μ 47 5 = some 48 := (h.2.2 47 5 (by decide) (by decide)).trans rfl
theorem rf52_1 {μ : xM} (h : Sh μ) : xR μ 52 1 = some 54 := (h.2.2 52 1 (by decide) (by decide)).trans rfl
theorem rf52_2 {μ : xM} (h : Sh μ) : xR μ 52 2 = some 55 := (h.2.2 52 2 (by decide) (by decide)).trans rfl
theorem rf52_3 {μ : xM} (h : Sh μ) : xR μ 52 3 = some 56 := (h.2.2 52 3 (by decide) (by decide)).trans rfl
theorem rf52_5 {μ : xM} (h : Sh μ) : xR μ 52 5 = some 53 := (h.2.2 52 5 (by decide) (by decide)).trans rfl
theorem rf57_1 {μ : xM} (h : Sh μ) : xR μ 57 1 = some 59 := (h.2.2 57 1 (by decide) (by decide)).trans rfl
theorem rf57_2 {μ : xM} (h : Sh μ) : xR μ 57 2 = some 60 := (h.2.2 57 2 (by decide) (by decide)).trans rfl
theorem rf57_3 {μ : xM} (h : Sh μ) : xR μ 57 3 = some 61 := (h.2.2 57 3 (by decide) (by decide)).trans rfl
theorem rf57_5 {μ : xM} (h : Sh μ) : xR μ 57 5 = some 58 := (h.2.2 57 5 (by decide) (by decide)).trans rfl
theorem rf62_1 {μ : xM} (h : Sh μ) : xR μ 62 1 = some 64 := (h.2.2 62 1 (by decide) (by decide)).trans rfl
theorem rf62_2 {μ : xM} (h : Sh μ) : xR μ 62 2 = some 65 := (h.2.2 62 2 (by decide) (by decide)).trans rfl
theorem rf62_3 {μ : xM} (h : Sh μ) : xR μ 62 3 = some 66 := (h.2.2 62 3 (by decide) (by decide)).trans rfl
theorem rf62_5 {μ : xM} (h : Sh μ) : xR μ 62 5 = some 63 := (h.2.2 62 5 (by decide) (by decide)).trans rfl
theorem rf67_1 {μ : xM} (h : Sh μ) : xR μ 67 1 = some 69 := (h.2.2 67 1 (by decide) (by decide)).trans rfl
theorem rf67_2 {μ : xM} (h : Sh μ) : xR μ 67 2 = some 70 := (h.2.2 67 2 (by decide) (by decide)).trans rfl
theorem rf67_3 {μ : xM} (h : Sh μ) : xR μ 67 3 = some 71 := (h.2.2 67 3 (by decide) (by decide)).trans rfl
theorem rf67_5 {μ : xM} (h : Sh μ) : xR μ 67 5 = some 68 := (h.2.2 67 5 (by decide) (by decide)).trans rfl
theorem rf72_1 {μ : xM} (h : Sh μ) : xR μ 72 1 = some 74 := (h.2.2 72 1 (by decide) (by decide)).trans rfl
theorem rf72_2 {μ : xM} (h : Sh μ) : xR μ 72 2 = some 75 := (h.2.2 72 2 (by decide) (by decide)).trans rfl
theorem rf72_3 {μ : xM} (h : Sh μ) : xR μ 72 3 = some 76 := (h.2.2 72 3 (by decide) (by decide)).trans rfl
theorem rf72_5 {μ : xM} (h : Sh μ) : xR μ 72 5 = some 73 := (h.2.2 72 5 (by decide) (by decide)).trans rfl
theorem rf77_1 {μ : xM} (h : Sh μ) : xR μ 77 1 = some 79 := (h.2.2 77 1 (by decide) (by decide)).trans rfl
theorem rf77_2 {μ : xM} (h : Sh μ) : xR μ 77 2 = some 80 := (h.2.2 77 2 (by decide) (by decide)).trans rfl
theorem rf77_3 {μ : xM} (h : Sh μ) : xR μ 77 3 = some 81 := (h.2.2 77 3 (by decide) (by decide)).trans rfl
theorem rf77_5 {μ : xM} (h : Sh μ) : xR μ 77 5 = some 78 := (h.2.2 77 5 (by decide) (by decide)).trans rfl
theorem rf82_1 {μ : xM} (h : Sh μ) : xR μ 82 1 = some 84 := (h.2.2 82 1 (by decide) (by decide)).trans rfl
theorem rf82_2 {μ : xM} (h : Sh μ) : xR μ 82 2 = some 85 := (h.2.2 82 2 (by decide) (by decide)).trans rfl
theorem rf82_3 {μ : xM} (h : Sh μ) : xR μ 82 3 = some 86 := (h.2.2 82 3 (by decide) (by decide)).trans rfl
theorem rf82_5 {μ : xM} (h : Sh μ) : xR μ 82 5 = some 83 := (h.2.2 82 5 (by decide) (by decide)).trans rfl
theorem rf87_1 {μ : xM} (h : Sh μ) : xR μ 87 1 = some 89 := (h.2.2 87 1 (by decide) (by decide)).trans rfl
theorem rf87_2 {μ : xM} (h : Sh μ) : xR μ 87 2 = some 90 := (h.2.2 87 2 (by decide) (by decide)).trans rfl
theorem rf87_3 {μ : xM} (h : Sh μ) : xR μ 87 3 = some 91 := (h.2.2 87 3 (by decide) (by decide)).trans rfl
theorem rf87_5 {μ : xM} (h : Sh μ) : xR μ 87 5 = some 88 := (h.2.2 87 5 (by decide) (by decide)).trans rfl
theorem rf92_8 {μ : xM} (h : Sh μ) : xR μ 92 8 = some 93 := (h.2.2 92 8 (by decide) (by decide)).trans rfl
theorem rf92_9 {μ : xM} (h : Sh μ) : xR μ 92 9 = some 94 := (h.2.2 92 9 (by decide) (by decide)).trans rfl
theorem rf92_10 {μ : xM} (h : Sh μ) : xR μ 92 10 = some 95 := (h.2.2 92 10 (by decide) (by decide)).trans rfl
theorem rf92_11 {μ : xM} (h : Sh μ) : xR μ 92 11 = some 96 := (h.2.2 92 11 (by decide) (by decide)).trans rfl
theorem rf92_12 {μ : xM} (h : Sh μ) : xR μ 92 12 = some 97 := (h.2.2 92 12 (by decide) (by decide)).trans rfl
theorem rf92_13 {μ : xM} (h : Sh μ) : xR μ 92 13 = some 98 := (h.2.2 92 13 (by decide) (by decide)).trans rfl
theorem rf92_14 {μ : xM} (h : Sh μ) : xR μ 92 14 = some 99 := (h.2.2 92 14 (by decide) (by decide)).trans rfl
theorem rf92_15 {μ : xM} (h : Sh μ) : xR μ 92 15 = some 100 := (h.2.2 92 15 (by decide) (by decide)).trans rfl
theorem rf93_0 {μ : xM} (h : Sh μ) : xR μ 93 0 = some 101 := (h.2.2 93 0 (by decide) (by decide)).trans rfl
theorem rf93_1 {μ : xM} (h : Sh μ) : xR μ 93 1 = some 106 := (h.2.2 93 1 (by decide) (by decide)).trans rfl
theorem rf93_2 {μ : xM} (h : Sh μ) : xR μ 93 2 = some 111 := (h.2.2 93 2 (by decide) (by decide)).trans rfl
theorem rf93_3 {μ : xM} (h : Sh μ) : xR μ 93 3 = some 116 := (h.2.2 93 3 (by decide) (by decide)).trans rfl
theorem rf93_4 {μ : xM} (h : Sh μ) : xR μ 93 4 = some 121 := (h.2.2 93 4 (by decide) (by decide)).trans rfl
theorem rf93_5 {μ : xM} (h : Sh μ) : xR μ 93 5 = some 126 := (h.2.2 93 5 (by decide) (by decide)).trans rfl
theorem rf93_6 {μ : xM} (h : Sh μ) : xR μ 93 6 = some 131 := (h.2.2 93 6 (by decide) (by decide)).trans rfl
theorem rf93_7 {μ : xM} (h : Sh μ) : xR μ 93 7 = some 136 := (h.2.2 93 7 (by decide) (by decide)).trans rfl
theorem rf93_8 {μ : xM} (h : Sh μ) : xR μ 93 8 = some 141 := (h.2.2 93 8 (by decide) (by decide)).trans rfl
theorem rf93_9 {μ : xM} (h : Sh μ) : xR μ 93 9 = some 146 := (h.2.2 93 9 (by decide) (by decide)).trans rfl
theorem rf94_0 {μ : xM} (h : Sh μ) : xR μ 94 0 = some 151 := (h.2.2 94 0 (by decide) (by decide)).trans rfl
theorem rf94_1 {μ : xM} (h : Sh μ) : xR μ 94 1 = some 156 := (h.2.2 94 1 (by decide) (by decide)).trans rfl
theorem rf94_2 {μ : xM} (h : Sh μ) : xR μ 94 2 = some 161 := (h.2.2 94 2 (by decide) (by decide)).trans rfl
theorem rf94_3 {μ : xM} (h : Sh μ) : xR μ 94 3 = some 166 := (h.2.2 94 3 (by decide) (by decide)).trans rfl
theorem rf94_4 {μ : xM} (h : Sh μ) : xR μ 94 4 = some 171 := (h.2.2 94 4 (by decide) (by decide)).trans rfl
theorem rf94_5 {μ : xM} (h : Sh μ) : xR μ 94 5 = some 176 := (h.2.2 94 5 (by decide) (by decide)).trans rfl
theorem rf101_1 {μ : xM} (h : Sh μ) : xR μ 101 1 = some 103 := (h.2.2 101 1 (by decide) (by decide)).trans rfl
theorem rf101_2 {μ : xM} (h : Sh μ) : xR μ 101 2 = some 104 := (h.2.2 101 2 (by decide) (by decide)).trans rfl
theorem rf101_3 {μ : xM} (h : Sh μ) : xR μ 101 3 = some 105 := (h.2.2 101 3 (by decide) (by decide)).trans rfl
theorem rf101_5 {μ : xM} (h : Sh μ) : xR μ 101 5 = some 102 := (h.2.2 101 5 (by decide) (by decide)).trans rfl
theorem rf106_1 {μ : xM} (h : Sh μ) : xR μ 106 1 = some 108 := (h.2.2 106 1 (by decide) (by decide)).trans rfl
theorem rf106_2 {μ : xM} (h : Sh μ) : xR μ 106 2 = some 109 := (h.2.2 106 2 (by decide) (by decide)).trans rfl
theorem rf106_3 {μ : xM} (h : Sh μ) : xR μ 106 3 = some 110 := (h.2.2 106 3 (by decide) (by decide)).trans rfl
theorem rf106_5 {μ : xM} (h : Sh μ) : xR μ 106 5 = some 107 := (h.2.2 106 5 (by decide) (by decide)).trans rfl
theorem rf111_1 {μ : xM} (h : Sh μ) : xR μ 111 1 = some 113 := (h.2.2 111 1 (by decide) (by decide)).trans rfl
theorem rf111_2 {μ : xM} (h : Sh μ) : xR μ 111 2 = some 114 := (h.2.2 111 2 (by decide) (by decide)).trans rfl
theorem rf111_3 {μ : xM} (h : Sh μ) : xR μ 111 3 = some 115 := (h.2.2 111 3 (by decide) (by decide)).trans rfl
theorem rf111_5 {μ : xM} (h : Sh μ) : xR μ 111 5 = some 112 := (h.2.2 111 5 (by decide) (by decide)).trans rfl
theorem rf116_1 {μ : xM} (h : Sh μ) : xR μ 116 1 = some 118 := (h.2.2 116 1 (by decide) (by decide)).trans rfl
theorem rf116_2 {μ : xM} (h : Sh μ) : xR μ 116 2 = some 119 := (h.2.2 116 2 (by decide) (by decide)).trans rfl
theorem rf116_3 {μ : xM} (h : Sh μ) : xR μ 116 3 = some 120 := (h.2.2 116 3 (by decide) (by decide)).trans rfl
theorem rf116_5 {μ : xM} (h : Sh μ) : xR μ 116 5 = some 117 := (h.2.2 116 5 (by decide) (by decide)).trans rfl
theorem rf121_1 {μ : xM} (h : Sh μ) : xR μ 121 1 = some 123 := (h.2.2 121 1 (by decide) (by decide)).trans rfl
theorem rf121_2 {μ : xM} (h : Sh μ) : xR μ 121 2 = some 124 := (h.2.2 121 2 (by decide) (by decide)).trans rfl
theorem rf121_3 {μ : xM} (h : Sh μ) : xR μ 121 3 = some 125 := (h.2.2 121 3 (by decide) (by decide)).trans rfl
theorem rf121_5 {μ : xM} (h : Sh μ) : xR μ 121 5 = some 122 := (h.2.2 121 5 (by decide) (by decide)).trans rfl
theorem rf126_1 {μ : xM} (h : Sh μ) : xR μ 126 1 = some 128 := (h.2.2 126 1 (by decide) (by decide)).trans rfl
theorem rf126_2 {μ : xM} (h : Sh μ) : xR μ 126 2 = some 129 := (h.2.2 126 2 (by decide) (by decide)).trans rfl
theorem rf126_3 {μ : xM} (h : Sh μ) : xR μ 126 3 = some 130 := (h.2.2 126 3 (by decide) (by decide)).trans rfl
theorem rf126_5 {μ : xM} (h : Sh μ) : xR μ 126 5 = some 127 := (h.2.2 126 5 (by decide) (by decide)).trans rfl
theorem rf131_1 {μ : xM} (h : Sh μ) : xR μ 131 1 = some 133 := (h.2.2 131 1 (by decide) (by decide)).trans rfl
theorem rf131_2 {μ : xM} (h : Sh μ) : xR μ 131 2 = some 134 := (h.2.2 131 2 (by decide) (by decide)).trans rfl
theorem rf131_3 {μ : xM} (h : Sh μ) : xR μ 131 3 = some 135 := (h.2.2 131 3 (by decide) (by decide)).trans rfl
theorem rf131_5 {μ : xM} (h : Sh μ) : xR μ 131 5 = some 132 := (h.2.2 131 5 (by decide) (by decide)).trans rfl
theorem rf136_1 {μ : xM} (h : Sh μ) : xR μ 136 1 = some 138 := (h.2.2 136 1 (by decide) (by decide)).trans rfl
theorem rf136_2 {μ : xM} (h : Sh μ) : xR μ 136 2 = some 139 := (h.2.2 136 2 (by decide) (by decide)).trans rfl
theorem rf136_3 {μ : xM} (h : Sh μ) : xR μ 136 3 = some 140 := (h.2.2 136 3 (by decide) (by decide)).trans rfl
theorem rf136_5 {μ : xM} (h : Sh μ) : xR μ 136 5 = some 137 := (h.2.2 136 5 (by decide) (by decide)).trans rfl
theorem rf141_1 {μ : xM} (h : Sh μ) : xR μ 141 1 = some 143 := (h.2.2 141 1 (by decide) (by decide)).trans rfl
theorem rf141_2 {μ : xM} (h : Sh μ) : xR μ 141 2 = some 144 := (h.2.2 141 2 (by decide) (by decide)).trans rfl
theorem rf141_3 {μ : xM} (h : Sh μ) : xR μ 141 3 = some 145 := (h.2.2 141 3 (by decide) (by decide)).trans rfl
theorem rf141_5 {μ : xM} (h : Sh μ) : xR μ 141 5 = some 142 := (h.2.2 141 5 (by decide) (by decide)).trans rfl
theorem rf146_1 {μ : xM} (h : Sh μ) : xR μ 146 1 = some 148 := (h.2.2 146 1 (by decide) (by decide)).trans rfl
theorem rf146_2 {μ : xM} (h : Sh μ) : xR μ 146 2 = some 149 := (h.2.2 146 2 (by decide) (by decide)).trans rfl
theorem rf146_3 {μ : xM} (h : Sh μ) : xR μ 146 3 = some 150 := (h.2.2 146 3 (by decide) (by decide)).trans rfl
theorem rf146_5 {μ : xM} (h : Sh μ) : xR μ 146 5 = some 147 := (h.2.2 146 5 (by decide) (by decide)).trans rfl
theorem rf151_1 {μ : xM} (h : Sh μ) : xR μ 151 1 = some 153 := (h.2.2 151 1 (by decide) (by decide)).trans rfl
theorem rf151_2 {μ : xM} (h : Sh μ) : xR μ 151 2 = some 154 := (h.2.2 151 2 (by decide) (by decide)).trans rfl
theorem rf151_3 {μ : xM} (h : Sh μ) : xR μ 151 3 = some 155 := (h.2.2 151 3 (by decide) (by decide)).trans rfl
theorem rf151_5 {μ : xM} (h : Sh μ) : xR μ 151 5 = some 152 := (h.2.2 151 5 (by decide) (by decide)).trans rfl
theorem rf156_1 {μ : xM} (h : Sh μ) : xR μ 156 1 = some 158 := (h.2.2 156 1 (by decide) (by decide)).trans rfl
theorem rf156_2 {μ : xM} (h : Sh μ) : xR μ 156 2 = some 159 := (h.2.2 156 2 (by decide) (by decide)).trans rfl
theorem rf156_3 {μ : xM} (h : Sh μ) : xR μ 156 3 = some 160 := (h.2.2 156 3 (by decide) (by decide)).trans rfl
theorem rf156_5 {μ : xM} (h : Sh μ) : xR μ 156 5 = some 157 := (h.2.2 156 5 (by decide) (by decide)).trans rfl
theorem rf161_1 {μ : xM} (h : Sh μ) : xR μ 161 1 = some 163 := (h.2.2 161 1 (by decide) (by decide)).trans rfl
theorem rf161_2 {μ : xM} (h : Sh μ) : xR μ 161 2 = some 164 := (h.2.2 161 2 (by decide) (by decide)).trans rfl
theorem rf161_3 {μ : xM} (h : Sh μ) : xR μ 161 3 = some 165 := (h.2.2 161 3 (by decide) (by decide)).trans rfl
theorem rf161_5 {μ : xM} (h : Sh μ) : xR μ 161 5 = some 162 := (h.2.2 161 5 (by decide) (by decide)).trans rfl
theorem rf166_1 {μ : xM} (h : Sh μ) : xR μ 166 1 = some 168 := (h.2.2 166 1 (by decide) (by decide)).trans rfl
theorem rf166_2 {μ : xM} (h : Sh μ) : xR μ 166 2 = some 169 := (h.2.2 166 2 (by decide) (by decide)).trans rfl
theorem rf166_3 {μ : xM} (h : Sh μ) : xR μ 166 3 = some 170 := (h.2.2 166 3 (by decide) (by decide)).trans rfl
theorem rf166_5 {μ : xM} (h : Sh μ) : xR μ 166 5 = some 167 := (h.2.2 166 5 (by decide) (by decide)).trans rfl
theorem rf171_1 {μ : xM} (h : Sh μ) : xR μ 171 1 = some 173 := (h.2.2 171 1 (by decide) (by decide)).trans rfl
theorem rf171_2 {μ : xM} (h : Sh μ) : xR μ 171 2 = some 174 := (h.2.2 171 2 (by decide) (by decide)).trans rfl
theorem rf171_3 {μ : xM} (h : Sh μ) : xR μ 171 3 = some 175 := (h.2.2 171 3 (by decide) (by decide)).trans rfl
theorem rf171_5 {μ : xM} (h : Sh μ) : xR μ 171 5 = some 172 := (h.2.2 171 5 (by decide) (by decide)).trans rfl
theorem rf176_1 {μ : xM} (h : Sh μ) : xR μ 176 1 = some 178 := (h.2.2 176 1 (by decide) (by decide)).trans rfl
theorem rf176_2 {μ : xM} (h : Sh μ) : xR μ 176 2 = some 179 := (h.2.2 176 2 (by decide) (by decide)).trans rfl
theorem rf176_3 {μ : xM} (h : Sh μ) : xR μ 176 3 = some 180 := (h.2.2 176 3 (by decide) (by decide)).trans rfl
theorem rf176_5 {μ : xM} (h : Sh μ) : xR μ 176 5 = some 177 := (h.2.2 176 5 (by decide) (by decide)).trans rfl
theorem rf181_0 {μ : xM} (h : Sh μ) : xR μ 181 0 = some 182 := (h.2.2 181 0 (by decide) (by decide)).trans rfl
theorem rf183_0 {μ : xM} (h : Sh μ) : xR μ 183 0 = some 184 := (h.2.2 183 0 (by decide) (by decide)).trans rfl
theorem rf185_0 {μ : xM} (h : Sh μ) : xR μ 185 0 = some 186 := (h.2.2 185 0 (by decide) (by decide)).trans rfl
theorem rf187_0 {μ : xM} (h : Sh μ) : xR μ 187 0 = some 213 := (h.2.2 187 0 (by decide) (by decide)).trans rfl
theorem rf187_1 {μ : xM} (h : Sh μ) : xR μ 187 1 = some 221 := (h.2.2 187 1 (by decide) (by decide)).trans rfl
theorem rf187_2 {μ : xM} (h : Sh μ) : xR μ 187 2 = some 229 := (h.2.2 187 2 (by decide) (by decide)).trans rfl
theorem rf187_3 {μ : xM} (h : Sh μ) : xR μ 187 3 = some 237 := (h.2.2 187 3 (by decide) (by decide)).trans rfl
theorem rf187_4 {μ : xM} (h : Sh μ) : xR μ 187 4 = some 245 := (h.2.2 187 4 (by decide) (by decide)).trans rfl
theorem rf187_5 {μ : xM} (h : Sh μ) : xR μ 187 5 = some 253 := (h.2.2 187 5 (by decide) (by decide)).trans rfl
theorem rf187_6 {μ : xM} (h : Sh μ) : xR μ 187 6 = some 261 := (h.2.2 187 6 (by decide) (by decide)).trans rfl
theorem rf187_7 {μ : xM} (h : Sh μ) : xR μ 187 7 = some 269 := (h.2.2 187 7 (by decide) (by decide)).trans rfl
theorem rf187_8 {μ : xM} (h : Sh μ) : xR μ 187 8 = some 277 := (h.2.2 187 8 (by decide) (by decide)).trans rfl
theorem rf187_9 {μ : xM} (h : Sh μ) : xR μ 187 9 = some 285 := (h.2.2 187 9 (by decide) (by decide)).trans rfl
theorem rf188_1 {μ : xM} (h : Sh μ) : xR μ 188 1 = some 190 := (h.2.2 188 1 (by decide) (by decide)).trans rfl
theorem rf188_2 {μ : xM} (h : Sh μ) : xR μ 188 2 = some 191 := (h.2.2 188 2 (by decide) (by decide)).trans rfl
theorem rf188_3 {μ : xM} (h : Sh μ) : xR μ 188 3 = some 192 := (h.2.2 188 3 (by decide) (by decide)).trans rfl
theorem rf188_5 {μ : xM} (h : Sh μ) : xR μ 188 5 = some 189 := (h.2.2 188 5 (by decide) (by decide)).trans rfl
theorem rf193_0 {μ : xM} (h : Sh μ) : xR μ 193 0 = some 194 := (h.2.2 193 0 (by decide) (by decide)).trans rfl
theorem rf193_1 {μ : xM} (h : Sh μ) : xR μ 193 1 = some 195 := (h.2.2 193 1 (by decide) (by decide)).trans rfl
theorem rf193_2 {μ : xM} (h : Sh μ) : xR μ 193 2 = some 202 := (h.2.2 193 2 (by decide) (by decide)).trans rfl
theorem rf193_3 {μ : xM} (h : Sh μ) : xR μ 193 3 = some 211 := (h.2.2 193 3 (by decide) (by decide)).trans rfl
theorem rf195_0 {μ : xM} (h : Sh μ) : xR μ 195 0 = some 196 := (h.2.2 195 0 (by decide) (by decide)).trans rfl
theorem rf195_1 {μ : xM} (h : Sh μ) : xR μ 195 1 = some 197 := (h.2.2 195 1 (by decide) (by decide)).trans rfl
theorem rf195_2 {μ : xM} (h : Sh μ) : xR μ 195 2 = some 198 := (h.2.2 195 2 (by decide) (by decide)).trans rfl
theorem rf195_3 {μ : xM} (h : Sh μ) : xR μ 195 3 = some 199 := (h.2.2 195 3 (by decide) (by decide)).trans rfl
theorem rf195_4 {μ : xM} (h : Sh μ) : xR μ 195 4 = some 200 := (h.2.2 195 4 (by decide) (by decide)).trans rfl
theorem rf195_5 {μ : xM} (h : Sh μ) : xR μ 195 5 = some 201 := (h.2.2 195 5 (by decide) (by decide)).trans rfl
theorem rf202_0 {μ : xM} (h : Sh μ) : xR μ 202 0 = some 203 := (h.2.2 202 0 (by decide) (by decide)).trans rfl
theorem rf202_1 {μ : xM} (h : Sh μ) : xR μ 202 1 = some 204 := (h.2.2 202 1 (by decide) (by decide)).trans rfl
theorem rf202_2 {μ : xM} (h : Sh μ) : xR μ 202 2 = some 205 := (h.2.2 202 2 (by decide) (by decide)).trans rfl
theorem rf202_3 {μ : xM} (h : Sh μ) : xR μ 202 3 = some 206 := (h.2.2 202 3 (by decide) (by decide)).trans rfl
theorem rf202_4 {μ : xM} (h : Sh μ) : xR μ 202 4 = some 207 := (h.2.2 202 4 (by decide) (by decide)).trans rfl
theorem rf202_5 {μ : xM} (h : Sh μ) : xR μ 202 5 = some 208 := (h.2.2 202 5 (by decide) (by decide)).trans rfl
theorem rf202_6 {μ : xM} (h : Sh μ) : xR μ 202 6 = some 209 := (h.2.2 202 6 (by decide) (by decide)).trans rfl
theorem rf202_7 {μ : xM} (h : Sh μ) : xR μ 202 7 = some 210 := (h.2.2 202 7 (by decide) (by decide)).trans rfl
theorem rf213_0 {μ : xM} (h : Sh μ) : xR μ 213 0 = some 214 := (h.2.2 213 0 (by decide) (by decide)).trans rfl
theorem rf213_1 {μ : xM} (h : Sh μ) : xR μ 213 1 = some 219 := (h.2.2 213 1 (by decide) (by decide)).trans rfl
theorem rf213_4 {μ : xM} (h : Sh μ) : xR μ 213 4 = some 220 := (h.2.2 213 4 (by decide) (by decide)).trans rfl
theorem rf214_1 {μ : xM} (h : Sh μ) : xR μ 214 1 = some 216 := (h.2.2 214 1 (by decide) (by decide)).trans rfl
theorem rf214_2 {μ : xM} (h : Sh μ) : xR μ 214 2 = some 217 := (h.2.2 214 2 (by decide) (by decide)).trans rfl
theorem rf214_3 {μ : xM} (h : Sh μ) : xR μ 214 3 = some 218 := (h.2.2 214 3 (by decide) (by decide)).trans rfl
theorem rf214_5 {μ : xM} (h : Sh μ) : xR μ 214 5 = some 215 := (h.2.2 214 5 (by decide) (by decide)).trans rfl
theorem rf221_0 {μ : xM} (h : Sh μ) : xR μ 221 0 = some 222 := (h.2.2 221 0 (by decide) (by decide)).trans rfl
theorem rf221_1 {μ : xM} (h : Sh μ) : xR μ 221 1 = some 227 := (h.2.2 221 1 (by decide) (by decide)).trans rfl
theorem rf221_4 {μ : xM} (h : Sh μ) : xR μ 221 4 = some 228 := (h.2.2 221 4 (by decide) (by decide)).trans rfl
theorem rf222_1 {μ : xM} (h : Sh μ) : xR μ 222 1 = some 224 := (h.2.2 222 1 (by decide) (by decide)).trans rfl
theorem rf222_2 {μ : xM} (h : Sh μ) : xR μ 222 2 = some 225 := (h.2.2 222 2 (by decide) (by decide)).trans rfl
theorem rf222_3 {μ : xM} (h : Sh μ) : xR μ 222 3 = some 226 := (h.2.2 222 3 (by decide) (by decide)).trans rfl
theorem rf222_5 {μ : xM} (h : Sh μ) : xR μ 222 5 = some 223 := (h.2.2 222 5 (by decide) (by decide)).trans rfl
theorem rf229_0 {μ : xM} (h : Sh μ) : xR μ 229 0 = some 230 := (h.2.2 229 0 (by decide) (by decide)).trans rfl
theorem rf229_1 {μ : xM} (h : Sh μ) : xR μ 229 1 = some 235 := (h.2.2 229 1 (by decide) (by decide)).trans rfl
theorem rf229_4 {μ : xM} (h : Sh μ) : xR μ 229 4 = some 236 := (h.2.2 229 4 (by decide) (by decide)).trans rfl
theorem rf230_1 {μ : xM} (h : Sh μ) : xR μ 230 1 = some 232 := (h.2.2 230 1 (by decide) (by decide)).trans rfl
theorem rf230_2 {μ : xM} (h : Sh μ) : xR μ 230 2 = some 233 := (h.2.2 230 2 (by decide) (by decide)).trans rfl
theorem rf230_3 {μ : xM} (h : Sh μ) : xR μ 230 3 = some 234 := (h.2.2 230 3 (by decide) (by decide)).trans rfl
theorem rf230_5 {μ : xM} (h : Sh μ) : xR μ 230 5 = some 231 := (h.2.2 230 5 (by decide) (by decide)).trans rfl
theorem rf237_0 {μ : xM} (h : Sh μ) : xR μ 237 0 = some 238 := (h.2.2 237 0 (by decide) (by decide)).trans rfl
theorem rf237_1 {μ : xM} (h : Sh μ) : xR μ 237 1 = some 243 := (h.2.2 237 1 (by decide) (by decide)).trans rfl
theorem rf237_4 {μ : xM} (h : Sh μ) : xR μ 237 4 = some 244 := (h.2.2 237 4 (by decide) (by decide)).trans rfl
theorem rf238_1 {μ : xM} (h : Sh μ) : xR μ 238 1 = some 240 := (h.2.2 238 1 (by decide) (by decide)).trans rfl
theorem rf238_2 {μ : xM} (h : Sh μ) : xR μ 238 2 = some 241 := (h.2.2 238 2 (by decide) (by decide)).trans rfl
theorem rf238_3 {μ : xM} (h : Sh μ) : xR μ 238 3 = some 242 := (h.2.2 238 3 (by decide) (by decide)).trans rfl
theorem rf238_5 {μ : xM} (h : Sh μ) : xR μ 238 5 = some 239 := (h.2.2 238 5 (by decide) (by decide)).trans rfl
theorem rf245_0 {μ : xM} (h : Sh μ) : xR μ 245 0 = some 246 := (h.2.2 245 0 (by decide) (by decide)).trans rfl
theorem rf245_1 {μ : xM} (h : Sh μ) : xR μ 245 1 = some 251 := (h.2.2 245 1 (by decide) (by decide)).trans rfl
theorem rf245_4 {μ : xM} (h : Sh μ) : xR μ 245 4 = some 252 := (h.2.2 245 4 (by decide) (by decide)).trans rfl
theorem rf246_1 {μ : xM} (h : Sh μ) : xR μ 246 1 = some 248 := (h.2.2 246 1 (by decide) (by decide)).trans rfl
theorem rf246_2 {μ : xM} (h : Sh μ) : xR μ 246 2 = some 249 := (h.2.2 246 2 (by decide) (by decide)).trans rfl
theorem rf246_3 {μ : xM} (h : Sh μ) : xR μ 246 3 = some 250 := (h.2.2 246 3 (by decide) (by decide)).trans rfl
theorem rf246_5 {μ : xM} (h : Sh μ) : xR μ 246 5 = some 247 := (h.2.2 246 5 (by decide) (by decide)).trans rfl
theorem rf253_0 {μ : xM} (h : Sh μ) : xR μ 253 0 = some 254 := (h.2.2 253 0 (by decide) (by decide)).trans rfl
theorem rf253_1 {μ : xM} (h : Sh μ) : xR μ 253 1 = some 259 := (h.2.2 253 1 (by decide) (by decide)).trans rfl
theorem rf253_4 {μ : xM} (h : Sh μ) : xR μ 253 4 = some 260 := (h.2.2 253 4 (by decide) (by decide)).trans rfl
theorem rf254_1 {μ : xM} (h : Sh μ) : xR μ 254 1 = some 256 := (h.2.2 254 1 (by decide) (by decide)).trans rfl
theorem rf254_2 {μ : xM} (h : Sh μ) : xR μ 254 2 = some 257 := (h.2.2 254 2 (by decide) (by decide)).trans rfl
theorem rf254_3 {μ : xM} (h : Sh μ) : xR μ 254 3 = some 258 := (h.2.2 254 3 (by decide) (by decide)).trans rfl
theorem rf254_5 {μ : xM} (h : Sh μ) : xR μ 254 5 = some 255 := (h.2.2 254 5 (by decide) (by decide)).trans rfl
theorem rf261_0 {μ : xM} (h : Sh μ) : xR μ 261 0 = some 262 := (h.2.2 261 0 (by decide) (by decide)).trans rfl
theorem rf261_1 {μ : xM} (h : Sh μ) : xR μ 261 1 = some 267 := (h.2.2 261 1 (by decide) (by decide)).trans rfl
theorem rf261_4 {μ : xM} (h : Sh μ) : xR μ 261 4 = some 268 := (h.2.2 261 4 (by decide) (by decide)).trans rfl
theorem rf262_1 {μ : xM} (h : Sh μ) : xR μ 262 1 = some 264 := (h.2.2 262 1 (by decide) (by decide)).trans rfl
theorem rf262_2 {μ : xM} (h : Sh μ) : xR μ 262 2 = some 265 := (h.2.2 262 2 (by decide) (by decide)).trans rfl
theorem rf262_3 {μ : xM} (h : Sh μ) : xR μ 262 3 = some 266 := (h.2.2 262 3 (by decide) (by decide)).trans rfl
theorem rf262_5 {μ : xM} (h : Sh μ) : xR μ 262 5 = some 263 := (h.2.2 262 5 (by decide) (by decide)).trans rfl
theorem rf269_0 {μ : xM} (h : Sh μ) : xR μ 269 0 = some 270 := (h.2.2 269 0 (by decide) (by decide)).trans rfl
theorem rf269_1 {μ : xM} (h : Sh μ) : xR μ 269 1 = some 275 := (h.2.2 269 1 (by decide) (by decide)).trans rfl
theorem rf269_4 {μ : xM} (h : Sh μ) : xR μ 269 4 = some 276 := (h.2.2 269 4 (by decide) (by decide)).trans rfl
theorem rf270_1 {μ : xM} (h : Sh μ) : xR μ 270 1 = some 272 := (h.2.2 270 1 (by decide) (by decide)).trans rfl
theorem rf270_2 {μ : xM} (h : Sh μ) : xR μ 270 2 = some 273 := (h.2.2 270 2 (by decide) (by decide)).trans rfl
theorem rf270_3 {μ : xM} (h : Sh μ) : xR μ 270 3 = some 274 := (h.2.2 270 3 (by decide) (by decide)).trans rfl
theorem rf270_5 {μ : xM} (h : Sh μ) : xR μ 270 5 = some 271 := (h.2.2 270 5 (by decide) (by decide)).trans rfl
theorem rf277_0 {μ : xM} (h : Sh μ) : xR μ 277 0 = some 278 := (h.2.2 277 0 (by decide) (by decide)).trans rfl
theorem rf277_1 {μ : xM} (h : Sh μ) : xR μ 277 1 = some 283 := (h.2.2 277 1 (by decide) (by decide)).trans rfl
theorem rf277_4 {μ : xM} (h : Sh μ) : xR μ 277 4 = some 284 := (h.2.2 277 4 (by decide) (by decide)).trans rfl
theorem rf278_1 {μ : xM} (h : Sh μ) : xR μ 278 1 = some 280 := (h.2.2 278 1 (by decide) (by decide)).trans rfl
theorem rf278_2 {μ : xM} (h : Sh μ) : xR μ 278 2 = some 281 := (h.2.2 278 2 (by decide) (by decide)).trans rfl
theorem rf278_3 {μ : xM} (h : Sh μ) : xR μ 278 3 = some 282 := (h.2.2 278 3 (by decide) (by decide)).trans rfl
theorem rf278_5 {μ : xM} (h : Sh μ) : xR μ 278 5 = some 279 := (h.2.2 278 5 (by decide) (by decide)).trans rfl
theorem rf285_0 {μ : xM} (h : Sh μ) : xR μ 285 0 = some 286 := (h.2.2 285 0 (by decide) (by decide)).trans rfl
theorem rf285_1 {μ : xM} (h : Sh μ) : xR μ 285 1 = some 291 := (h.2.2 285 1 (by decide) (by decide)).trans rfl
theorem rf285_4 {μ : xM} (h : Sh μ) : xR μ 285 4 = some 292 := (h.2.2 285 4 (by decide) (by decide)).trans rfl
theorem rf286_1 {μ : xM} (h : Sh μ) : xR μ 286 1 = some 288 := (h.2.2 286 1 (by decide) (by decide)).trans rfl
theorem rf286_2 {μ : xM} (h : Sh μ) : xR μ 286 2 = some 289 := (h.2.2 286 2 (by decide) (by decide)).trans rfl
theorem rf286_3 {μ : xM} (h : Sh μ) : xR μ 286 3 = some 290 := (h.2.2 286 3 (by decide) (by decide)).trans rfl
theorem rf286_5 {μ : xM} (h : Sh μ) : xR μ 286 5 = some 287 := (h.2.2 286 5 (by decide) (by decide)).trans rfl
theorem rf293_0 {μ : xM} (h : Sh μ) : xR μ 293 0 = some 294 := (h.2.2 293 0 (by decide) (by decide)).trans rfl
theorem rf293_1 {μ : xM} (h : Sh μ) : xR μ 293 1 = some 295 := (h.2.2 293 1 (by decide) (by decide)).trans rfl
theorem rf293_2 {μ : xM} (h : Sh μ) : xR μ 293 2 = some 296 := (h.2.2 293 2 (by decide) (by decide)).trans rfl
theorem rf293_4 {μ : xM} (h : Sh μ) : xR μ 293 4 = some 297 := (h.2.2 293 4 (by decide) (by decide)).trans rfl
theorem rf293_6 {μ : xM} (h : Sh μ) : xR μ 293 6 = some 298 := (h.2.2 293 6 (by decide) (by decide)).trans rfl
theorem rf293_10 {μ : xM} (h : Sh μ) : xR μ 293 10 = some 299 := (h.2.2 293 10 (by decide) (by decide)).trans rfl
theorem rf293_11 {μ : xM} (h : Sh μ) : xR μ 293 11 = some 300 := (h.2.2 293 11 (by decide) (by decide)).trans rfl
theorem rf293_12 {μ : xM} (h : Sh μ) : xR μ 293 12 = some 301 := (h.2.2 293 12 (by decide) (by decide)).trans rfl
theorem rf293_13 {μ : xM} (h : Sh μ) : xR μ 293 13 = some 302 := (h.2.2 293 13 (by decide) (by decide)).trans rfl
theorem rf293_14 {μ : xM} (h : Sh μ) : xR μ 293 14 = some 303 := (h.2.2 293 14 (by decide) (by decide)).trans rfl
theorem rf293_15 {μ : xM} (h : Sh μ) : xR μ 293 15 = some 304 := (h.2.2 293 15 (by decide) (by decide)).trans rfl
theorem rf293_16 {μ : xM} (h : Sh μ) : xR μ 293 16 = some 305 := (h.2.2 293 16 (by decide) (by decide)).trans rfl
theorem rf293_17 {μ : xM} (h : Sh μ) : xR μ 293 17 = some 306 := (h.2.2 293 17 (by decide) (by decide)).trans rfl
theorem rf293_18 {μ : xM} (h : Sh μ) : xR μ 293 18 = some 307 := (h.2.2 293 18 (by decide) (by decide)).trans rfl
theorem rf293_19 {μ : xM} (h : Sh μ) : xR μ 293 19 = some 308 := (h.2.2 293 19 (by decide) (by decide)).trans rfl
theorem rf293_20 {μ : xM} (h : Sh μ) : xR μ 293 20 = some 309 := (h.2.2 293 20 (by decide) (by decide)).trans rfl
theorem rf293_21 {μ : xM} (h : Sh μ) : xR μ 293 21 = some 310 := (h.2.2 293 21 (by decide) (by decide)).trans rfl
theorem rf293_22 {μ : xM} (h : Sh μ) : xR μ 293 22 = some 311 := (h.2.2 293 22 (by decide) (by decide)).trans rfl
theorem rf293_25 {μ : xM} (h : Sh μ) : xR μ 293 25 = some 312 := (h.2.2 293 25 (by decide) (by decide)).trans rfl
theorem rf293_30 {μ : xM} (h : Sh μ) : xR μ 293 30 = some 313 := (h.2.2 293 30 (by decide) (by decide)).trans rfl
theorem rf293_31 {μ : xM} (h : Sh μ) : xR μ 293 31 = some 314 := (h.2.2 293 31 (by decide) (by decide)).trans rfl
theorem rf293_32 {μ : xM} (h : Sh μ) : xR μ 293 32 = some 315 := (h.2.2 293 32 (by decide) (by decide)).trans rfl
theorem rf293_34 {μ : xM} (h : Sh μ) : xR μ 293 34 = some 316 := (h.2.2 293 34 (by decide) (by decide)).trans rfl
theorem rf293_37 {μ : xM} (h : Sh μ) : xR μ 293 37 = some 317 := (h.2.2 293 37 (by decide) (by decide)).trans rfl
theorem rf293_38 {μ : xM} (h : Sh μ) : xR μ 293 38 = some 318 := (h.2.2 293 38 (by decide) (by decide)).trans rfl
theorem rf293_41 {μ : xM} (h : Sh μ) : xR μ 293 41 = some 319 := (h.2.2 293 41 (by decide) (by decide)).trans rfl
theorem rf293_42 {μ : xM} (h : Sh μ) : xR μ 293 42 = some 320 := (h.2.2 293 42 (by decide) (by decide)).trans rfl
theorem rf293_44 {μ : xM} (h : Sh μ) : xR μ 293 44 = some 321 := (h.2.2 293 44 (by decide) (by decide)).trans rfl
theorem rf293_45 {μ : xM} (h : Sh μ) : xR μ 293 45 = some 322 := (h.2.2 293 45 (by decide) (by decide)).trans rfl
theorem rf293_46 {μ : xM} (h : Sh μ) : xR μ 293 46 = some 323 := (h.2.2 293 46 (by decide) (by decide)).trans rfl
theorem rf293_48 {μ : xM} (h : Sh μ) : xR μ 293 48 = some 324 := (h.2.2 293 48 (by decide) (by decide)).trans rfl
theorem rf293_50 {μ : xM} (h : Sh μ) : xR μ 293 50 = some 325 := (h.2.2 293 50 (by decide) (by decide)).trans rfl
theorem rf293_51 {μ : xM} (h : Sh μ) : xR μ 293 51 = some 326 := (h.2.2 293 51 (by decide) (by decide)).trans rfl
theorem rf293_53 {μ : xM} (h : Sh μ) : xR μ 293 53 = some 327 := (h.2.2 293 53 (by decide) (by decide)).trans rfl
theorem rf293_57 {μ : xM} (h : Sh μ) : xR μ 293 57 = some 328 := (h.2.2 293 57 (by decide) (by decide)).trans rfl
theorem rf293_58 {μ : xM} (h : Sh μ) : xR μ 293 58 = some 329 := (h.2.2 293 58 (by decide) (by decide)).trans rfl
theorem rf293_59 {μ : xM} (h : Sh μ) : xR μ 293 59 = some 330 := (h.2.2 293 59 (by decide) (by decide)).trans rfl
theorem rf293_60 {μ : xM} (h : Sh μ) : xR μ 293 60 = some 331 := (h.2.2 293 60 (by decide) (by decide)).trans rfl
theorem rf293_62 {μ : xM} (h : Sh μ) : xR μ 293 62 = some 332 := (h.2.2 293 62 (by decide) (by decide)).trans rfl
