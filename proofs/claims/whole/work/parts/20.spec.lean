/-! the document's notions on lists: pictures, their ends, ways to lead one into another, shows, covers; and how the memory holds them -/
abbrev xRow : Type := Nat × Nat × Nat
/-- rows (table, first term, second term; values 0, 1, names from 2 on), head -/
abbrev xPic : Type := List xRow × List Nat
def pdd : List xRow → List xRow → List xRow
  | acc, [] => acc
  | acc, r :: rs => if r ∈ acc then pdd acc rs else pdd (acc ++ [r]) rs
/-- the second term of the first later row that clashes with r -/
def pclash1 (keys : Nat) (r : xRow) : List xRow → Option Nat
  | [] => none
  | q :: qs => if keys.testBit r.1 = true ∧ q.1 = r.1 ∧ q.2.1 = r.2.1 ∧ ¬ q.2.2 = r.2.2 then some q.2.2 else pclash1 keys r qs
def pclash (keys : Nat) : List xRow → Option (Nat × Nat)
  | [] => none
  | r :: rs => match pclash1 keys r rs with
    | some b => some (r.2.2, b)
    | none => pclash keys rs
def psub (hi lo t : Nat) : Nat := if t = hi then lo else t
def psubR (hi lo : Nat) (r : xRow) : xRow := (r.1, psub hi lo r.2.1, psub hi lo r.2.2)
/-- steps of a picture: what is left, how many there were, whether it is nothing -/
def pend (keys : Nat) : Nat → xPic → Nat → xPic × Nat × Bool
  | 0, P, n => (P, n, false)
  | f + 1, P, n => match pclash keys P.1 with
    | none => (P, n, false)
    | some (a, b) => if max a b < 2 then (P, n, true) else pend keys f (pdd [] (P.1.map (psubR (max a b) (min a b))), P.2.map (psub (max a b) (min a b))) (n + 1)
def pEnd (keys : Nat) (P : xPic) : xPic × Nat × Bool := pend keys 60 (pdd [] P.1, P.2) 0
/-- one term more is led -/
def plead (g : Nat → Option Nat) (t s : Nat) : Option (Nat → Option Nat) :=
  if t < 2 then (if t = s then some g else none)
  else match g t with
    | none => some (fun u => if u = t then some s else g u)
    | some u => if u = s then some g else none
/-- all ways to lead rows to rows of E -/
def phoms (E : List xRow) : List xRow → (Nat → Option Nat) → List (Nat → Option Nat)
  | [], g => [g]
  | r :: rs, g => E.flatMap (fun e => if e.1 = r.1 then (match plead g r.2.1 e.2.1 with
    | none => []
    | some g1 => match plead g1 r.2.2 e.2.2 with
      | none => []
      | some g2 => phoms E rs g2) else [])
def pim (g : Nat → Option Nat) (t : Nat) : Nat := if t < 2 then t else (g t).getD 0
/-- an end lies within a told picture -/
def pWithin (E : xPic × Nat × Bool) (q : xPic) : Prop := E.1.2.length = q.2.length ∧ (E.2.2 = true ∨ ∃ g ∈ phoms E.1.1 q.1 (fun _ => none), q.2.map (pim g) = E.1.2)
/-- a row of terms as a number: three digits to the base 8, the first the highest, 0 where there is none -/
def pcode (l : List Nat) : Nat := 64 * l.getD 0 0 + 8 * l.getD 1 0 + l.getD 2 0
/-- the shows of an end, as numbers: 512 times the view, and its terms -/
def pShows (E : xPic × Nat × Bool) (V : Nat → xPic) (nv : Nat) : List Nat :=
  if E.2.2 = true then [] else (List.range (512 * nv)).filter (fun x => decide (x % 512 ∈ (phoms E.1.1 (V (x / 512)).1 (fun _ => none)).map (fun g => pcode ((V (x / 512)).2.map (pim g)))))
/-- term at a place of a show's number -/
def pterm (x k : Nat) : Nat := x / 8 ^ (2 - k) % 8
def pbits (set n : Nat) : List Nat := (List.range n).filter (fun s => set.testBit s)
/-- a view's rows with a show's terms for its head's names, others new from base on -/
def popen1 (v : xPic) (x base : Nat) : List xRow :=
  v.1.map (fun r => (r.1, popenT v x base r.2.1, popenT v x base r.2.2))
where popenT (v : xPic) (x base t : Nat) : Nat := if t < 2 then t else match v.2.idxOf? t with
  | some k => pterm x k
  | none => base + t
/-- the rows of a list of shows, new names from base on, ten to each -/
def popen (V : Nat → xPic) : List Nat → Nat → List xRow
  | [], _ => []
  | x :: l, base => popen1 (V (x / 512)) x base ++ popen V l (base + 10)
def pshown (V : Nat → xPic) (l : List Nat) (t : Nat) : Prop := t < 2 ∨ ∃ x ∈ l, ∃ k, k < (V (x / 512)).2.length ∧ pterm x k = t
/-- a list of shows is a cover of an ask (told a, end E) -/
def pCovL (keys : Nat) (V : Nat → xPic) (a : xPic) (E : xPic × Nat × Bool) (l : List Nat) : Prop :=
  (∀ t ∈ E.1.2, pshown V l t) ∧ pWithin (pEnd keys (popen V l 10, E.1.2)) a
/-- a set of shows (bits) is a cover -/
def pCov (keys : Nat) (V : Nat → xPic) (a : xPic) (E : xPic × Nat × Bool) (sh : List Nat) (set : Nat) : Prop :=
  (E.2.2 = true ∧ set = 0) ∨ (E.2.2 = false ∧ 1 ≤ (pbits set sh.length).length ∧ (pbits set sh.length).length ≤ 3 ∧ pCovL keys V a E ((pbits set sh.length).map (fun s => sh.getD s 0)))
-- the memory's pictures
def PicC (μ : xM) (p : Nat) (P : xPic) : Prop := xI μ p 0 = nI P.1.length ∧ xI μ p 4 = nI P.2.length ∧ (∀ i, i < P.1.length → xI μ (p + 2) i = nI (P.1.getD i (0, 0, 0)).1 ∧ xI μ (p + 3) i = nI (P.1.getD i (0, 0, 0)).2.1 ∧ xI μ (p + 4) i = nI (P.1.getD i (0, 0, 0)).2.2) ∧ ∀ i, i < P.2.length → xI μ (p + 1) i = nI (P.2.getD i 0)
def PicM (μ : xM) (q : Nat) (P : xPic) : Prop := xI μ 299 q = nI P.1.length ∧ xI μ 303 q = nI P.2.length ∧ (∀ i, i < P.1.length → xI μ 300 (4 * q + i) = nI (P.1.getD i (0, 0, 0)).1 ∧ xI μ 301 (4 * q + i) = nI (P.1.getD i (0, 0, 0)).2.1 ∧ xI μ 302 (4 * q + i) = nI (P.1.getD i (0, 0, 0)).2.2) ∧ ∀ i, i < P.2.length → xI μ 304 (3 * q + i) = nI (P.2.getD i 0)
/-- a picture within its bounds, whatever its terms -/
def PicL (μ : xM) (p : Nat) : Prop := ∃ r l, r ≤ 4 ∧ l ≤ 3 ∧ xI μ p 0 = nI r ∧ xI μ p 4 = nI l
/-- a told picture -/
def PicWf (P : xPic) : Prop := 1 ≤ P.1.length ∧ P.1.length ≤ 4 ∧ P.2.length ≤ 3 ∧ (∀ r ∈ P.1, r.1 < 3 ∧ r.2.1 < 7 ∧ r.2.2 < 7) ∧ ∀ n ∈ P.2, 2 ≤ n ∧ n < 7 ∧ ∃ r ∈ P.1, r.2.1 = n ∨ r.2.2 = n
-- keys hold in a table
def KeyOK (T K : Nat) : Prop := ∀ t x, t < 3 → x < 2 → K.testBit t = true → ¬ (T.testBit (4 * t + 2 * x) = true ∧ T.testBit (4 * t + 2 * x + 1) = true)
/-- the class's holding at h against a row t of the model's values in the order of its image -/
def HRel (μ : xM) (h : Nat) (t : Nat → Int32) (A V : Nat → xPic) (na nv T K kb gb : Nat) : Prop :=
  na ≤ 10 ∧ nv ≤ 6 ∧ T < 4096 ∧ K < 8 ∧ kb < 2 ^ nv ∧ gb < 2 ^ nv ∧ KeyOK T K ∧
  xI μ h 0 = nI T ∧ xI μ h 1 = nI K ∧ xI μ h 2 = nI na ∧ xI μ h 3 = nI nv ∧ xI μ h 4 = nI kb ∧ xI μ h 5 = nI gb ∧
  t 0 = nI na ∧ t 1 = nI nv ∧ t 2 = xI μ h 6 ∧ (t 3 = xI μ h 7 ∧ 0 ≤ xI μ h 6) ∧ (∀ i, i < 3 → t (4 + 2 * i) = nI (T / 16 ^ i % 16) ∧ t (5 + 2 * i) = nI (K / 2 ^ i % 2)) ∧
  (∀ v, v < nv → (kb.testBit v = true → ∃ a, a < 256 ∧ xI μ (h + 3) v = nI a ∧ t (10 + 6 * v) = nI a) ∧ (kb.testBit v = false → t (10 + 6 * v) = -1) ∧ t (11 + 6 * v) = xI μ (h + 5) v ∧ t (12 + 6 * v) = xI μ (h + 6) v ∧ t (13 + 6 * v) = xI μ (h + 7) v ∧ t (14 + 6 * v) = xI μ (h + 8) v ∧ t (15 + 6 * v) = nI (gb / 2 ^ v % 2)) ∧
  (∀ v, nv ≤ v → v < 6 → xI μ (h + 5) v = 0 ∧ xI μ (h + 6) v = 0 ∧ xI μ (h + 7) v = 0 ∧ xI μ (h + 8) v = 0) ∧
  (∀ a, a < na → t (46 + a) = xI μ (h + 4) a) ∧ (∀ a, na ≤ a → a < 10 → xI μ (h + 4) a = 0) ∧
  (∀ i, i < na → PicC μ (h + 9 + 5 * i) (A i)) ∧ (∀ i, i < nv → PicC μ (h + 59 + 5 * i) (V i)) ∧ (∀ i, i < 10 → PicL μ (h + 9 + 5 * i)) ∧ ∀ i, i < 6 → PicL μ (h + 59 + 5 * i)
/-- the model's values in the order of its image -/
def vM (μ : xM) (j : Nat) : Int32 :=
  if j = 0 then xI μ 293 8 else if j = 1 then xI μ 293 9 else if j = 2 then xI μ 293 23 else if j = 3 then xI μ 293 24
  else if j < 10 then (if j % 2 = 0 then xI μ 294 ((j - 4) / 2) else xI μ 295 ((j - 4) / 2))
  else if j < 46 then (if (j - 10) % 6 = 0 then xI μ 305 ((j - 10) / 6) else if (j - 10) % 6 = 1 then xI μ 307 ((j - 10) / 6) else if (j - 10) % 6 = 2 then xI μ 308 ((j - 10) / 6) else if (j - 10) % 6 = 3 then xI μ 309 ((j - 10) / 6) else if (j - 10) % 6 = 4 then xI μ 310 ((j - 10) / 6) else xI μ 311 ((j - 10) / 6))
  else xI μ 306 (j - 46)
/-- a sight (at s) whose end and shows are worked out: they are those of its ask -/
def SeenOK (μ : xM) (s K nv : Nat) (V : Nat → xPic) (a : xPic) : Prop :=
  PicC μ (s + 1) (pEnd K a).1 ∧ xI μ (s + 1) 6 = nI (pEnd K a).2.1 ∧ xI μ (s + 1) 7 = (if (pEnd K a).2.2 then 1 else 0) ∧
  xI μ s 3 = (if 12 < (pShows (pEnd K a) V nv).length then 1 else 0) ∧
  ((pShows (pEnd K a) V nv).length ≤ 12 → xI μ s 2 = nI (pShows (pEnd K a) V nv).length ∧ ∀ i, i < (pShows (pEnd K a) V nv).length → xI μ (s + 6) i = nI ((pShows (pEnd K a) V nv).getD i 0))
/-- views of a set of shows, as bits -/
def pViewsIn (sh : List Nat) (set views : Nat) : Prop := ∀ s ∈ pbits set sh.length, views.testBit (sh.getD s 0 / 512) = true
/-- a sight whose covers are worked out -/
def ThroughOK (μ : xM) (s K nv : Nat) (V : Nat → xPic) (a : xPic) : Prop :=
  (pShows (pEnd K a) V nv).length ≤ 12 ∧
  (∀ set, set < 4096 → ((xL μ (s + 7) (set / 64)).toBitVec.getLsbD (set % 64) = true ↔ set < 2 ^ (pShows (pEnd K a) V nv).length ∧ pCov K V a (pEnd K a) (pShows (pEnd K a) V nv) set)) ∧
  (∀ views, views < 64 → ((xL μ s 5).toBitVec.getLsbD views = true ↔ ∃ set, set < 2 ^ (pShows (pEnd K a) V nv).length ∧ pCov K V a (pEnd K a) (pShows (pEnd K a) V nv) set ∧ pViewsIn (pShows (pEnd K a) V nv) set views)) ∧
  ((xI μ s 6 = -9 ∧ ∀ set, set < 2 ^ (pShows (pEnd K a) V nv).length → ¬ pCov K V a (pEnd K a) (pShows (pEnd K a) V nv) set) ∨
   ∃ best, best < 2 ^ (pShows (pEnd K a) V nv).length ∧ xI μ s 6 = nI best ∧ pCov K V a (pEnd K a) (pShows (pEnd K a) V nv) best ∧
     (∀ set, set < 2 ^ (pShows (pEnd K a) V nv).length → pCov K V a (pEnd K a) (pShows (pEnd K a) V nv) set → (pbits best 12).length < (pbits set 12).length ∨ (pbits best 12).length = (pbits set 12).length ∧ best ≤ set) ∧
     ∃ l : List Nat, l.Nodup ∧ (∀ set, set ∈ l ↔ set < 2 ^ (pShows (pEnd K a) V nv).length ∧ pCov K V a (pEnd K a) (pShows (pEnd K a) V nv) set ∧ (pbits set 12).length = (pbits best 12).length) ∧ xI μ s 7 = nI l.length)
