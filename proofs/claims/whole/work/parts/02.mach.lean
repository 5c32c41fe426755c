/-! An abstract machine over numbers: memory as kinds, references, ints and longs by cell and place; frames as lists; 'xrun' runs a program of it with fuel. The parts behind show that what it does the JVM's model does. -/
-- (cells, slots), kind of a cell, references, ints, longs. Kinds: (10 + c, n) an object of class number c with n fields; (1, n) int row, (2, n) boolean row, (3, n) long row, (4, n) rows of pictures, (5, n) of sights, (6, n) of long rows.
abbrev xM : Type := (Nat × Nat) × (Nat → Nat × Nat) × (Nat → Nat → Option Nat) × (Nat → Nat → Int32) × (Nat → Nat → Int64)
abbrev xLo : Type := List (Option Value)
def xS (μ : xM) : Nat := μ.1.1
def xU (μ : xM) : Nat := μ.1.2
def xK (μ : xM) (a : Nat) : Nat × Nat := if a < μ.1.1 then μ.2.1 a else (0, 0)
def xR (μ : xM) (a k : Nat) : Option Nat := μ.2.2.1 a k
def xI (μ : xM) (a k : Nat) : Int32 := μ.2.2.2.1 a k
def xL (μ : xM) (a k : Nat) : Int64 := μ.2.2.2.2 a k
def xup {α : Type} (f : Nat → Nat → α) (a k : Nat) (v : α) : Nat → Nat → α := fun b j => if b = a ∧ j = k then v else f b j
def xsI (μ : xM) (a k : Nat) (v : Int32) : xM := (μ.1, μ.2.1, μ.2.2.1, xup μ.2.2.2.1 a k v, μ.2.2.2.2)
def xsL (μ : xM) (a k : Nat) (v : Int64) : xM := (μ.1, μ.2.1, μ.2.2.1, μ.2.2.2.1, xup μ.2.2.2.2 a k v)
def xsR (μ : xM) (a k : Nat) (v : Option Nat) : xM := (μ.1, μ.2.1, xup μ.2.2.1 a k v, μ.2.2.2.1, μ.2.2.2.2)
/-- a run of m + 1 new cells: the first of kind t, m behind it of kind t2 (m = 0: one cell) -/
def xnew (μ : xM) (t t2 : Nat × Nat) (m sl : Nat) : xM :=
  ((μ.1.1 + 1 + m, μ.1.2 + sl), (fun b => if b = μ.1.1 then t else if μ.1.1 < b ∧ b ≤ μ.1.1 + m then t2 else μ.2.1 b),
   (fun b j => if b = μ.1.1 then (if j < m then some (μ.1.1 + 1 + j) else none) else if μ.1.1 < b ∧ b ≤ μ.1.1 + m then none else μ.2.2.1 b j),
   (fun b j => if μ.1.1 ≤ b ∧ b ≤ μ.1.1 + m then 0 else μ.2.2.2.1 b j),
   (fun b j => if μ.1.1 ≤ b ∧ b ≤ μ.1.1 + m then 0 else μ.2.2.2.2 b j))
def xc (n : Int) : Int32 := Int32.ofInt n
def xcl (n : Int) : Int64 := Int64.ofInt n
-- what is looked at before it is done
def ldF (μ : xM) (a ci k : Nat) : Option Int32 := if (xK μ a).1 = 10 + ci then some (xI μ a k) else none
def ldFL (μ : xM) (a ci k : Nat) : Option Int64 := if (xK μ a).1 = 10 + ci then some (xL μ a k) else none
def ldFR (μ : xM) (a ci k : Nat) : Option Nat := if (xK μ a).1 = 10 + ci then xR μ a k else none
def stF (μ : xM) (a ci k : Nat) (v : Int32) : Option xM := if (xK μ a).1 = 10 + ci ∧ 2 ≤ a then some (xsI μ a k v) else none
def stFZ (μ : xM) (a ci k : Nat) (v : Int32) : Option xM := if ((xK μ a).1 = 10 + ci ∧ 2 ≤ a) ∧ (v = 0 ∨ v = 1) then some (xsI μ a k v) else none
def stFL (μ : xM) (a ci k : Nat) (v : Int64) : Option xM := if (xK μ a).1 = 10 + ci ∧ 2 ≤ a then some (xsL μ a k v) else none
def stFR (μ : xM) (a ci k v : Nat) : Option xM := if (xK μ a).1 = 10 + ci ∧ 2 ≤ a then some (xsR μ a k (some v)) else none
def xin (μ : xM) (t a : Nat) (i : Int32) : Prop := (xK μ a).1 = t ∧ ¬ (i < 0 ∨ (xK μ a).2 ≤ i.toNatClampNeg)
def ldA (μ : xM) (a : Nat) (i : Int32) : Option Int32 := if (xK μ a).1 = 1 ∧ ¬ (i < 0 ∨ (xK μ a).2 ≤ i.toNatClampNeg) then some (xI μ a i.toNatClampNeg) else none
def ldAZ (μ : xM) (a : Nat) (i : Int32) : Option Int32 := if (xK μ a).1 = 2 ∧ ¬ (i < 0 ∨ (xK μ a).2 ≤ i.toNatClampNeg) then some (xI μ a i.toNatClampNeg) else none
def ldAL (μ : xM) (a : Nat) (i : Int32) : Option Int64 := if (xK μ a).1 = 3 ∧ ¬ (i < 0 ∨ (xK μ a).2 ≤ i.toNatClampNeg) then some (xL μ a i.toNatClampNeg) else none
def ldAR (μ : xM) (a : Nat) (i : Int32) : Option Nat := if (4 ≤ (xK μ a).1 ∧ (xK μ a).1 ≤ 6) ∧ ¬ (i < 0 ∨ (xK μ a).2 ≤ i.toNatClampNeg) then xR μ a i.toNatClampNeg else none
def stA (μ : xM) (a : Nat) (i v : Int32) : Option xM := if ((xK μ a).1 = 1 ∧ 2 ≤ a) ∧ ¬ (i < 0 ∨ (xK μ a).2 ≤ i.toNatClampNeg) then some (xsI μ a i.toNatClampNeg v) else none
def stAZ (μ : xM) (a : Nat) (i v : Int32) : Option xM := if (((xK μ a).1 = 2 ∧ 2 ≤ a) ∧ (v = 0 ∨ v = 1)) ∧ ¬ (i < 0 ∨ (xK μ a).2 ≤ i.toNatClampNeg) then some (xsI μ a i.toNatClampNeg v) else none
def stAL (μ : xM) (a : Nat) (i : Int32) (v : Int64) : Option xM := if ((xK μ a).1 = 3 ∧ 2 ≤ a) ∧ ¬ (i < 0 ∨ (xK μ a).2 ≤ i.toNatClampNeg) then some (xsL μ a i.toNatClampNeg v) else none
-- rows of pictures hold pictures (class number 5), rows of sights hold sights (6)
def stAR (μ : xM) (a : Nat) (i : Int32) (v : Nat) : Option xM := if (((xK μ a).1 = 4 ∧ (xK μ v).1 = 15 ∨ (xK μ a).1 = 5 ∧ (xK μ v).1 = 16) ∧ 2 ≤ a ∧ 2 ≤ v) ∧ ¬ (i < 0 ∨ (xK μ a).2 ≤ i.toNatClampNeg) then some (xsR μ a i.toNatClampNeg (some v)) else none
def alen (μ : xM) (a : Nat) : Option Int32 := if 1 ≤ (xK μ a).1 ∧ (xK μ a).1 ≤ 6 then some (Int32.ofNat (xK μ a).2) else none
def dvI (x y : Int32) : Option Int32 := if y = 0 then none else some (x / y)
def rmI (x y : Int32) : Option Int32 := if y = 0 then none else some (x - x / y * y)
/-- n places of int row a from sp on go to row b from dp on, as they were -/
def xcopy (μ : xM) (a : Nat) (sp : Int32) (b : Nat) (dp n : Int32) : Option xM :=
  if (((xK μ a).1 = 1 ∧ 2 ≤ a) ∧ (xK μ b).1 = 1 ∧ 2 ≤ b) ∧ ¬ sp < 0 ∧ ¬ dp < 0 ∧ ¬ n < 0 ∧ sp.toNatClampNeg + n.toNatClampNeg ≤ (xK μ a).2 ∧ dp.toNatClampNeg + n.toNatClampNeg ≤ (xK μ b).2 then
    some (μ.1, μ.2.1, μ.2.2.1, (fun c j => if c = b then va_cpy (μ.2.2.2.1 a) (μ.2.2.2.1 b) sp.toNatClampNeg dp.toNatClampNeg n.toNatClampNeg j else μ.2.2.2.1 c j), μ.2.2.2.2)
  else none
def xcopyL (μ : xM) (a : Nat) (sp : Int32) (b : Nat) (dp n : Int32) : Option xM :=
  if (((xK μ a).1 = 3 ∧ 2 ≤ a) ∧ (xK μ b).1 = 3 ∧ 2 ≤ b) ∧ ¬ sp < 0 ∧ ¬ dp < 0 ∧ ¬ n < 0 ∧ sp.toNatClampNeg + n.toNatClampNeg ≤ (xK μ a).2 ∧ dp.toNatClampNeg + n.toNatClampNeg ≤ (xK μ b).2 then
    some (μ.1, μ.2.1, μ.2.2.1, μ.2.2.2.1, (fun c j => if c = b then va_cpy (μ.2.2.2.2 a) (μ.2.2.2.2 b) sp.toNatClampNeg dp.toNatClampNeg n.toNatClampNeg j else μ.2.2.2.2 c j))
  else none
-- frames
def xcat : Option (Option Value) → Bool
  | some (some v) => Nat.beq v.category 2
  | _ => false
def xkill (lo : xLo) : Nat → xLo
  | 0 => lo
  | j + 1 => if xcat lo[j]? then lo.set j none else lo
def xst1 (lo : xLo) (i : Nat) (v : Value) : xLo := (xkill lo i).set i (some v)
def xst2 (lo : xLo) (i : Nat) (v : Value) : xLo := ((xkill lo i).set i (some v)).set (i + 1) none
def xargs : List Value → xLo
  | [] => []
  | v :: vs => if Nat.beq v.category 2 then some v :: none :: xargs vs else some v :: xargs vs
def xentry (n : Nat) (vs : List Value) : xLo := xargs vs ++ List.replicate (n - (xargs vs).length) none
/-- the arguments fit the frame; a virtual call's object is of the method's own class number -/
def xrc (ins : Instr) (μ : xM) (av : List Value) (own ml : Nat) : Bool := Nat.ble (xargs av).length ml && (match ins with
  | .invokevirtual _ => (match av with | .ref a :: _ => Nat.beq (xK μ a).1 (10 + own) | _ => false)
  | .invokespecial _ => (match av with | .ref _ :: _ => true | _ => false)
  | _ => true)
def xcb : Jvm.ClassFile.Cond → Int32 → Int32 → Bool
  | .eq, x, y => decide (x = y)
  | .ne, x, y => decide (¬ x = y)
  | .lt, x, y => decide (x < y)
  | .ge, x, y => decide (y ≤ x)
  | .gt, x, y => decide (y < x)
  | .le, x, y => decide (x ≤ y)
def xto (pc : Nat) (off : Int) : Nat := ((pc : Int) + off).toNat
def xN (ci : Nat) : Nat := [10, 2, 2, 16, 0, 8, 10, 2, 4, 65].getD ci 0
def xshr (x y : Int32) : Int32 := (x.toUInt32 >>> (y.toUInt32 &&& Int32.toUInt32 31)).toInt32
def xshrL (x : Int64) (y : Int32) : Int64 := (x.toUInt64 >>> (y.toInt64.toUInt64 &&& Int64.toUInt64 63)).toInt64
/-- one instruction of a frame that is no call and no return: field numbers are 10000 c + 10 k + type (0 int, 1 long, 2 reference, 3 boolean) -/
def xstep (ins : Instr) (len pc : Nat) (lo : xLo) (st : List Value) (μ : xM) : Option (Nat × xLo × List Value × xM) :=
  match ins with
  | .iconst n => some (pc + len, lo, .int (xc n) :: st, μ)
  | .sipush n => some (pc + len, lo, .int (xc n) :: st, μ)
  | .lconst n => some (pc + len, lo, .long (Int64.ofNat (n : Nat)) :: st, μ)
  | .ldc2_w n => some (pc + len, lo, .long (Int64.ofNat n) :: st, μ)
  | .aconst_null => some (pc + len, lo, .null :: st, μ)
  | .iload i => match lo[i]? with | some (some (.int x)) => some (pc + len, lo, .int x :: st, μ) | _ => none
  | .lload i => match lo[i]? with | some (some (.long x)) => some (pc + len, lo, .long x :: st, μ) | _ => none
  | .aload i => match lo[i]? with | some (some (.ref x)) => some (pc + len, lo, .ref x :: st, μ) | some (some .null) => some (pc + len, lo, .null :: st, μ) | _ => none
  | .istore i => match st with | .int x :: st' => if i < lo.length then some (pc + len, xst1 lo i (.int x), st', μ) else none | _ => none
  | .lstore i => match st with | .long x :: st' => if i + 1 < lo.length then some (pc + len, xst2 lo i (.long x), st', μ) else none | _ => none
  | .astore i => match st with | .ref x :: st' => if i < lo.length then some (pc + len, xst1 lo i (.ref x), st', μ) else none | _ => none
  | .iinc i n => match lo[i]? with | some (some (.int x)) => some (pc + len, xst1 lo i (.int (x + xc n)), st, μ) | _ => none
  | .iadd => match st with | .int y :: .int x :: st' => some (pc + len, lo, .int (x + y) :: st', μ) | _ => none
  | .isub => match st with | .int y :: .int x :: st' => some (pc + len, lo, .int (x - y) :: st', μ) | _ => none
  | .imul => match st with | .int y :: .int x :: st' => some (pc + len, lo, .int (x * y) :: st', μ) | _ => none
  | .idiv => match st with | .int y :: .int x :: st' => (dvI x y).map fun z => (pc + len, lo, .int z :: st', μ) | _ => none
  | .irem => match st with | .int y :: .int x :: st' => (rmI x y).map fun z => (pc + len, lo, .int z :: st', μ) | _ => none
  | .iand => match st with | .int y :: .int x :: st' => some (pc + len, lo, .int (x &&& y) :: st', μ) | _ => none
  | .ior => match st with | .int y :: .int x :: st' => some (pc + len, lo, .int (x ||| y) :: st', μ) | _ => none
  | .ixor => match st with | .int y :: .int x :: st' => some (pc + len, lo, .int (x ^^^ y) :: st', μ) | _ => none
  -- Math.max, Math.min
  | .fadd => match st with | .int y :: .int x :: st' => if (st'.map fun v => v.category).sum ≤ 8 then some (pc + len, lo, .int (if x < y then y else x) :: st', μ) else none | _ => none
  | .fsub => match st with | .int y :: .int x :: st' => if (st'.map fun v => v.category).sum ≤ 8 then some (pc + len, lo, .int (if y < x then y else x) :: st', μ) else none | _ => none
  | .ineg => match st with | .int x :: st' => some (pc + len, lo, .int (-x) :: st', μ) | _ => none
  | .ishl => match st with | .int y :: .int x :: st' => some (pc + len, lo, .int (x <<< (y &&& 31)) :: st', μ) | _ => none
  | .ishr => match st with | .int y :: .int x :: st' => some (pc + len, lo, .int (x >>> (y &&& 31)) :: st', μ) | _ => none
  | .iushr => match st with | .int y :: .int x :: st' => some (pc + len, lo, .int (xshr x y) :: st', μ) | _ => none
  | .ladd => match st with | .long y :: .long x :: st' => some (pc + len, lo, .long (x + y) :: st', μ) | _ => none
  | .lsub => match st with | .long y :: .long x :: st' => some (pc + len, lo, .long (x - y) :: st', μ) | _ => none
  | .land => match st with | .long y :: .long x :: st' => some (pc + len, lo, .long (x &&& y) :: st', μ) | _ => none
  | .lor => match st with | .long y :: .long x :: st' => some (pc + len, lo, .long (x ||| y) :: st', μ) | _ => none
  | .lxor => match st with | .long y :: .long x :: st' => some (pc + len, lo, .long (x ^^^ y) :: st', μ) | _ => none
  | .lshl => match st with | .int y :: .long x :: st' => some (pc + len, lo, .long (x <<< (y.toInt64 &&& 63)) :: st', μ) | _ => none
  | .lshr => match st with | .int y :: .long x :: st' => some (pc + len, lo, .long (x >>> (y.toInt64 &&& 63)) :: st', μ) | _ => none
  | .lushr => match st with | .int y :: .long x :: st' => some (pc + len, lo, .long (xshrL x y) :: st', μ) | _ => none
  | .lcmp => match st with | .long y :: .long x :: st' => some (pc + len, lo, .int (lg_cmp x y) :: st', μ) | _ => none
  | .i2l => match st with | .int x :: st' => some (pc + len, lo, .long x.toInt64 :: st', μ) | _ => none
  | .l2i => match st with | .long x :: st' => some (pc + len, lo, .int x.toInt32 :: st', μ) | _ => none
  | .dup => match st with | .int x :: st' => some (pc + len, lo, .int x :: .int x :: st', μ) | .ref x :: st' => some (pc + len, lo, .ref x :: .ref x :: st', μ) | _ => none
  | .dup2 => match st with | .int x :: .ref y :: st' => some (pc + len, lo, .int x :: .ref y :: .int x :: .ref y :: st', μ) | _ => none
  | .pop => match st with | .int _ :: st' => some (pc + len, lo, st', μ) | _ => none
  | .goto off => if 0 ≤ (pc : Int) + off then some (xto pc off, lo, st, μ) else none
  | .ifCond q off => match st with | .int x :: st' => if 0 ≤ (pc : Int) + off then some (if xcb q x 0 then xto pc off else pc + 3, lo, st', μ) else none | _ => none
  | .if_icmp q off => match st with | .int y :: .int x :: st' => if 0 ≤ (pc : Int) + off then some (if xcb q x y then xto pc off else pc + 3, lo, st', μ) else none | _ => none
  | .ifnull off => match st with | .ref _ :: st' => some (pc + 3, lo, st', μ) | .null :: st' => if 0 ≤ (pc : Int) + off then some (xto pc off, lo, st', μ) else none | _ => none
  | .tableswitch dflt low high offs => match st with
    | .int x :: st' => if x.toInt < low ∨ high < x.toInt then (if 0 ≤ (pc : Int) + dflt then some (xto pc dflt, lo, st', μ) else none)
        else match offs[(x.toInt - low).toNat]? with | some off => if 0 ≤ (pc : Int) + off then some (xto pc off, lo, st', μ) else none | none => none
    | _ => none
  | .lookupswitch dflt ps => match st with
    | .int x :: st' => if (ps.toList.zip (ps.toList.drop 1)).all (fun (a, next) => a.1 < next.1) = true ∧ 0 ≤ (pc : Int) + Op.lookupswitch.offset ps.toList dflt x.toInt then some (xto pc (Op.lookupswitch.offset ps.toList dflt x.toInt), lo, st', μ) else none
    | _ => none
  | .getfield j => match st with
    | .ref a :: st' => match j % 10 with
      | 1 => (ldFL μ a (j / 10000) (j / 10 % 1000)).map fun z => (pc + len, lo, .long z :: st', μ)
      | 2 => (ldFR μ a (j / 10000) (j / 10 % 1000)).map fun z => (pc + len, lo, .ref z :: st', μ)
      | _ => (ldF μ a (j / 10000) (j / 10 % 1000)).map fun z => (pc + len, lo, .int z :: st', μ)
    | _ => none
  | .putfield j => match st with
    | .int v :: .ref a :: st' => match j % 10 with
      | 0 => (stF μ a (j / 10000) (j / 10 % 1000) v).map fun μ' => (pc + len, lo, st', μ')
      | 3 => (stFZ μ a (j / 10000) (j / 10 % 1000) v).map fun μ' => (pc + len, lo, st', μ')
      | _ => none
    | .long v :: .ref a :: st' => match j % 10 with
      | 1 => (stFL μ a (j / 10000) (j / 10 % 1000) v).map fun μ' => (pc + len, lo, st', μ')
      | _ => none
    | .ref v :: .ref a :: st' => match j % 10 with
      | 2 => (stFR μ a (j / 10000) (j / 10 % 1000) v).map fun μ' => (pc + len, lo, st', μ')
      | _ => none
    | _ => none
  | .getstatic _ => some (pc + len, lo, .ref 1 :: st, μ)
  | .iaload => match st with | .int i :: .ref a :: st' => (ldA μ a i).map fun z => (pc + len, lo, .int z :: st', μ) | _ => none
  | .baload => match st with | .int i :: .ref a :: st' => (ldAZ μ a i).map fun z => (pc + len, lo, .int z :: st', μ) | _ => none
  | .laload => match st with | .int i :: .ref a :: st' => (ldAL μ a i).map fun z => (pc + len, lo, .long z :: st', μ) | _ => none
  | .aaload => match st with | .int i :: .ref a :: st' => (ldAR μ a i).map fun z => (pc + len, lo, .ref z :: st', μ) | _ => none
  | .iastore => match st with | .int v :: .int i :: .ref a :: st' => (stA μ a i v).map fun μ' => (pc + len, lo, st', μ') | _ => none
  | .bastore => match st with | .int v :: .int i :: .ref a :: st' => (stAZ μ a i v).map fun μ' => (pc + len, lo, st', μ') | _ => none
  | .lastore => match st with | .long v :: .int i :: .ref a :: st' => (stAL μ a i v).map fun μ' => (pc + len, lo, st', μ') | _ => none
  | .aastore => match st with | .ref v :: .int i :: .ref a :: st' => (stAR μ a i v).map fun μ' => (pc + len, lo, st', μ') | _ => none
  | .arraylength => match st with | .ref a :: st' => (alen μ a).map fun z => (pc + len, lo, .int z :: st', μ) | _ => none
  -- a class number: new object
  | .new ci => some (pc + len, lo, .ref (xS μ) :: st, xnew μ (10 + ci, xN ci) (0, 0) 0 (xN ci))
  | .newarray ty => match st with
    | .int n :: st' => if ¬ n < 0 ∧ n.toNatClampNeg ≤ 60000000 then
        (match ty with
        | .int => some (pc + len, lo, .ref (xS μ) :: st', xnew μ (1, n.toNatClampNeg) (0, 0) 0 n.toNatClampNeg)
        | .boolean => some (pc + len, lo, .ref (xS μ) :: st', xnew μ (2, n.toNatClampNeg) (0, 0) 0 n.toNatClampNeg)
        | .long => some (pc + len, lo, .ref (xS μ) :: st', xnew μ (3, n.toNatClampNeg) (0, 0) 0 n.toNatClampNeg)
        | _ => none) else none
    | _ => none
  -- 4: a row of pictures, 5: of sights
  | .anewarray t => match st with
    | .int n :: st' => if (¬ n < 0 ∧ n.toNatClampNeg ≤ 60000000) ∧ (t = 4 ∨ t = 5) then some (pc + len, lo, .ref (xS μ) :: st', xnew μ (t, n.toNatClampNeg) (0, 0) 0 n.toNatClampNeg) else none
    | _ => none
  | .multianewarray _ _ => match st with
    | .int k :: .int n :: st' => if (¬ n < 0 ∧ n.toNatClampNeg ≤ 60000000) ∧ (¬ k < 0 ∧ k.toNatClampNeg ≤ 60000000) then some (pc + len, lo, .ref (xS μ) :: st', xnew μ (6, n.toNatClampNeg) (3, k.toNatClampNeg) n.toNatClampNeg (n.toNatClampNeg + n.toNatClampNeg * k.toNatClampNeg)) else none
    | _ => none
  -- Object's own <init>
  | .monitorexit => match st with | .ref _ :: st' => if (st'.map fun v => v.category).sum ≤ 8 then some (pc + len, lo, st', μ) else none | _ => none
  -- System.arraycopy between int rows, between long rows
  | .monitorenter => match st with
    | .int n :: .int dp :: .ref b :: .int sp :: .ref a :: st' => if (st'.map fun v => v.category).sum ≤ 8 then (xcopy μ a sp b dp n).map fun μ' => (pc + len, lo, st', μ') else none
    | _ => none
  | .athrow => match st with
    | .int n :: .int dp :: .ref b :: .int sp :: .ref a :: st' => if (st'.map fun v => v.category).sum ≤ 8 then (xcopyL μ a sp b dp n).map fun μ' => (pc + len, lo, st', μ') else none
    | _ => none
  | _ => none
-- a program: of each method its instructions by place, how many arguments it takes (its object among them), its frame's places, what it answers (0 nothing, 1 int, 2 boolean, 3 long, 4 reference), its class
abbrev xP : Type := (Nat → Nat → Option (Instr × Nat)) × (Nat → Nat × Nat × Nat × Nat)
/-- runs method y from place pc on: its answer and the memory then; d: how many calls deep it may go -/
def xrun (P : xP) : Nat → Nat → Nat → Nat → xLo → List Value → xM → Option (Option Value × xM)
  | 0, _, _, _, _, _, _ => none
  | n + 1, d, y, pc, lo, st, μ =>
    match P.1 y pc with
    | none => none
    | some (ins, len) =>
      match ins with
      | .ireturn => match st with
        | [.int v] => if (P.2 y).2.2.1 = 1 ∨ (P.2 y).2.2.1 = 2 ∧ (v = 0 ∨ v = 1) then some (some (.int v), μ) else none
        | _ => none
      | .lreturn => match st with | [.long v] => if (P.2 y).2.2.1 = 3 then some (some (.long v), μ) else none | _ => none
      | .areturn => match st with | [.ref v] => if (P.2 y).2.2.1 = 4 then some (some (.ref v), μ) else none | _ => none
      | .return_ => match st with | [] => if (P.2 y).2.2.1 = 0 then some (none, μ) else none | _ => none
      | .invokevirtual j | .invokestatic j | .invokespecial j =>
        match d with
        | 0 => none
        | d' + 1 =>
          if ((P.2 j).1 ≤ st.length ∧ ((st.drop (P.2 j).1).map fun v => v.category).sum ≤ 8) ∧ xrc ins μ (st.take (P.2 j).1).reverse (P.2 j).2.2.2 (P.2 j).2.1 = true then
            match xrun P n d' j 0 (xentry (P.2 j).2.1 (st.take (P.2 j).1).reverse) [] μ with
            | some (rv, μ1) => xrun P n (d' + 1) y (pc + 3) lo (rv.toList ++ st.drop (P.2 j).1) μ1
            | none => none
          else none
      | _ => match xstep ins len pc lo st μ with
        | some (pc', lo', st', μ') => xrun P n d y pc' lo' st' μ'
        | none => none
