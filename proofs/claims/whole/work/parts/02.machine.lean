/-! A SMALL MACHINE of my own: ints and longs are whole numbers, references are places in one list of cells. zexec runs a method of the table zcode (a part behind this one prints it). -/
abbrev zV : Type := Nat × Int
abbrev zT : Type := Nat × Nat
abbrev zF : Type := Nat → Nat → Int
abbrev zS : Type := List zT × zF × zF
abbrev zE : Type := Instr × Nat × Nat × Nat × Nat
abbrev zX : Type := Nat × (Nat → Int)
def zup (f : zF) (a j : Nat) (v : Int) : zF := fun b k => if b = a then (if k = j then v else f b k) else f b k
def zclr (f : zF) (a : Nat) (v : Int) : zF := fun b k => if b = a then v else f b k
abbrev inI (x : Int) : Prop := -2147483648 ≤ x ∧ x < 2147483648
abbrev inL (x : Int) : Prop := -9223372036854775808 ≤ x ∧ x < 9223372036854775808
def zand (x y : Int) : Int := (Int32.ofInt x &&& Int32.ofInt y).toInt
def zor (x y : Int) : Int := (Int32.ofInt x ||| Int32.ofInt y).toInt
def zxor (x y : Int) : Int := (Int32.ofInt x ^^^ Int32.ofInt y).toInt
def zshl (x y : Int) : Int := (Int32.ofInt x <<< (Int32.ofInt y &&& 31)).toInt
def zshr (x y : Int) : Int := (Int32.ofInt x >>> (Int32.ofInt y &&& 31)).toInt
def zushr (x y : Int) : Int := ((Int32.ofInt x).toUInt32 >>> ((Int32.ofInt y).toUInt32 &&& Int32.toUInt32 31)).toInt32.toInt
def zlan (x y : Int) : Int := (Int64.ofInt x &&& Int64.ofInt y).toInt
def zlor (x y : Int) : Int := (Int64.ofInt x ||| Int64.ofInt y).toInt
def zlsl (x y : Int) : Int := (Int64.ofInt x <<< ((Int32.ofInt y).toInt64 &&& 63)).toInt
def zlsr (x y : Int) : Int := (Int64.ofInt x >>> ((Int32.ofInt y).toInt64 &&& 63)).toInt
def zi2b (x : Int) : Int := (Int32.ofInt x).toInt8.toInt32.toInt
def zi2c (x : Int) : Int := ((Int32.ofInt x).toUInt32 % 65536).toInt32.toInt
def zcnd (c : ClassFile.Cond) (x y : Int) : Bool := match c with
  | .eq => decide (x = y)
  | .ne => decide (¬ x = y)
  | .lt => decide (x < y)
  | .ge => decide (y ≤ x)
  | .gt => decide (y < x)
  | .le => decide (x ≤ y)
def zst1 (ls : List zV) (i : Nat) (v : zV) : List zV := (if (ls.getD (i - 1) (9, 0)).1 = 1 ∧ i ≠ 0 then ls.set (i - 1) (9, 0) else ls).set i v
def zst2 (ls : List zV) (i : Nat) (v : zV) : List zV := (zst1 ls i v).set (i + 1) (9, 0)
def zI {α : Type} (st : List zV) (k : Int → List zV → Option α) : Option α := match st with
  | [] => none
  | v :: r => if v.1 = 0 then k v.2 r else none
def zL {α : Type} (st : List zV) (k : Int → List zV → Option α) : Option α := match st with
  | [] => none
  | v :: r => if v.1 = 1 then k v.2 r else none
/-- a reference to a cell of the machine's own, and one to a cell that was there before -/
def zR {α : Type} (st : List zV) (k : Nat → List zV → Option α) (o : Nat → List zV → Option α) : Option α := match st with
  | [] => none
  | v :: r => if v.1 = 2 ∧ 0 ≤ v.2 then k v.2.toNat r else if v.1 = 3 ∧ 0 ≤ v.2 then o v.2.toNat r else none
def zII {α : Type} (st : List zV) (k : Int → Int → List zV → Option α) : Option α := zI st (fun y r => zI r (fun x r => k x y r))
def zLL {α : Type} (st : List zV) (k : Int → Int → List zV → Option α) : Option α := zL st (fun y r => zL r (fun x r => k x y r))
def zno {α : Type} : Nat → List zV → Option α := fun _ _ => none
def zstep_0 (m : List Int) : Int := 0
/-- the arrays that were there before: the script, the text's bytes, the two rows of steps -/
def zown : List Int := "room by lamp door at blows reach open heir tall bubble film size thins bursts hue breath second drift deeds if or and not all min max".toList.map (fun c => (c.toNat : Int))
def zol (X : zX) (k : Nat) : Nat := if k = 0 then X.1 else if k = 2 then 133 else 4
def zom (X : zX) (k j : Nat) : Int := if k = 0 then X.2 j else if k = 2 then zown.getD j 0 else if k = 3 then [0, 1, 0, -1].getD j 0 else [-1, 0, 1, 0].getD j 0
def zlod (X : zX) (pc : Nat) (t1 t2 : Nat) (lg : Nat) (outs : Nat → Bool) (ls st : List zV) (S : zS) : Option (Nat × List zV × List zV × zS) :=
  zI st (fun i r => zR r (fun q r => match S.1[q]? with
      | some t => if (t.1 = t1 ∨ t.1 = t2) ∧ 0 ≤ i ∧ i < t.2 then some (pc + 1, ls, (lg, S.2.2 q i.toNat) :: r, S) else none
      | none => none)
    (fun k r => if outs k = true ∧ 0 ≤ i ∧ i < zol X k then some (pc + 1, ls, (0, zom X k i.toNat) :: r, S) else none))
def zsto (pc t : Nat) (i x : Int) (ls r : List zV) (S : zS) : Option (Nat × List zV × List zV × zS) :=
  zR r (fun q r => match S.1[q]? with
      | some u => if u.1 = t ∧ 0 ≤ i ∧ i < u.2 then some (pc + 1, ls, r, S.1, S.2.1, zup S.2.2 q i.toNat x) else none
      | none => none) zno
def znew (ls st : List zV) (pc : Nat) (t : zT) (ok : Bool) (S : zS) : Option (Nat × List zV × List zV × zS) :=
  if ok then some (pc, ls, (2, (S.1.length : Int)) :: st, S.1 ++ [t], zclr S.2.1 S.1.length (-1), zclr S.2.2 S.1.length 0) else none
/-- every reference is one of the first n cells -/
def zvok (n : Nat) (l : List zV) : Bool := l.all (fun v => !(v.1 == 2) || decide (v.2 < n))
def zrok (n : Nat) (ty : List zT) (w : Nat → Nat) (rf : zF) : Bool := (List.range ty.length).all (fun a => match ty[a]? with
  | some t => if t.1 = 0 ∨ t.1 = 5 then (List.range (if t.1 = 0 then w t.2 else t.2)).all (fun k => decide (rf a k < n)) else true
  | none => true)
def zcat (l : List zV) : Nat := (l.map (fun v => if v.1 = 1 then 2 else 1)).sum
def zloc : List zV → List zV
  | [] => []
  | v :: r => if v.1 = 1 then v :: (9, 0) :: zloc r else v :: zloc r
def zpad (n : Nat) (l : List zV) : List zV := l ++ List.replicate (n - l.length) (9, 0)
