/-- one step that neither calls nor returns. nF: how many fields a class has -/
def zstep (nF : Nat → Nat) (X : zX) (i : Instr) (pc len a b c : Nat) (ls st : List zV) (S : zS) : Option (Nat × List zV × List zV × zS) :=
  match i with
  | .iconst n => if -1 ≤ n ∧ n ≤ 5 ∧ len = 1 then some (pc + 1, ls, (0, n) :: st, S) else none
  | .bipush n => if -128 ≤ n ∧ n < 128 ∧ len = 2 then some (pc + 2, ls, (0, n) :: st, S) else none
  | .sipush n => if -32768 ≤ n ∧ n < 32768 ∧ len = 3 then some (pc + 3, ls, (0, n) :: st, S) else none
  | .lconst n => if len = 1 then some (pc + 1, ls, (1, (n.val : Int)) :: st, S) else none
  | .ldc _ => if len = 2 then (if c = 0 then some (pc + 2, ls, (0, (a : Int)) :: st, S) else if c = 1 then some (pc + 2, ls, (3, 1) :: st, S) else none) else none
  | .ldc_w _ => if len = 3 ∧ c = 0 then some (pc + 3, ls, (0, (a : Int)) :: st, S) else none
  | .ldc2_w _ => if len = 3 then some (pc + 3, ls, (1, if b = 0 then (a : Int) else -(a : Int)) :: st, S) else none
  | .iload k => if len = 2 ∧ (ls.getD k (9, 0)).1 = 0 then some (pc + 2, ls, ls.getD k (9, 0) :: st, S) else none
  | .iload_n k => if len = 1 ∧ (ls.getD k.val (9, 0)).1 = 0 then some (pc + 1, ls, ls.getD k.val (9, 0) :: st, S) else none
  | .lload k => if len = 2 ∧ (ls.getD k (9, 0)).1 = 1 then some (pc + 2, ls, ls.getD k (9, 0) :: st, S) else none
  | .lload_n k => if len = 1 ∧ (ls.getD k.val (9, 0)).1 = 1 then some (pc + 1, ls, ls.getD k.val (9, 0) :: st, S) else none
  | .aload k => if len = 2 ∧ ((ls.getD k (9, 0)).1 = 2 ∨ (ls.getD k (9, 0)).1 = 3) then some (pc + 2, ls, ls.getD k (9, 0) :: st, S) else none
  | .aload_n k => if len = 1 ∧ ((ls.getD k.val (9, 0)).1 = 2 ∨ (ls.getD k.val (9, 0)).1 = 3) then some (pc + 1, ls, ls.getD k.val (9, 0) :: st, S) else none
  | .istore k => if len = 2 ∧ k < ls.length then zI st (fun x r => some (pc + 2, zst1 ls k (0, x), r, S)) else none
  | .istore_n k => if len = 1 ∧ k.val < ls.length then zI st (fun x r => some (pc + 1, zst1 ls k.val (0, x), r, S)) else none
  | .lstore k => if len = 2 ∧ k + 1 < ls.length then zL st (fun x r => some (pc + 2, zst2 ls k (1, x), r, S)) else none
  | .lstore_n k => if len = 1 ∧ k.val + 1 < ls.length then zL st (fun x r => some (pc + 1, zst2 ls k.val (1, x), r, S)) else none
  | .astore k => if len = 2 ∧ k < ls.length then zR st (fun q r => some (pc + 2, zst1 ls k (2, (q : Int)), r, S)) zno else none
  | .astore_n k => if len = 1 ∧ k.val < ls.length then zR st (fun q r => some (pc + 1, zst1 ls k.val (2, (q : Int)), r, S)) zno else none
  | .iinc k n => if len = 3 ∧ k < ls.length ∧ (ls.getD k (9, 0)).1 = 0 then some (pc + 3, zst1 ls k (0, (ls.getD k (9, 0)).2 + n), st, S) else none
  | .iadd => zII st (fun x y r => some (pc + 1, ls, (0, x + y) :: r, S))
  | .isub => zII st (fun x y r => some (pc + 1, ls, (0, x - y) :: r, S))
  | .imul => zII st (fun x y r => some (pc + 1, ls, (0, x * y) :: r, S))
  | .iand => zII st (fun x y r => some (pc + 1, ls, (0, zand x y) :: r, S))
  | .ior => zII st (fun x y r => some (pc + 1, ls, (0, zor x y) :: r, S))
  | .ixor => zII st (fun x y r => some (pc + 1, ls, (0, zxor x y) :: r, S))
  | .ishl => zII st (fun x y r => some (pc + 1, ls, (0, zshl x y) :: r, S))
  | .ishr => zII st (fun x y r => some (pc + 1, ls, (0, zshr x y) :: r, S))
  | .iushr => zII st (fun x y r => some (pc + 1, ls, (0, zushr x y) :: r, S))
  | .idiv => zII st (fun x y r => if inI x ∧ inI y ∧ y ≠ 0 then some (pc + 1, ls, (0, x.tdiv y) :: r, S) else none)
  | .irem => zII st (fun x y r => if inI x ∧ inI y ∧ y ≠ 0 then some (pc + 1, ls, (0, x.tmod y) :: r, S) else none)
  | .ladd => zLL st (fun x y r => some (pc + 1, ls, (1, x + y) :: r, S))
  | .lsub => zLL st (fun x y r => some (pc + 1, ls, (1, x - y) :: r, S))
  | .lmul => zLL st (fun x y r => some (pc + 1, ls, (1, x * y) :: r, S))
  | .land => zLL st (fun x y r => some (pc + 1, ls, (1, zlan x y) :: r, S))
  | .lor => zLL st (fun x y r => some (pc + 1, ls, (1, zlor x y) :: r, S))
  | .ldiv => zLL st (fun x y r => if inL x ∧ inL y ∧ y ≠ 0 then some (pc + 1, ls, (1, x.tdiv y) :: r, S) else none)
  | .lrem => zLL st (fun x y r => if inL x ∧ inL y ∧ y ≠ 0 then some (pc + 1, ls, (1, x.tmod y) :: r, S) else none)
  | .lshl => zI st (fun y r => zL r (fun x r => some (pc + 1, ls, (1, zlsl x y) :: r, S)))
  | .lshr => zI st (fun y r => zL r (fun x r => some (pc + 1, ls, (1, zlsr x y) :: r, S)))
  | .lcmp => zLL st (fun x y r => if inL x ∧ inL y then some (pc + 1, ls, (0, if x < y then -1 else if x = y then 0 else 1) :: r, S) else none)
  | .i2l => zI st (fun x r => if inI x then some (pc + 1, ls, (1, x) :: r, S) else none)
  | .l2i => zL st (fun x r => some (pc + 1, ls, (0, x) :: r, S))
  | .i2b => zI st (fun x r => some (pc + 1, ls, (0, zi2b x) :: r, S))
  | .i2c => zI st (fun x r => some (pc + 1, ls, (0, zi2c x) :: r, S))
  | .dup => match st with
    | v :: r => if v.1 = 0 ∨ v.1 = 2 ∨ v.1 = 3 then some (pc + 1, ls, v :: v :: r, S) else none
    | [] => none
  | .dup2 => match st with
    | v :: w :: r => if (v.1 = 0 ∨ v.1 = 2) ∧ (w.1 = 0 ∨ w.1 = 2) then some (pc + 1, ls, v :: w :: v :: w :: r, S) else none
    | _ => none
  | .pop => match st with
    | v :: r => if v.1 = 0 ∨ v.1 = 2 ∨ v.1 = 3 then some (pc + 1, ls, r, S) else none
    | [] => none
  | .ifCond k _ => zI st (fun x r => if inI x then some (if zcnd k x 0 then a else pc + 3, ls, r, S) else none)
  | .if_icmp k _ => zII st (fun x y r => if inI x ∧ inI y then some (if zcnd k x y then a else pc + 3, ls, r, S) else none)
  | .ifnull _ => zR st (fun _ r => some (pc + 3, ls, r, S)) zno
  | .goto _ => some (a, ls, st, S)
  | .tableswitch dflt lo hi offs => zI st (fun x r => if inI x then (if x < lo ∨ hi < x then (if 0 ≤ (pc : Int) + dflt then some (((pc : Int) + dflt).toNat, ls, r, S) else none) else match offs[(x - lo).toNat]? with
      | some off => if 0 ≤ (pc : Int) + off then some (((pc : Int) + off).toNat, ls, r, S) else none
      | none => none) else none)
  | .lookupswitch dflt ps => zI st (fun x r => if inI x ∧ (ps.toList.zip (ps.toList.drop 1)).all (fun (a, next) => a.1 < next.1) = true ∧ 0 ≤ (pc : Int) + Op.lookupswitch.offset ps.toList dflt x then some (((pc : Int) + Op.lookupswitch.offset ps.toList dflt x).toNat, ls, r, S) else none)
  | .getfield _ => zR st (fun q r => match S.1[q]? with
      | some t => if t = (0, a) ∧ c ≤ 3 then some (pc + 3, ls, (if c = 1 then (1, S.2.2 q b) else if c = 2 then (2, S.2.1 q b) else (0, S.2.2 q b)) :: r, S) else none
      | none => none)
      (fun k r => if k = 1 then (if c = 8 then some (pc + 3, ls, (3, 2) :: r, S) else if c = 9 then some (pc + 3, ls, (0, 0) :: r, S) else none) else none)
  | .putfield _ => (if c = 0 ∨ c = 10 then zI st (fun x r => zR r (fun q r => match S.1[q]? with
        | some t => if t = (0, a) then some (pc + 3, ls, r, S.1, S.2.1, zup S.2.2 q b x) else none
        | none => none) zno)
      else if c = 3 ∨ c = 13 then zI st (fun x r => if x = 0 ∨ x = 1 then zR r (fun q r => match S.1[q]? with
        | some t => if t = (0, a) then some (pc + 3, ls, r, S.1, S.2.1, zup S.2.2 q b x) else none
        | none => none) zno else none)
      else if c = 1 ∨ c = 11 then zL st (fun x r => zR r (fun q r => match S.1[q]? with
        | some t => if t = (0, a) then some (pc + 3, ls, r, S.1, S.2.1, zup S.2.2 q b x) else none
        | none => none) zno)
      else if c = 2 ∨ c = 12 then zR st (fun v r => zR r (fun q r => match S.1[q]? with
        | some t => if t = (0, a) then some (pc + 3, ls, r, S.1, zup S.2.1 q b (v : Int), S.2.2) else none
        | none => none) zno) zno
      else none)
  | .getstatic _ => if c = 2 then some (pc + 3, ls, (3, (a : Int)) :: st, S) else if c = 0 then some (pc + 3, ls, (0, 1) :: st, S) else none
  | .iaload => zlod X pc 1 1 0 (fun k => k == 0 || k == 3 || k == 4) ls st S
  | .laload => zlod X pc 2 2 1 (fun _ => false) ls st S
  | .baload => zlod X pc 3 4 0 (fun k => k == 2) ls st S
  | .aaload => zI st (fun i r => zR r (fun q r => match S.1[q]? with
      | some t => if t.1 = 5 ∧ 0 ≤ i ∧ i < t.2 then some (pc + 1, ls, (2, S.2.1 q i.toNat) :: r, S) else none
      | none => none) zno)
  | .iastore => zI st (fun x r => zI r (fun i r => zsto pc 1 i x ls r S))
  | .lastore => zL st (fun x r => zI r (fun i r => zsto pc 2 i x ls r S))
  | .bastore => zI st (fun x r => zI r (fun i r => if a = 3 then (if -128 ≤ x ∧ x < 128 then zsto pc 3 i x ls r S else none) else if x = 0 ∨ x = 1 then zsto pc 4 i x ls r S else none))
  | .aastore => zR st (fun v r => zI r (fun i r => zR r (fun q r => match S.1[q]?, S.1[v]? with
      | some t, some u => if t.1 = 5 ∧ u = (0, a) ∧ 0 ≤ i ∧ i < t.2 then some (pc + 1, ls, r, S.1, zup S.2.1 q i.toNat (v : Int), S.2.2) else none
      | _, _ => none) zno)) zno
  | .arraylength => zR st (fun q r => match S.1[q]? with
      | some t => if 1 ≤ t.1 ∧ t.1 ≤ 5 then some (pc + 1, ls, (0, (t.2 : Int)) :: r, S) else none
      | none => none) (fun k r => if k = 0 ∨ k = 2 then some (pc + 1, ls, (0, (zol X k : Int)) :: r, S) else none)
  | .newarray ty => zI st (fun x r => if 0 ≤ x ∧ x < 100000 then znew ls r (pc + 2) (a, x.toNat) ((match ty with | .int => a == 1 | .long => a == 2 | .byte => a == 3 | .boolean => a == 4 | _ => false) && zvok S.1.length ls && zvok S.1.length r && zrok S.1.length S.1 nF S.2.1) S else none)
  | .anewarray _ => zI st (fun x r => if 0 ≤ x ∧ x < 100000 then znew ls r (pc + 3) (5, x.toNat) (zvok S.1.length ls && zvok S.1.length r && zrok S.1.length S.1 nF S.2.1) S else none)
  | .new _ => znew ls st (pc + 3) (0, a) (zvok S.1.length ls && zvok S.1.length st && zrok S.1.length S.1 nF S.2.1) S
  | .invokespecial _ => zR st (fun _ r => if a = 1 ∧ zcat r ≤ 8 then some (pc + 3, ls, r, S) else none) zno
  | .invokestatic _ => zII st (fun dp n r => zR r (fun q r => zI r (fun sp r => zR r (fun p r => match S.1[p]?, S.1[q]? with
      | some t, some u => if a = 2 ∧ t.1 = 1 ∧ u.1 = 1 ∧ 0 ≤ sp ∧ 0 ≤ dp ∧ 0 ≤ n ∧ n < 100000 ∧ sp < 100000 ∧ dp < 100000 ∧ sp + n ≤ t.2 ∧ dp + n ≤ u.2 ∧ zcat r ≤ 8 then
          some (pc + 3, ls, r, S.1, S.2.1, fun b k => if b = q ∧ dp.toNat ≤ k ∧ k < dp.toNat + n.toNat then S.2.2 p (sp.toNat + (k - dp.toNat)) else S.2.2 b k) else none
      | _, _ => none) zno)) zno)
  | _ => none
/-- a return -/
def zrt (i : Instr) (len b : Nat) (st : List zV) (S : zS) : Option (Option zV × zS) := match i with
  | .ireturn => zI st (fun x r => if r = [] ∧ len = 1 ∧ (b = 0 ∨ (b = 3 ∧ (x = 0 ∨ x = 1)) ∨ (b = 5 ∧ 0 ≤ x ∧ x < 65536) ∨ (b = 6 ∧ -128 ≤ x ∧ x < 128)) then some (some (0, x), S) else none)
  | .lreturn => zL st (fun x r => if r = [] ∧ len = 1 then some (some (1, x), S) else none)
  | .areturn => zR st (fun q r => if r = [] ∧ len = 1 then some (some (2, (q : Int)), S) else none) zno
  | .return_ => if st = [] ∧ len = 1 then some (none, S) else none
  | _ => none
/-- the receiver is an object of that class (99: the text) -/
def zrcv (as : List zV) (ty : List zT) (ci : Nat) : Bool := match as with
  | [] => false
  | v :: _ => (decide (v.1 = 2 ∧ 0 ≤ v.2) && ty[v.2.toNat]? == some (0, ci)) || (v == (3, 1) && ci == 99)
/-- a method of the table, by fuel n and by how deep calls may go d. cod: the code; inf: of a method its class, whether it has a receiver, how many words its locals have -/
def zexec (cod : Nat → Nat → Option zE) (inf : Nat → Nat × Nat × Nat) (nF : Nat → Nat) (X : zX) : Nat → Nat → Nat → Nat → List zV → List zV → zS → Option (Option zV × zS)
  | 0, _, _, _, _, _, _ => none
  | n + 1, d, M, pc, ls, st, S => match cod M pc with
    | none => none
    | some (i, len, a, b, c) =>
      if c = 101 then
        (match d with
        | 0 => none
        | d' + 1 =>
          if a ≤ st.length ∧ zcat (st.drop a) ≤ 8 ∧ len = 3 ∧ (zloc (st.take a).reverse).length ≤ (inf b).2.2 then
            (if (inf b).2.1 = 0 ∨ zrcv (st.take a).reverse S.1 (inf b).1 = true then
              match zexec cod inf nF X n d' b 0 (zpad (inf b).2.2 (zloc (st.take a).reverse)) [] S with
              | none => none
              | some (r, S') => if S'.1.length = S.1.length ∨ (zvok S.1.length ls = true ∧ zvok S.1.length (st.drop a) = true) then zexec cod inf nF X n d M (pc + 3) ls (r.toList ++ st.drop a) S' else none
            else none)
          else none)
      else if c = 102 then
        zrt i len b st S
      else match zstep nF X i pc len a b c ls st S with
        | none => none
        | some (pc', ls', st', S') => zexec cod inf nF X n d M pc' ls' st' S'
