/-! WHAT THE TABLES SAY OF AN INSTRUCTION -/
/-- words that no instruction of its own asks for -/
def zGen (Ts : List Cond) : Prop := Cond.instanceMethod Lib.objectInit ∈ Ts ∧ Cond.code Lib.objectInit ⟨#[0xb1]⟩ 1 none ∈ Ts ∧ Cond.native arraycopyName ∈ Ts ∧ Cond.static arraycopyName ∈ Ts ∧ Cond.initialized "java/lang/System" ∈ Ts ∧ Cond.arrayClass .int ∈ Ts ∧ Cond.arrayClass .long ∈ Ts ∧ Cond.arrayClass .byte ∈ Ts ∧ Cond.arrayClass .boolean ∈ Ts
/-- an instruction that neither calls nor returns -/
def zEOK (cl : List vw_C) (Ts : List Cond) (own nm : String) (pc : Nat) (i : Instr) (len a b c : Nat) : Prop := match i with
  | .ldc idx => (c = 0 → Cond.constant own idx (Int32.ofInt (a : Int)) ∈ Ts) ∧ (c = 1 → own = "SoapDeeds$Tokens" ∧ idx = 46)
  | .ldc_w idx => Cond.constant own idx (Int32.ofInt (a : Int)) ∈ Ts
  | .ldc2_w idx => Cond.constantLong own idx (Int64.ofInt (if b = 0 then (a : Int) else -(a : Int))) ∈ Ts
  | .ifCond _ off => (pc : Int) + off = (a : Int) ∧ len = 3
  | .if_icmp _ off => (pc : Int) + off = (a : Int) ∧ len = 3
  | .goto off => (pc : Int) + off = (a : Int) ∧ len = 3
  | .ifnull _ => len = 3
  | .getfield idx => len = 3 ∧ (c = 8 → Cond.fieldLink own idx "java/lang/String" "value" "[B" ∈ Ts) ∧ (c = 9 → Cond.fieldLink own idx "java/lang/String" "coder" "B" ∈ Ts) ∧ (c ≤ 3 → ∃ cq, cl[a]? = some cq ∧ b < cq.2.2 ∧ Cond.fieldLink own idx (cq.2.1 b).1 (cq.2.1 b).2.1 (cq.2.1 b).2.2.1 ∈ Ts ∧ zftc (zfty cl a b) = c)
  | .putfield idx => len = 3 ∧ ∃ cq, cl[a]? = some cq ∧ b < cq.2.2 ∧ Cond.fieldLink own idx (cq.2.1 b).1 (cq.2.1 b).2.1 (cq.2.1 b).2.2.1 ∈ Ts ∧ zftc (zfty cl a b) = c % 10 ∧ (c < 10 → (cq.2.1 b).2.2.2 = false) ∧ (10 ≤ c → (cq.2.1 b).2.2.2 = true ∧ nm = "<init>" ∧ (cq.2.1 b).1 = own)
  | .getstatic idx => len = 3 ∧ ((c = 2 ∧ a = 3 ∧ Cond.fieldLink own idx "SoapDeeds$Plan" "COLUMN_STEP" "[I" ∈ Ts) ∨ (c = 2 ∧ a = 4 ∧ Cond.fieldLink own idx "SoapDeeds$Plan" "ROW_STEP" "[I" ∈ Ts) ∨ (c = 2 ∧ a = 5 ∧ Cond.fieldLink own idx "jdk/internal/util/Preconditions" "SIOOBE_FORMATTER" "Ljava/util/function/BiFunction;" ∈ Ts) ∨ (c = 0 ∧ Cond.fieldLink own idx "java/lang/String" "COMPACT_STRINGS" "Z" ∈ Ts))
  | .new idx => len = 3 ∧ ∃ cq, cl[a]? = some cq ∧ a < 100000 ∧ Cond.classLink own idx cq.1 ∈ Ts
  | .newarray _ => len = 2
  | .anewarray idx => len = 3 ∧ Cond.classLink own idx "SoapDeeds$Scene" ∈ Ts
  | .aastore => len = 1 ∧ ∃ cq, cl[a]? = some cq ∧ cq.1 = "SoapDeeds$Scene"
  | .invokespecial idx => len = 3 ∧ Cond.methodLink own idx Lib.objectInit ∈ Ts
  | .invokestatic idx => len = 3 ∧ Cond.methodLink own idx arraycopyName ∈ Ts
  | .iadd | .isub | .imul | .iand | .ior | .ixor | .ishl | .ishr | .iushr | .idiv | .irem | .ladd | .lsub | .lmul | .land | .lor | .ldiv | .lrem | .lshl | .lshr | .lcmp | .i2l | .l2i | .i2b | .i2c | .dup | .dup2 | .pop | .iaload | .laload | .baload | .aaload | .iastore | .lastore | .bastore | .arraylength => len = 1
  | _ => True
