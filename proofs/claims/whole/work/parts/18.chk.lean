def zoi : List (Nat × Nat × Nat) := [(10, 1, 26), (7, 3, 34), (2, 3, 52), (8, 5, 58), (3, 3, 154), (4, 3, 160), (5, 3, 292), (9, 3, 371), (6, 3, 384), (0, 1, 437), (1, 3, 457), (11, 1, 1299)]
/-! EVERY ENTRY OF THE CODE TABLE IS AS THE STATEMENT'S CODE AND TABLES HAVE IT -/
def zfin (on idx a b c f : Nat) : Bool := zFL.any (fun q => q.1 == on && q.2.1 == idx && q.2.2.1 == a && q.2.2.2.1 == b && q.2.2.2.2.1 == c && (f == 2 || q.2.2.2.2.2.1 == f))
def zmin (on idx b kind a : Nat) : Bool := zML.any (fun q => q.1 == on && q.2.1 == idx && q.2.2.1 == b && q.2.2.2.1 == kind && q.2.2.2.2.1 == a)
def zrc (t : Option FieldType) : Nat := match t with
  | none => 4
  | some .int => 0
  | some .long => 1
  | some .boolean => 3
  | some .char => 5
  | some .byte => 6
  | some (.object _) => 2
  | _ => 9
/-- M's class by number, whether M is a constructor, M's answer -/
def zce (on ini rc pc : Nat) (e : zE) : Bool := match e with
  | (i, len, a, b, c) =>
    if c = 101 then (match i with
      | .invokevirtual idx => zmin on idx b 0 a && decide (b < 330)
      | .invokestatic idx => zmin on idx b 1 a && decide (b < 330)
      | .invokespecial idx => (zmin on idx b 2 a || zmin on idx b 3 a) && decide (b < 330)
      | _ => false)
    else if c = 102 then (match i with
      | .ireturn => b == rc && (b == 0 || b == 3 || b == 5 || b == 6)
      | .lreturn => rc == 1
      | .areturn => rc == 2
      | .return_ => rc == 4
      | _ => false)
    else match i with
      | .ldc idx => if c = 0 then zKI.any (fun q => q.1 == on && q.2.1 == idx && q.2.2.1 == a) else on == 8 && idx == 46
      | .ldc_w idx => zKI.any (fun q => q.1 == on && q.2.1 == idx && q.2.2.1 == a)
      | .ldc2_w idx => zKL.any (fun q => q.1 == on && q.2.1 == idx && q.2.2.1 == a && q.2.2.2.1 == b)
      | .ifCond _ off => decide ((pc : Int) + off = (a : Int)) && len == 3
      | .if_icmp _ off => decide ((pc : Int) + off = (a : Int)) && len == 3
      | .goto off => decide ((pc : Int) + off = (a : Int)) && len == 3
      | .ifnull _ => len == 3
      | .getfield idx => len == 3 && (if c = 8 then idx == 9 && on == 15 else if c = 9 then idx == 15 && on == 15 else zfin on idx a b c 2)
      | .putfield idx => len == 3 && (if c < 10 then zfin on idx a b c 0 else zfin on idx a b (c - 10) 1 && ini == 1 && on == a && decide (c < 14))
      | .getstatic idx => len == 3 && ((c == 2 && a == 3 && on == 3 && idx == 91) || (c == 2 && a == 4 && on == 3 && idx == 94) || (c == 2 && a == 5 && on == 15 && idx == 1053) || (c == 0 && on == 15 && idx == 38))
      | .new idx => len == 3 && zCL.any (fun q => q.1 == on && q.2.1 == idx && q.2.2.1 == a)
      | .newarray _ => len == 2
      | .anewarray idx => len == 3 && on == 0 && idx == 9
      | .aastore => len == 1 && a == 5
      | .invokespecial idx => len == 3 && zoi.any (fun q => q.1 == on && q.2.1 == idx)
      | .invokestatic idx => len == 3 && on == 5 && idx == 63
      | .iadd | .isub | .imul | .iand | .ior | .ixor | .ishl | .ishr | .iushr | .idiv | .irem | .ladd | .lsub | .lmul | .land | .lor | .ldiv | .lrem | .lshl | .lshr | .lcmp | .i2l | .l2i | .i2b | .i2c | .dup | .dup2 | .pop | .iaload | .laload | .baload | .aaload | .iastore | .lastore | .bastore | .arraylength => len == 1
      | _ => true
theorem zoi_ok : zoi.all (fun q => zwp q.2.2 (.methodLink (zcn q.1) q.2.1 Lib.objectInit)) = true := by decide +kernel
theorem zw_col : Cond.fieldLink "SoapDeeds$Plan" 91 "SoapDeeds$Plan" "COLUMN_STEP" "[I" ∈ zTs := zwp_ok (k := 882) (by decide +kernel)
theorem zw_row : Cond.fieldLink "SoapDeeds$Plan" 94 "SoapDeeds$Plan" "ROW_STEP" "[I" ∈ zTs := zwp_ok (k := 884) (by decide +kernel)
theorem zw_cmp : Cond.fieldLink "java/lang/String" 38 "java/lang/String" "COMPACT_STRINGS" "Z" ∈ zTs := zwp_ok (k := 68) (by decide +kernel)
theorem zw_fmt : Cond.fieldLink "java/lang/String" 1053 "jdk/internal/util/Preconditions" "SIOOBE_FORMATTER" "Ljava/util/function/BiFunction;" ∈ zTs := zwp_ok (k := 84) (by decide +kernel)
theorem zw_val : Cond.fieldLink "java/lang/String" 9 "java/lang/String" "value" "[B" ∈ zTs := zwp_ok (k := 2058) (by decide +kernel)
theorem zw_cod : Cond.fieldLink "java/lang/String" 15 "java/lang/String" "coder" "B" ∈ zTs := zwp_ok (k := 2059) (by decide +kernel)
theorem zw_scn : Cond.classLink "SoapDeeds$History" 9 "SoapDeeds$Scene" ∈ zTs := zwp_ok (k := 438) (by decide +kernel)
theorem zw_acp : Cond.methodLink "SoapDeeds$Scene" 63 arraycopyName ∈ zTs := zwp_ok (k := 911) (by decide +kernel)
theorem zg_1 : Cond.instanceMethod Lib.objectInit ∈ zTs := zwp_ok (k := 27) (by decide +kernel)
theorem zg_2 : Cond.code Lib.objectInit ⟨#[0xb1]⟩ 1 none ∈ zTs := zwp_ok (k := 28) (by decide +kernel)
theorem zg_3 : Cond.native arraycopyName ∈ zTs := zwp_ok (k := 913) (by decide +kernel)
theorem zg_4 : Cond.static arraycopyName ∈ zTs := zwp_ok (k := 912) (by decide +kernel)
theorem zg_5 : Cond.initialized "java/lang/System" ∈ zTs := zwp_ok (k := 19) (by decide +kernel)
theorem zg_6 : Cond.arrayClass .int ∈ zTs := zwp_ok (k := 148) (by decide +kernel)
theorem zg_7 : Cond.arrayClass .long ∈ zTs := zwp_ok (k := 1541) (by decide +kernel)
theorem zg_8 : Cond.arrayClass .byte ∈ zTs := zwp_ok (k := 46) (by decide +kernel)
theorem zg_9 : Cond.arrayClass .boolean ∈ zTs := zwp_ok (k := 1542) (by decide +kernel)
theorem zGen_ok : zGen zTs := ⟨zg_1, zg_2, zg_3, zg_4, zg_5, zg_6, zg_7, zg_8, zg_9⟩
theorem zu_0 : (u_ws "SoapDeeds$History" zT_0 3).all (fun w => decide (w ∈ tables_1) && goodWord w) = true := by decide +kernel
theorem zp_0 : (List.range 3).all (fun k => decide (parseFieldDescriptor (zT_0 k).2.2.1 = some (zfty zcl 0 k)) && decide (zftc (zfty zcl 0 k) ≠ 7)) = true := by decide +kernel
theorem zn_0 : ∀ a, a < 3 → ∀ b, b < 3 → a ≠ b → (zT_0 a).2.1 ≠ (zT_0 b).2.1 := by decide +kernel
theorem zi_0 : Cond.instantiable "SoapDeeds$History" 3 ∈ zTs := zwp_ok (k := 433) (by decide +kernel)
theorem zj_0 : Cond.initialized "SoapDeeds$History" ∈ zTs := zwp_ok (k := 15) (by decide +kernel)
theorem zu_1 : (u_ws "SoapDeeds$Images" zT_1 4).all (fun w => decide (w ∈ tables_1) && goodWord w) = true := by decide +kernel
theorem zp_1 : (List.range 4).all (fun k => decide (parseFieldDescriptor (zT_1 k).2.2.1 = some (zfty zcl 1 k)) && decide (zftc (zfty zcl 1 k) ≠ 7)) = true := by decide +kernel
theorem zn_1 : ∀ a, a < 4 → ∀ b, b < 4 → a ≠ b → (zT_1 a).2.1 ≠ (zT_1 b).2.1 := by decide +kernel
theorem zi_1 : Cond.instantiable "SoapDeeds$Images" 4 ∈ zTs := zwp_ok (k := 453) (by decide +kernel)
theorem zj_1 : Cond.initialized "SoapDeeds$Images" ∈ zTs := zwp_ok (k := 16) (by decide +kernel)
theorem zu_2 : (u_ws "SoapDeeds$Parser" zT_2 5).all (fun w => decide (w ∈ tables_1) && goodWord w) = true := by decide +kernel
theorem zp_2 : (List.range 5).all (fun k => decide (parseFieldDescriptor (zT_2 k).2.2.1 = some (zfty zcl 2 k)) && decide (zftc (zfty zcl 2 k) ≠ 7)) = true := by decide +kernel
theorem zn_2 : ∀ a, a < 5 → ∀ b, b < 5 → a ≠ b → (zT_2 a).2.1 ≠ (zT_2 b).2.1 := by decide +kernel
theorem zi_2 : Cond.instantiable "SoapDeeds$Parser" 5 ∈ zTs := zwp_ok (k := 48) (by decide +kernel)
theorem zj_2 : Cond.initialized "SoapDeeds$Parser" ∈ zTs := zwp_ok (k := 3) (by decide +kernel)
theorem zu_3 : (u_ws "SoapDeeds$Plan" zT_3 15).all (fun w => decide (w ∈ tables_1) && goodWord w) = true := by decide +kernel
theorem zp_3 : (List.range 15).all (fun k => decide (parseFieldDescriptor (zT_3 k).2.2.1 = some (zfty zcl 3 k)) && decide (zftc (zfty zcl 3 k) ≠ 7)) = true := by decide +kernel
theorem zn_3 : ∀ a, a < 15 → ∀ b, b < 15 → a ≠ b → (zT_3 a).2.1 ≠ (zT_3 b).2.1 := by decide +kernel
theorem zi_3 : Cond.instantiable "SoapDeeds$Plan" 15 ∈ zTs := zwp_ok (k := 150) (by decide +kernel)
theorem zj_3 : Cond.initialized "SoapDeeds$Plan" ∈ zTs := zwp_ok (k := 9) (by decide +kernel)
theorem zu_4 : (u_ws "SoapDeeds$Rules" zT_4 7).all (fun w => decide (w ∈ tables_1) && goodWord w) = true := by decide +kernel
theorem zp_4 : (List.range 7).all (fun k => decide (parseFieldDescriptor (zT_4 k).2.2.1 = some (zfty zcl 4 k)) && decide (zftc (zfty zcl 4 k) ≠ 7)) = true := by decide +kernel
theorem zn_4 : ∀ a, a < 7 → ∀ b, b < 7 → a ≠ b → (zT_4 a).2.1 ≠ (zT_4 b).2.1 := by decide +kernel
theorem zi_4 : Cond.instantiable "SoapDeeds$Rules" 7 ∈ zTs := zwp_ok (k := 156) (by decide +kernel)
theorem zj_4 : Cond.initialized "SoapDeeds$Rules" ∈ zTs := zwp_ok (k := 10) (by decide +kernel)
theorem zu_5 : (u_ws "SoapDeeds$Scene" zT_5 12).all (fun w => decide (w ∈ tables_1) && goodWord w) = true := by decide +kernel
theorem zp_5 : (List.range 12).all (fun k => decide (parseFieldDescriptor (zT_5 k).2.2.1 = some (zfty zcl 5 k)) && decide (zftc (zfty zcl 5 k) ≠ 7)) = true := by decide +kernel
theorem zn_5 : ∀ a, a < 12 → ∀ b, b < 12 → a ≠ b → (zT_5 a).2.1 ≠ (zT_5 b).2.1 := by decide +kernel
theorem zi_5 : Cond.instantiable "SoapDeeds$Scene" 12 ∈ zTs := zwp_ok (k := 288) (by decide +kernel)
theorem zj_5 : Cond.initialized "SoapDeeds$Scene" ∈ zTs := zwp_ok (k := 12) (by decide +kernel)
theorem zu_6 : (u_ws "SoapDeeds$Seer" zT_6 12).all (fun w => decide (w ∈ tables_1) && goodWord w) = true := by decide +kernel
theorem zp_6 : (List.range 12).all (fun k => decide (parseFieldDescriptor (zT_6 k).2.2.1 = some (zfty zcl 6 k)) && decide (zftc (zfty zcl 6 k) ≠ 7)) = true := by decide +kernel
theorem zn_6 : ∀ a, a < 12 → ∀ b, b < 12 → a ≠ b → (zT_6 a).2.1 ≠ (zT_6 b).2.1 := by decide +kernel
theorem zi_6 : Cond.instantiable "SoapDeeds$Seer" 12 ∈ zTs := zwp_ok (k := 380) (by decide +kernel)
theorem zj_6 : Cond.initialized "SoapDeeds$Seer" ∈ zTs := zwp_ok (k := 14) (by decide +kernel)
theorem zu_7 : (u_ws "SoapDeeds$Tape" zT_7 2).all (fun w => decide (w ∈ tables_1) && goodWord w) = true := by decide +kernel
theorem zp_7 : (List.range 2).all (fun k => decide (parseFieldDescriptor (zT_7 k).2.2.1 = some (zfty zcl 7 k)) && decide (zftc (zfty zcl 7 k) ≠ 7)) = true := by decide +kernel
theorem zn_7 : ∀ a, a < 2 → ∀ b, b < 2 → a ≠ b → (zT_7 a).2.1 ≠ (zT_7 b).2.1 := by decide +kernel
theorem zi_7 : Cond.instantiable "SoapDeeds$Tape" 2 ∈ zTs := zwp_ok (k := 30) (by decide +kernel)
theorem zj_7 : Cond.initialized "SoapDeeds$Tape" ∈ zTs := zwp_ok (k := 2) (by decide +kernel)
theorem zu_8 : (u_ws "SoapDeeds$Tokens" zT_8 11).all (fun w => decide (w ∈ tables_1) && goodWord w) = true := by decide +kernel
theorem zp_8 : (List.range 11).all (fun k => decide (parseFieldDescriptor (zT_8 k).2.2.1 = some (zfty zcl 8 k)) && decide (zftc (zfty zcl 8 k) ≠ 7)) = true := by decide +kernel
theorem zn_8 : ∀ a, a < 11 → ∀ b, b < 11 → a ≠ b → (zT_8 a).2.1 ≠ (zT_8 b).2.1 := by decide +kernel
theorem zi_8 : Cond.instantiable "SoapDeeds$Tokens" 11 ∈ zTs := zwp_ok (k := 54) (by decide +kernel)
theorem zj_8 : Cond.initialized "SoapDeeds$Tokens" ∈ zTs := zwp_ok (k := 4) (by decide +kernel)
theorem zu_9 : (u_ws "SoapDeeds$Works" zT_9 2).all (fun w => decide (w ∈ tables_1) && goodWord w) = true := by decide +kernel
theorem zp_9 : (List.range 2).all (fun k => decide (parseFieldDescriptor (zT_9 k).2.2.1 = some (zfty zcl 9 k)) && decide (zftc (zfty zcl 9 k) ≠ 7)) = true := by decide +kernel
theorem zn_9 : ∀ a, a < 2 → ∀ b, b < 2 → a ≠ b → (zT_9 a).2.1 ≠ (zT_9 b).2.1 := by decide +kernel
theorem zi_9 : Cond.instantiable "SoapDeeds$Works" 2 ∈ zTs := zwp_ok (k := 367) (by decide +kernel)
theorem zj_9 : Cond.initialized "SoapDeeds$Works" ∈ zTs := zwp_ok (k := 13) (by decide +kernel)
theorem zu_10 : (u_ws "SoapDeeds" zT_10 10).all (fun w => decide (w ∈ tables_1) && goodWord w) = true := by decide +kernel
theorem zp_10 : (List.range 10).all (fun k => decide (parseFieldDescriptor (zT_10 k).2.2.1 = some (zfty zcl 10 k)) && decide (zftc (zfty zcl 10 k) ≠ 7)) = true := by decide +kernel
theorem zn_10 : ∀ a, a < 10 → ∀ b, b < 10 → a ≠ b → (zT_10 a).2.1 ≠ (zT_10 b).2.1 := by decide +kernel
theorem zi_10 : Cond.instantiable "SoapDeeds" 10 ∈ zTs := zwp_ok (k := 22) (by decide +kernel)
theorem zj_10 : Cond.initialized "SoapDeeds" ∈ zTs := zwp_ok (k := 1) (by decide +kernel)
theorem zu_11 : (u_ws "SoapDeedsModel" zT_11 80).all (fun w => decide (w ∈ tables_1) && goodWord w) = true := by decide +kernel
theorem zp_11 : (List.range 80).all (fun k => decide (parseFieldDescriptor (zT_11 k).2.2.1 = some (zfty zcl 11 k)) && decide (zftc (zfty zcl 11 k) ≠ 7)) = true := by decide +kernel
theorem zn_11 : ∀ a, a < 80 → ∀ b, b < 80 → a ≠ b → (zT_11 a).2.1 ≠ (zT_11 b).2.1 := by decide +kernel
theorem zi_11 : Cond.instantiable "SoapDeedsModel" 80 ∈ zTs := zwp_ok (k := 1295) (by decide +kernel)
theorem zj_11 : Cond.initialized "SoapDeedsModel" ∈ zTs := zwp_ok (k := 17) (by decide +kernel)
theorem zClo_1 {C : String} {t : u_T} {n ci : Nat} (h1 : (u_ws C t n).all (fun w => decide (w ∈ tables_1) && goodWord w) = true) (h2 : (List.range n).all (fun k => decide (parseFieldDescriptor (t k).2.2.1 = some (zfty zcl ci k)) && decide (zftc (zfty zcl ci k) ≠ 7)) = true) : (∀ w ∈ u_ws C t n, w ∈ zTs) ∧ (∀ k, k < n → parseFieldDescriptor (t k).2.2.1 = some (zfty zcl ci k)) ∧ ∀ k, k < n → zftc (zfty zcl ci k) ≠ 7 := by
  refine ⟨fun w hw => ?_, fun k hk => ?_, fun k hk => ?_⟩
  · have := List.all_eq_true.mp h1 w hw
    rw [Bool.and_eq_true] at this
    exact zTs_t (of_decide_eq_true this.1) this.2
  · have := List.all_eq_true.mp h2 k (List.mem_range.mpr hk)
    rw [Bool.and_eq_true] at this
    exact of_decide_eq_true this.1
  · have := List.all_eq_true.mp h2 k (List.mem_range.mpr hk)
    rw [Bool.and_eq_true] at this
    exact of_decide_eq_true this.2
theorem zClo_ok : zClo zcl zTs := by
  intro ci q hq
  match ci, hq with
  | 0, hq => cases hq; exact ⟨(zClo_1 zu_0 zp_0).1, (zClo_1 (ci := 0) zu_0 zp_0).2.1, zn_0, zi_0, zj_0, (zClo_1 (ci := 0) zu_0 zp_0).2.2⟩
  | 1, hq => cases hq; exact ⟨(zClo_1 zu_1 zp_1).1, (zClo_1 (ci := 1) zu_1 zp_1).2.1, zn_1, zi_1, zj_1, (zClo_1 (ci := 1) zu_1 zp_1).2.2⟩
  | 2, hq => cases hq; exact ⟨(zClo_1 zu_2 zp_2).1, (zClo_1 (ci := 2) zu_2 zp_2).2.1, zn_2, zi_2, zj_2, (zClo_1 (ci := 2) zu_2 zp_2).2.2⟩
  | 3, hq => cases hq; exact ⟨(zClo_1 zu_3 zp_3).1, (zClo_1 (ci := 3) zu_3 zp_3).2.1, zn_3, zi_3, zj_3, (zClo_1 (ci := 3) zu_3 zp_3).2.2⟩
  | 4, hq => cases hq; exact ⟨(zClo_1 zu_4 zp_4).1, (zClo_1 (ci := 4) zu_4 zp_4).2.1, zn_4, zi_4, zj_4, (zClo_1 (ci := 4) zu_4 zp_4).2.2⟩
  | 5, hq => cases hq; exact ⟨(zClo_1 zu_5 zp_5).1, (zClo_1 (ci := 5) zu_5 zp_5).2.1, zn_5, zi_5, zj_5, (zClo_1 (ci := 5) zu_5 zp_5).2.2⟩
  | 6, hq => cases hq; exact ⟨(zClo_1 zu_6 zp_6).1, (zClo_1 (ci := 6) zu_6 zp_6).2.1, zn_6, zi_6, zj_6, (zClo_1 (ci := 6) zu_6 zp_6).2.2⟩
  | 7, hq => cases hq; exact ⟨(zClo_1 zu_7 zp_7).1, (zClo_1 (ci := 7) zu_7 zp_7).2.1, zn_7, zi_7, zj_7, (zClo_1 (ci := 7) zu_7 zp_7).2.2⟩
  | 8, hq => cases hq; exact ⟨(zClo_1 zu_8 zp_8).1, (zClo_1 (ci := 8) zu_8 zp_8).2.1, zn_8, zi_8, zj_8, (zClo_1 (ci := 8) zu_8 zp_8).2.2⟩
  | 9, hq => cases hq; exact ⟨(zClo_1 zu_9 zp_9).1, (zClo_1 (ci := 9) zu_9 zp_9).2.1, zn_9, zi_9, zj_9, (zClo_1 (ci := 9) zu_9 zp_9).2.2⟩
  | 10, hq => cases hq; exact ⟨(zClo_1 zu_10 zp_10).1, (zClo_1 (ci := 10) zu_10 zp_10).2.1, zn_10, zi_10, zj_10, (zClo_1 (ci := 10) zu_10 zp_10).2.2⟩
  | 11, hq => cases hq; exact ⟨(zClo_1 zu_11 zp_11).1, (zClo_1 (ci := 11) zu_11 zp_11).2.1, zn_11, zi_11, zj_11, (zClo_1 (ci := 11) zu_11 zp_11).2.2⟩
  | k + 12, hq => simp [zcl] at hq
