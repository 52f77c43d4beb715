section ZR
variable {p : Program} {l : Launch} {e : Env} {R : Room} {s : State} {m : MethodId} {args : Array Value} {below : List Frame} {meth : Method} {c : Code} {Q : State → Prop} {D : va_G} {cl : List vw_C} {aC : Nat → ClassId} {ov : Nat → Value} {A : Nat → Prop} {X : zX} {k0 s0 : Nat} {ad0 : Nat → Nat} {cc : ByteArray} {own nm : String} {Ts : List Cond} {pc : Nat} {ls r : List zV} {S : zS}
theorem zs_iconst (C : zCx p R s m args meth c D cl aC ov A X cc own nm Ts) {n : Int}  (hd : decode cc pc = .ok (.iconst n, 1)) (K0 : zAt p l e R s m args below meth c Q D cl aC ov A k0 s0 ad0 (pc + 1) ls ((0, n) :: r) S) : zAt p l e R s m args below meth c Q D cl aC ov A k0 s0 ad0 pc ls r S := by
  intro ad L H locs cells slots h1 h2 hl hP hD hS h3 h4 h5
  exact lv_iconst C.1 C.2.1 hd rfl (K0 ad L H locs cells slots h1 h2 hl hP hD hS h3 h4 h5)
theorem zs_bipush (C : zCx p R s m args meth c D cl aC ov A X cc own nm Ts) {n : Int} (hn : -128 ≤ n ∧ n < 128) (hd : decode cc pc = .ok (.bipush n, 2)) (K0 : zAt p l e R s m args below meth c Q D cl aC ov A k0 s0 ad0 (pc + 2) ls ((0, n) :: r) S) : zAt p l e R s m args below meth c Q D cl aC ov A k0 s0 ad0 pc ls r S := by
  intro ad L H locs cells slots h1 h2 hl hP hD hS h3 h4 h5
  exact lv_bipush C.1 C.2.1 hd (by rw [← Int32.ofInt_toInt (Int8.ofInt n).toInt32, Int8.toInt_toInt32, Int8.toInt_ofInt_of_le (by omega) (by omega)]) (K0 ad L H locs cells slots h1 h2 hl hP hD hS h3 h4 h5)
theorem zs_sipush (C : zCx p R s m args meth c D cl aC ov A X cc own nm Ts) {n : Int} (hn : -32768 ≤ n ∧ n < 32768) (hd : decode cc pc = .ok (.sipush n, 3)) (K0 : zAt p l e R s m args below meth c Q D cl aC ov A k0 s0 ad0 (pc + 3) ls ((0, n) :: r) S) : zAt p l e R s m args below meth c Q D cl aC ov A k0 s0 ad0 pc ls r S := by
  intro ad L H locs cells slots h1 h2 hl hP hD hS h3 h4 h5
  exact lv_sipush C.1 C.2.1 hd (by rw [← Int32.ofInt_toInt (Int16.ofInt n).toInt32, Int16.toInt_toInt32, Int16.toInt_ofInt_of_le (by omega) (by omega)]) (K0 ad L H locs cells slots h1 h2 hl hP hD hS h3 h4 h5)
theorem zs_lconst (C : zCx p R s m args meth c D cl aC ov A X cc own nm Ts) {n : Fin 2}  (hd : decode cc pc = .ok (.lconst n, 1)) (K0 : zAt p l e R s m args below meth c Q D cl aC ov A k0 s0 ad0 (pc + 1) ls ((1, (n.val : Int)) :: r) S) : zAt p l e R s m args below meth c Q D cl aC ov A k0 s0 ad0 pc ls r S := by
  intro ad L H locs cells slots h1 h2 hl hP hD hS h3 h4 h5
  exact lv_lconst C.1 C.2.1 hd (v := Int64.ofInt (n.val : Int)) (Int64.ofInt_eq_ofNat).symm (K0 ad L H locs cells slots h1 h2 hl hP hD hS h3 h4 h5)
theorem zs_ldc (C : zCx p R s m args meth c D cl aC ov A X cc own nm Ts) {i a : Nat} (hw : Cond.constant own i (Int32.ofInt (a : Int)) ∈ Ts) (hd : decode cc pc = .ok (.ldc i, 2)) (K0 : zAt p l e R s m args below meth c Q D cl aC ov A k0 s0 ad0 (pc + 2) ls ((0, (a : Int)) :: r) S) : zAt p l e R s m args below meth c Q D cl aC ov A k0 s0 ad0 pc ls r S := by
  intro ad L H locs cells slots h1 h2 hl hP hD hS h3 h4 h5
  exact lv_ldc C.1 C.2.1 C.2.2.1 (C.2.2.2.1 _ hw) hd (K0 ad L H locs cells slots h1 h2 hl hP hD hS h3 h4 h5)
theorem zs_ldcw (C : zCx p R s m args meth c D cl aC ov A X cc own nm Ts) {i a : Nat} (hw : Cond.constant own i (Int32.ofInt (a : Int)) ∈ Ts) (hd : decode cc pc = .ok (.ldc_w i, 3)) (K0 : zAt p l e R s m args below meth c Q D cl aC ov A k0 s0 ad0 (pc + 3) ls ((0, (a : Int)) :: r) S) : zAt p l e R s m args below meth c Q D cl aC ov A k0 s0 ad0 pc ls r S := by
  intro ad L H locs cells slots h1 h2 hl hP hD hS h3 h4 h5
  exact lv_ldcw C.1 C.2.1 C.2.2.1 (C.2.2.2.1 _ hw) hd (K0 ad L H locs cells slots h1 h2 hl hP hD hS h3 h4 h5)
theorem zs_ldc2 (C : zCx p R s m args meth c D cl aC ov A X cc own nm Ts) {i : Nat} {v : Int} (hw : Cond.constantLong own i (Int64.ofInt v) ∈ Ts) (hd : decode cc pc = .ok (.ldc2_w i, 3)) (K0 : zAt p l e R s m args below meth c Q D cl aC ov A k0 s0 ad0 (pc + 3) ls ((1, v) :: r) S) : zAt p l e R s m args below meth c Q D cl aC ov A k0 s0 ad0 pc ls r S := by
  intro ad L H locs cells slots h1 h2 hl hP hD hS h3 h4 h5
  exact lv_ldc2 C.1 C.2.1 C.2.2.1 (C.2.2.2.1 _ hw) hd (K0 ad L H locs cells slots h1 h2 hl hP hD hS h3 h4 h5)
theorem zs_ldcS (C : zCx p R s m args meth c D cl aC ov A X cc own nm Ts)  (ho : own = "SoapDeeds$Tokens") (hd : decode cc pc = .ok (.ldc 46, 2)) (K0 : zAt p l e R s m args below meth c Q D cl aC ov A k0 s0 ad0 (pc + 2) ls ((3, 1) :: r) S) : zAt p l e R s m args below meth c Q D cl aC ov A k0 s0 ad0 pc ls r S := by
  intro ad L H locs cells slots h1 h2 hl hP hD hS h3 h4 h5
  subst ho
  obtain ⟨aK, aV, e1, e2, e3, -⟩ := C.2.2.2.2.2.2.1.2.2.2.2.2.2.1
  have kk := K0 ad L H locs cells slots h1 h2 hl hP hD hS h3 h4 h5
  refine va_ldcS C.1 C.2.1 C.2.2.1 e3 hd ?_
  rw [← e1]
  exact kk
theorem zs_iload (C : zCx p R s m args meth c D cl aC ov A X cc own nm Ts) {k : Nat} (hk : (ls.getD k (9, 0)).1 = 0) (hd : decode cc pc = .ok (.iload k, 2)) (K0 : zAt p l e R s m args below meth c Q D cl aC ov A k0 s0 ad0 (pc + 2) ls (ls.getD k (9, 0) :: r) S) : zAt p l e R s m args below meth c Q D cl aC ov A k0 s0 ad0 pc ls r S := by
  intro ad L H locs cells slots h1 h2 hl hP hD hS h3 h4 h5
  have kk := K0 ad L H locs cells slots h1 h2 hl hP hD hS h3 h4 h5
  have hv := hl.2.2 k (by rw [hk]; decide)
  revert hv kk hk
  generalize ls.getD k (9, 0) = v
  obtain ⟨t, x⟩ := v
  intro hk kk hv
  dsimp only at hk
  subst hk
  exact lv_iload C.1 C.2.1 hd  hv kk
theorem zs_iload_n (C : zCx p R s m args meth c D cl aC ov A X cc own nm Ts) {k : Fin 4} (hk : (ls.getD k.val (9, 0)).1 = 0) (hd : decode cc pc = .ok (.iload_n k, 1)) (K0 : zAt p l e R s m args below meth c Q D cl aC ov A k0 s0 ad0 (pc + 1) ls (ls.getD k.val (9, 0) :: r) S) : zAt p l e R s m args below meth c Q D cl aC ov A k0 s0 ad0 pc ls r S := by
  intro ad L H locs cells slots h1 h2 hl hP hD hS h3 h4 h5
  have kk := K0 ad L H locs cells slots h1 h2 hl hP hD hS h3 h4 h5
  have hv := hl.2.2 k.val (by rw [hk]; decide)
  revert hv kk hk
  generalize ls.getD k.val (9, 0) = v
  obtain ⟨t, x⟩ := v
  intro hk kk hv
  dsimp only at hk
  subst hk
  exact lv_iload_n C.1 C.2.1 hd rfl hv kk
theorem zs_lload (C : zCx p R s m args meth c D cl aC ov A X cc own nm Ts) {k : Nat} (hk : (ls.getD k (9, 0)).1 = 1) (hd : decode cc pc = .ok (.lload k, 2)) (K0 : zAt p l e R s m args below meth c Q D cl aC ov A k0 s0 ad0 (pc + 2) ls (ls.getD k (9, 0) :: r) S) : zAt p l e R s m args below meth c Q D cl aC ov A k0 s0 ad0 pc ls r S := by
  intro ad L H locs cells slots h1 h2 hl hP hD hS h3 h4 h5
  have kk := K0 ad L H locs cells slots h1 h2 hl hP hD hS h3 h4 h5
  have hv := hl.2.2 k (by rw [hk]; decide)
  revert hv kk hk
  generalize ls.getD k (9, 0) = v
  obtain ⟨t, x⟩ := v
  intro hk kk hv
  dsimp only at hk
  subst hk
  exact lv_lload C.1 C.2.1 hd  hv kk
theorem zs_lload_n (C : zCx p R s m args meth c D cl aC ov A X cc own nm Ts) {k : Fin 4} (hk : (ls.getD k.val (9, 0)).1 = 1) (hd : decode cc pc = .ok (.lload_n k, 1)) (K0 : zAt p l e R s m args below meth c Q D cl aC ov A k0 s0 ad0 (pc + 1) ls (ls.getD k.val (9, 0) :: r) S) : zAt p l e R s m args below meth c Q D cl aC ov A k0 s0 ad0 pc ls r S := by
  intro ad L H locs cells slots h1 h2 hl hP hD hS h3 h4 h5
  have kk := K0 ad L H locs cells slots h1 h2 hl hP hD hS h3 h4 h5
  have hv := hl.2.2 k.val (by rw [hk]; decide)
  revert hv kk hk
  generalize ls.getD k.val (9, 0) = v
  obtain ⟨t, x⟩ := v
  intro hk kk hv
  dsimp only at hk
  subst hk
  exact lv_lload_n C.1 C.2.1 hd rfl hv kk
theorem zs_aload (C : zCx p R s m args meth c D cl aC ov A X cc own nm Ts) {k : Nat} (hk : (ls.getD k (9, 0)).1 = 2 ∨ (ls.getD k (9, 0)).1 = 3) (hd : decode cc pc = .ok (.aload k, 2)) (K0 : zAt p l e R s m args below meth c Q D cl aC ov A k0 s0 ad0 (pc + 2) ls (ls.getD k (9, 0) :: r) S) : zAt p l e R s m args below meth c Q D cl aC ov A k0 s0 ad0 pc ls r S := by
  intro ad L H locs cells slots h1 h2 hl hP hD hS h3 h4 h5
  have kk := K0 ad L H locs cells slots h1 h2 hl hP hD hS h3 h4 h5
  have hv := hl.2.2 k (by rcases hk with q | q <;> rw [q] <;> decide)
  have hw : zc ov ad (ls.getD k (9, 0)) = .null ∨ ∃ t : Nat, zc ov ad (ls.getD k (9, 0)) = .ref t := by
    generalize ls.getD k (9, 0) = v at hk
    obtain ⟨t, x⟩ := v
    dsimp only at hk
    rcases hk with rfl | rfl
    · show zrv ad x = _ ∨ ∃ t, zrv ad x = _
      unfold zrv
      split
      · exact Or.inl rfl
      · exact Or.inr ⟨_, rfl⟩
    · exact C.2.2.2.2.2.2.1.2.2.2.2.2.2.2.2 x.toNat
  rw [List.map_cons] at kk
  rcases hw with q | ⟨t, q⟩ <;> rw [q] at hv kk
  · exact lv_aloadN C.1 C.2.1 hd  hv kk
  · exact lv_aload C.1 C.2.1 hd  hv kk
theorem zs_aload_n (C : zCx p R s m args meth c D cl aC ov A X cc own nm Ts) {k : Fin 4} (hk : (ls.getD k.val (9, 0)).1 = 2 ∨ (ls.getD k.val (9, 0)).1 = 3) (hd : decode cc pc = .ok (.aload_n k, 1)) (K0 : zAt p l e R s m args below meth c Q D cl aC ov A k0 s0 ad0 (pc + 1) ls (ls.getD k.val (9, 0) :: r) S) : zAt p l e R s m args below meth c Q D cl aC ov A k0 s0 ad0 pc ls r S := by
  intro ad L H locs cells slots h1 h2 hl hP hD hS h3 h4 h5
  have kk := K0 ad L H locs cells slots h1 h2 hl hP hD hS h3 h4 h5
  have hv := hl.2.2 k.val (by rcases hk with q | q <;> rw [q] <;> decide)
  have hw : zc ov ad (ls.getD k.val (9, 0)) = .null ∨ ∃ t : Nat, zc ov ad (ls.getD k.val (9, 0)) = .ref t := by
    generalize ls.getD k.val (9, 0) = v at hk
    obtain ⟨t, x⟩ := v
    dsimp only at hk
    rcases hk with rfl | rfl
    · show zrv ad x = _ ∨ ∃ t, zrv ad x = _
      unfold zrv
      split
      · exact Or.inl rfl
      · exact Or.inr ⟨_, rfl⟩
    · exact C.2.2.2.2.2.2.1.2.2.2.2.2.2.2.2 x.toNat
  rw [List.map_cons] at kk
  rcases hw with q | ⟨t, q⟩ <;> rw [q] at hv kk
  · exact lv_aload_nN C.1 C.2.1 hd rfl hv kk
  · exact lv_aload_n C.1 C.2.1 hd rfl hv kk
theorem zs_istore (C : zCx p R s m args meth c D cl aC ov A X cc own nm Ts) {k : Nat} {x : Int} (hk : k < ls.length) (hd : decode cc pc = .ok (.istore k, 2)) (K0 : zAt p l e R s m args below meth c Q D cl aC ov A k0 s0 ad0 (pc + 2) (zst1 ls k (0, x)) r S) : zAt p l e R s m args below meth c Q D cl aC ov A k0 s0 ad0 pc ls ((0, x) :: r) S := by
  intro ad L H locs cells slots h1 h2 hl hP hD hS h3 h4 h5
  refine lv_istore C.1 C.2.1 hd  (zlv_has hl) hk rfl (fun L' hL' => ?_)
  exact K0 ad L' H locs cells slots h1 h2 (zst1_ok (zEnv.cat C.2.2.2.2.2.2.1) hk hL') hP hD hS h3 h4 h5
theorem zs_istore_n (C : zCx p R s m args meth c D cl aC ov A X cc own nm Ts) {k : Fin 4} {x : Int} (hk : k.val < ls.length) (hd : decode cc pc = .ok (.istore_n k, 1)) (K0 : zAt p l e R s m args below meth c Q D cl aC ov A k0 s0 ad0 (pc + 1) (zst1 ls k.val (0, x)) r S) : zAt p l e R s m args below meth c Q D cl aC ov A k0 s0 ad0 pc ls ((0, x) :: r) S := by
  intro ad L H locs cells slots h1 h2 hl hP hD hS h3 h4 h5
  refine lv_istore_n C.1 C.2.1 hd rfl (zlv_has hl) hk rfl (fun L' hL' => ?_)
  exact K0 ad L' H locs cells slots h1 h2 (zst1_ok (zEnv.cat C.2.2.2.2.2.2.1) hk hL') hP hD hS h3 h4 h5
theorem zs_lstore (C : zCx p R s m args meth c D cl aC ov A X cc own nm Ts) {k : Nat} {x : Int} (hk : k + 1 < ls.length) (hd : decode cc pc = .ok (.lstore k, 2)) (K0 : zAt p l e R s m args below meth c Q D cl aC ov A k0 s0 ad0 (pc + 2) (zst2 ls k (1, x)) r S) : zAt p l e R s m args below meth c Q D cl aC ov A k0 s0 ad0 pc ls ((1, x) :: r) S := by
  intro ad L H locs cells slots h1 h2 hl hP hD hS h3 h4 h5
  refine lv_lstore C.1 C.2.1 hd  (zlv_has hl) hk rfl (fun L' hL' => ?_)
  exact K0 ad L' H locs cells slots h1 h2 (zst2_ok (zEnv.cat C.2.2.2.2.2.2.1) hk hL') hP hD hS h3 h4 h5
theorem zs_lstore_n (C : zCx p R s m args meth c D cl aC ov A X cc own nm Ts) {k : Fin 4} {x : Int} (hk : k.val + 1 < ls.length) (hd : decode cc pc = .ok (.lstore_n k, 1)) (K0 : zAt p l e R s m args below meth c Q D cl aC ov A k0 s0 ad0 (pc + 1) (zst2 ls k.val (1, x)) r S) : zAt p l e R s m args below meth c Q D cl aC ov A k0 s0 ad0 pc ls ((1, x) :: r) S := by
  intro ad L H locs cells slots h1 h2 hl hP hD hS h3 h4 h5
  refine lv_lstore_n C.1 C.2.1 hd rfl (zlv_has hl) hk rfl (fun L' hL' => ?_)
  exact K0 ad L' H locs cells slots h1 h2 (zst2_ok (zEnv.cat C.2.2.2.2.2.2.1) hk hL') hP hD hS h3 h4 h5
theorem zs_astore (C : zCx p R s m args meth c D cl aC ov A X cc own nm Ts) {k : Nat} {q : Nat} (hk : k < ls.length) (hd : decode cc pc = .ok (.astore k, 2)) (K0 : zAt p l e R s m args below meth c Q D cl aC ov A k0 s0 ad0 (pc + 2) (zst1 ls k (2, (q : Int))) r S) : zAt p l e R s m args below meth c Q D cl aC ov A k0 s0 ad0 pc ls ((2, (q : Int)) :: r) S := by
  intro ad L H locs cells slots h1 h2 hl hP hD hS h3 h4 h5
  have e1 : zc ov ad (2, (q : Int)) = .ref (ad q) := by
    show zrv ad (q : Int) = _
    unfold zrv
    rw [if_neg (by omega)]
    rfl
  rw [List.map_cons, e1]
  refine lv_astore C.1 C.2.1 hd  (zlv_has hl) hk rfl (fun L' hL' => ?_)
  rw [← e1] at hL'
  exact K0 ad L' H locs cells slots h1 h2 (zst1_ok (zEnv.cat C.2.2.2.2.2.2.1) hk hL') hP hD hS h3 h4 h5
theorem zs_astore_n (C : zCx p R s m args meth c D cl aC ov A X cc own nm Ts) {k : Fin 4} {q : Nat} (hk : k.val < ls.length) (hd : decode cc pc = .ok (.astore_n k, 1)) (K0 : zAt p l e R s m args below meth c Q D cl aC ov A k0 s0 ad0 (pc + 1) (zst1 ls k.val (2, (q : Int))) r S) : zAt p l e R s m args below meth c Q D cl aC ov A k0 s0 ad0 pc ls ((2, (q : Int)) :: r) S := by
  intro ad L H locs cells slots h1 h2 hl hP hD hS h3 h4 h5
  have e1 : zc ov ad (2, (q : Int)) = .ref (ad q) := by
    show zrv ad (q : Int) = _
    unfold zrv
    rw [if_neg (by omega)]
    rfl
  rw [List.map_cons, e1]
  refine lv_astore_n C.1 C.2.1 hd rfl (zlv_has hl) hk rfl (fun L' hL' => ?_)
  rw [← e1] at hL'
  exact K0 ad L' H locs cells slots h1 h2 (zst1_ok (zEnv.cat C.2.2.2.2.2.2.1) hk hL') hP hD hS h3 h4 h5
theorem zs_iinc (C : zCx p R s m args meth c D cl aC ov A X cc own nm Ts) {k : Nat} {n : Int} (hk : k < ls.length) (ht : (ls.getD k (9, 0)).1 = 0) (hd : decode cc pc = .ok (.iinc k n, 3)) (K0 : zAt p l e R s m args below meth c Q D cl aC ov A k0 s0 ad0 (pc + 3) (zst1 ls k (0, (ls.getD k (9, 0)).2 + n)) r S) : zAt p l e R s m args below meth c Q D cl aC ov A k0 s0 ad0 pc ls r S := by
  intro ad L H locs cells slots h1 h2 hl hP hD hS h3 h4 h5
  have hm := zll_mem (ov := ov) (ad := ad) (ls := ls) (i := k) (by rw [ht]; decide)
  obtain ⟨j, hj⟩ := List.getElem?_of_mem hm
  have e1 : zc ov ad (ls.getD k (9, 0)) = .int (Int32.ofInt (ls.getD k (9, 0)).2) := by
    unfold zc
    rw [if_pos ht]
  rw [e1] at hj
  refine lv_iinc (v := Int32.ofInt ((ls.getD k (9, 0)).2 + n)) C.1 C.2.1 hd (zlv_has hl) hj (by rw [Int32.ofInt_add]) hk rfl (fun L' hL' => ?_)
  exact K0 ad L' H locs cells slots h1 h2 (zst1_ok (v := (0, (ls.getD k (9, 0)).2 + n)) (zEnv.cat C.2.2.2.2.2.2.1) hk hL') hP hD hS h3 h4 h5
theorem zs_iadd (C : zCx p R s m args meth c D cl aC ov A X cc own nm Ts) {x y : Int}  (hd : decode cc pc = .ok (.iadd, 1)) (K0 : zAt p l e R s m args below meth c Q D cl aC ov A k0 s0 ad0 (pc + 1) ls ((0, x + y) :: r) S) : zAt p l e R s m args below meth c Q D cl aC ov A k0 s0 ad0 pc ls ((0, y) :: (0, x) :: r) S := by
  intro ad L H locs cells slots h1 h2 hl hP hD hS h3 h4 h5
  refine lv_iadd C.1 C.2.1 hd ?_
  rw [← Int32.ofInt_add]
  exact K0 ad L H locs cells slots h1 h2 hl hP hD hS h3 h4 h5
theorem zs_ladd (C : zCx p R s m args meth c D cl aC ov A X cc own nm Ts) {x y : Int}  (hd : decode cc pc = .ok (.ladd, 1)) (K0 : zAt p l e R s m args below meth c Q D cl aC ov A k0 s0 ad0 (pc + 1) ls ((1, x + y) :: r) S) : zAt p l e R s m args below meth c Q D cl aC ov A k0 s0 ad0 pc ls ((1, y) :: (1, x) :: r) S := by
  intro ad L H locs cells slots h1 h2 hl hP hD hS h3 h4 h5
  refine lv_ladd C.1 C.2.1 hd ?_
  rw [← Int64.ofInt_add]
  exact K0 ad L H locs cells slots h1 h2 hl hP hD hS h3 h4 h5
theorem zs_isub (C : zCx p R s m args meth c D cl aC ov A X cc own nm Ts) {x y : Int}  (hd : decode cc pc = .ok (.isub, 1)) (K0 : zAt p l e R s m args below meth c Q D cl aC ov A k0 s0 ad0 (pc + 1) ls ((0, x - y) :: r) S) : zAt p l e R s m args below meth c Q D cl aC ov A k0 s0 ad0 pc ls ((0, y) :: (0, x) :: r) S := by
  intro ad L H locs cells slots h1 h2 hl hP hD hS h3 h4 h5
  refine lv_isub C.1 C.2.1 hd ?_
  rw [← Int32.ofInt_sub]
  exact K0 ad L H locs cells slots h1 h2 hl hP hD hS h3 h4 h5
theorem zs_lsub (C : zCx p R s m args meth c D cl aC ov A X cc own nm Ts) {x y : Int}  (hd : decode cc pc = .ok (.lsub, 1)) (K0 : zAt p l e R s m args below meth c Q D cl aC ov A k0 s0 ad0 (pc + 1) ls ((1, x - y) :: r) S) : zAt p l e R s m args below meth c Q D cl aC ov A k0 s0 ad0 pc ls ((1, y) :: (1, x) :: r) S := by
  intro ad L H locs cells slots h1 h2 hl hP hD hS h3 h4 h5
  refine lv_lsub C.1 C.2.1 hd ?_
  rw [← Int64.ofInt_sub]
  exact K0 ad L H locs cells slots h1 h2 hl hP hD hS h3 h4 h5
theorem zs_imul (C : zCx p R s m args meth c D cl aC ov A X cc own nm Ts) {x y : Int}  (hd : decode cc pc = .ok (.imul, 1)) (K0 : zAt p l e R s m args below meth c Q D cl aC ov A k0 s0 ad0 (pc + 1) ls ((0, x * y) :: r) S) : zAt p l e R s m args below meth c Q D cl aC ov A k0 s0 ad0 pc ls ((0, y) :: (0, x) :: r) S := by
  intro ad L H locs cells slots h1 h2 hl hP hD hS h3 h4 h5
  refine lv_imul C.1 C.2.1 hd ?_
  rw [← Int32.ofInt_mul]
  exact K0 ad L H locs cells slots h1 h2 hl hP hD hS h3 h4 h5
theorem zs_lmul (C : zCx p R s m args meth c D cl aC ov A X cc own nm Ts) {x y : Int}  (hd : decode cc pc = .ok (.lmul, 1)) (K0 : zAt p l e R s m args below meth c Q D cl aC ov A k0 s0 ad0 (pc + 1) ls ((1, x * y) :: r) S) : zAt p l e R s m args below meth c Q D cl aC ov A k0 s0 ad0 pc ls ((1, y) :: (1, x) :: r) S := by
  intro ad L H locs cells slots h1 h2 hl hP hD hS h3 h4 h5
  refine lv_lmul C.1 C.2.1 hd ?_
  rw [← Int64.ofInt_mul]
  exact K0 ad L H locs cells slots h1 h2 hl hP hD hS h3 h4 h5
theorem zs_iand (C : zCx p R s m args meth c D cl aC ov A X cc own nm Ts) {x y : Int}  (hd : decode cc pc = .ok (.iand, 1)) (K0 : zAt p l e R s m args below meth c Q D cl aC ov A k0 s0 ad0 (pc + 1) ls ((0, zand x y) :: r) S) : zAt p l e R s m args below meth c Q D cl aC ov A k0 s0 ad0 pc ls ((0, y) :: (0, x) :: r) S := by
  intro ad L H locs cells slots h1 h2 hl hP hD hS h3 h4 h5
  refine lv_iand C.1 C.2.1 hd ?_
  rw [← Int32.ofInt_toInt (Int32.ofInt x &&& Int32.ofInt y)]
  exact K0 ad L H locs cells slots h1 h2 hl hP hD hS h3 h4 h5
theorem zs_ior (C : zCx p R s m args meth c D cl aC ov A X cc own nm Ts) {x y : Int}  (hd : decode cc pc = .ok (.ior, 1)) (K0 : zAt p l e R s m args below meth c Q D cl aC ov A k0 s0 ad0 (pc + 1) ls ((0, zor x y) :: r) S) : zAt p l e R s m args below meth c Q D cl aC ov A k0 s0 ad0 pc ls ((0, y) :: (0, x) :: r) S := by
  intro ad L H locs cells slots h1 h2 hl hP hD hS h3 h4 h5
  refine lv_ior C.1 C.2.1 hd ?_
  rw [← Int32.ofInt_toInt (Int32.ofInt x ||| Int32.ofInt y)]
  exact K0 ad L H locs cells slots h1 h2 hl hP hD hS h3 h4 h5
theorem zs_ixor (C : zCx p R s m args meth c D cl aC ov A X cc own nm Ts) {x y : Int}  (hd : decode cc pc = .ok (.ixor, 1)) (K0 : zAt p l e R s m args below meth c Q D cl aC ov A k0 s0 ad0 (pc + 1) ls ((0, zxor x y) :: r) S) : zAt p l e R s m args below meth c Q D cl aC ov A k0 s0 ad0 pc ls ((0, y) :: (0, x) :: r) S := by
  intro ad L H locs cells slots h1 h2 hl hP hD hS h3 h4 h5
  refine lv_ixor C.1 C.2.1 hd ?_
  rw [← Int32.ofInt_toInt (Int32.ofInt x ^^^ Int32.ofInt y)]
  exact K0 ad L H locs cells slots h1 h2 hl hP hD hS h3 h4 h5
theorem zs_land (C : zCx p R s m args meth c D cl aC ov A X cc own nm Ts) {x y : Int}  (hd : decode cc pc = .ok (.land, 1)) (K0 : zAt p l e R s m args below meth c Q D cl aC ov A k0 s0 ad0 (pc + 1) ls ((1, zlan x y) :: r) S) : zAt p l e R s m args below meth c Q D cl aC ov A k0 s0 ad0 pc ls ((1, y) :: (1, x) :: r) S := by
  intro ad L H locs cells slots h1 h2 hl hP hD hS h3 h4 h5
  refine lv_land C.1 C.2.1 hd ?_
  rw [← Int64.ofInt_toInt (Int64.ofInt x &&& Int64.ofInt y)]
  exact K0 ad L H locs cells slots h1 h2 hl hP hD hS h3 h4 h5
theorem zs_lor (C : zCx p R s m args meth c D cl aC ov A X cc own nm Ts) {x y : Int}  (hd : decode cc pc = .ok (.lor, 1)) (K0 : zAt p l e R s m args below meth c Q D cl aC ov A k0 s0 ad0 (pc + 1) ls ((1, zlor x y) :: r) S) : zAt p l e R s m args below meth c Q D cl aC ov A k0 s0 ad0 pc ls ((1, y) :: (1, x) :: r) S := by
  intro ad L H locs cells slots h1 h2 hl hP hD hS h3 h4 h5
  refine lv_lor C.1 C.2.1 hd ?_
  rw [← Int64.ofInt_toInt (Int64.ofInt x ||| Int64.ofInt y)]
  exact K0 ad L H locs cells slots h1 h2 hl hP hD hS h3 h4 h5
theorem zs_ishl (C : zCx p R s m args meth c D cl aC ov A X cc own nm Ts) {x y : Int}  (hd : decode cc pc = .ok (.ishl, 1)) (K0 : zAt p l e R s m args below meth c Q D cl aC ov A k0 s0 ad0 (pc + 1) ls ((0, zshl x y) :: r) S) : zAt p l e R s m args below meth c Q D cl aC ov A k0 s0 ad0 pc ls ((0, y) :: (0, x) :: r) S := by
  intro ad L H locs cells slots h1 h2 hl hP hD hS h3 h4 h5
  refine lv_ishl C.1 C.2.1 hd ?_
  rw [← Int32.ofInt_toInt (Int32.ofInt x <<< (Int32.ofInt y &&& 31))]
  exact K0 ad L H locs cells slots h1 h2 hl hP hD hS h3 h4 h5
theorem zs_ishr (C : zCx p R s m args meth c D cl aC ov A X cc own nm Ts) {x y : Int}  (hd : decode cc pc = .ok (.ishr, 1)) (K0 : zAt p l e R s m args below meth c Q D cl aC ov A k0 s0 ad0 (pc + 1) ls ((0, zshr x y) :: r) S) : zAt p l e R s m args below meth c Q D cl aC ov A k0 s0 ad0 pc ls ((0, y) :: (0, x) :: r) S := by
  intro ad L H locs cells slots h1 h2 hl hP hD hS h3 h4 h5
  refine lv_ishr C.1 C.2.1 hd ?_
  rw [← Int32.ofInt_toInt (Int32.ofInt x >>> (Int32.ofInt y &&& 31))]
  exact K0 ad L H locs cells slots h1 h2 hl hP hD hS h3 h4 h5
theorem zs_iushr (C : zCx p R s m args meth c D cl aC ov A X cc own nm Ts) {x y : Int}  (hd : decode cc pc = .ok (.iushr, 1)) (K0 : zAt p l e R s m args below meth c Q D cl aC ov A k0 s0 ad0 (pc + 1) ls ((0, zushr x y) :: r) S) : zAt p l e R s m args below meth c Q D cl aC ov A k0 s0 ad0 pc ls ((0, y) :: (0, x) :: r) S := by
  intro ad L H locs cells slots h1 h2 hl hP hD hS h3 h4 h5
  exact lv_iushr C.1 C.2.1 hd (v := Int32.ofInt (zushr x y)) (by unfold zushr; rw [Int32.ofInt_toInt]) (K0 ad L H locs cells slots h1 h2 hl hP hD hS h3 h4 h5)
theorem zs_lshl (C : zCx p R s m args meth c D cl aC ov A X cc own nm Ts) {x y : Int}  (hd : decode cc pc = .ok (.lshl, 1)) (K0 : zAt p l e R s m args below meth c Q D cl aC ov A k0 s0 ad0 (pc + 1) ls ((1, zlsl x y) :: r) S) : zAt p l e R s m args below meth c Q D cl aC ov A k0 s0 ad0 pc ls ((0, y) :: (1, x) :: r) S := by
  intro ad L H locs cells slots h1 h2 hl hP hD hS h3 h4 h5
  exact lv_lshl C.1 C.2.1 hd (v := Int64.ofInt (zlsl x y)) (by unfold zlsl; rw [Int64.ofInt_toInt]) (K0 ad L H locs cells slots h1 h2 hl hP hD hS h3 h4 h5)
theorem zs_lshr (C : zCx p R s m args meth c D cl aC ov A X cc own nm Ts) {x y : Int}  (hd : decode cc pc = .ok (.lshr, 1)) (K0 : zAt p l e R s m args below meth c Q D cl aC ov A k0 s0 ad0 (pc + 1) ls ((1, zlsr x y) :: r) S) : zAt p l e R s m args below meth c Q D cl aC ov A k0 s0 ad0 pc ls ((0, y) :: (1, x) :: r) S := by
  intro ad L H locs cells slots h1 h2 hl hP hD hS h3 h4 h5
  exact lv_lshr C.1 C.2.1 hd (v := Int64.ofInt (zlsr x y)) (by unfold zlsr; rw [Int64.ofInt_toInt]) (K0 ad L H locs cells slots h1 h2 hl hP hD hS h3 h4 h5)
theorem zs_idiv (C : zCx p R s m args meth c D cl aC ov A X cc own nm Ts) {x y : Int} (hx : inI x) (hy : inI y) (h0 : y ≠ 0) (hd : decode cc pc = .ok (.idiv, 1)) (K0 : zAt p l e R s m args below meth c Q D cl aC ov A k0 s0 ad0 (pc + 1) ls ((0, x.tdiv y) :: r) S) : zAt p l e R s m args below meth c Q D cl aC ov A k0 s0 ad0 pc ls ((0, y) :: (0, x) :: r) S := by
  intro ad L H locs cells slots h1 h2 hl hP hD hS h3 h4 h5
  refine lv_idiv C.1 C.2.1 hd (fun q => h0 ((zi_eq hy ⟨by decide, by decide⟩).mp q)) ?_
  rw [← Int32.ofInt_tdiv (by show (-2147483648 : Int) ≤ _; omega) (by show _ ≤ (2147483647 : Int); omega) (by show (-2147483648 : Int) ≤ _; omega) (by show _ ≤ (2147483647 : Int); omega)]
  exact K0 ad L H locs cells slots h1 h2 hl hP hD hS h3 h4 h5
theorem zs_irem (C : zCx p R s m args meth c D cl aC ov A X cc own nm Ts) {x y : Int} (hx : inI x) (hy : inI y) (h0 : y ≠ 0) (hd : decode cc pc = .ok (.irem, 1)) (K0 : zAt p l e R s m args below meth c Q D cl aC ov A k0 s0 ad0 (pc + 1) ls ((0, x.tmod y) :: r) S) : zAt p l e R s m args below meth c Q D cl aC ov A k0 s0 ad0 pc ls ((0, y) :: (0, x) :: r) S := by
  intro ad L H locs cells slots h1 h2 hl hP hD hS h3 h4 h5
  refine lv_irem C.1 C.2.1 hd (fun q => h0 ((zi_eq hy ⟨by decide, by decide⟩).mp q)) ?_
  rw [← Int32.ofInt_tdiv (by show (-2147483648 : Int) ≤ _; omega) (by show _ ≤ (2147483647 : Int); omega) (by show (-2147483648 : Int) ≤ _; omega) (by show _ ≤ (2147483647 : Int); omega), ← Int32.ofInt_mul, ← Int32.ofInt_sub, show x - x.tdiv y * y = x.tmod y by rw [Int.tmod_def, Int.mul_comm]]
  exact K0 ad L H locs cells slots h1 h2 hl hP hD hS h3 h4 h5
theorem zs_ldiv (C : zCx p R s m args meth c D cl aC ov A X cc own nm Ts) {x y : Int} (hx : inL x) (hy : inL y) (h0 : y ≠ 0) (hd : decode cc pc = .ok (.ldiv, 1)) (K0 : zAt p l e R s m args below meth c Q D cl aC ov A k0 s0 ad0 (pc + 1) ls ((1, x.tdiv y) :: r) S) : zAt p l e R s m args below meth c Q D cl aC ov A k0 s0 ad0 pc ls ((1, y) :: (1, x) :: r) S := by
  intro ad L H locs cells slots h1 h2 hl hP hD hS h3 h4 h5
  refine lv_ldiv C.1 C.2.1 hd (fun q => h0 ((zl_eq hy ⟨by decide, by decide⟩).mp q)) ?_
  rw [← Int64.ofInt_tdiv (by show (-9223372036854775808 : Int) ≤ _; omega) (by show _ ≤ (9223372036854775807 : Int); omega) (by show (-9223372036854775808 : Int) ≤ _; omega) (by show _ ≤ (9223372036854775807 : Int); omega)]
  exact K0 ad L H locs cells slots h1 h2 hl hP hD hS h3 h4 h5
theorem zs_lrem (C : zCx p R s m args meth c D cl aC ov A X cc own nm Ts) {x y : Int} (hx : inL x) (hy : inL y) (h0 : y ≠ 0) (hd : decode cc pc = .ok (.lrem, 1)) (K0 : zAt p l e R s m args below meth c Q D cl aC ov A k0 s0 ad0 (pc + 1) ls ((1, x.tmod y) :: r) S) : zAt p l e R s m args below meth c Q D cl aC ov A k0 s0 ad0 pc ls ((1, y) :: (1, x) :: r) S := by
  intro ad L H locs cells slots h1 h2 hl hP hD hS h3 h4 h5
  refine lv_lrem C.1 C.2.1 hd (fun q => h0 ((zl_eq hy ⟨by decide, by decide⟩).mp q)) ?_
  rw [← Int64.ofInt_tdiv (by show (-9223372036854775808 : Int) ≤ _; omega) (by show _ ≤ (9223372036854775807 : Int); omega) (by show (-9223372036854775808 : Int) ≤ _; omega) (by show _ ≤ (9223372036854775807 : Int); omega), ← Int64.ofInt_mul, ← Int64.ofInt_sub, show x - x.tdiv y * y = x.tmod y by rw [Int.tmod_def, Int.mul_comm]]
  exact K0 ad L H locs cells slots h1 h2 hl hP hD hS h3 h4 h5
theorem zs_lcmp (C : zCx p R s m args meth c D cl aC ov A X cc own nm Ts) {x y : Int} (hx : inL x) (hy : inL y) (hd : decode cc pc = .ok (.lcmp, 1)) (K0 : zAt p l e R s m args below meth c Q D cl aC ov A k0 s0 ad0 (pc + 1) ls ((0, if x < y then -1 else if x = y then 0 else 1) :: r) S) : zAt p l e R s m args below meth c Q D cl aC ov A k0 s0 ad0 pc ls ((1, y) :: (1, x) :: r) S := by
  intro ad L H locs cells slots h1 h2 hl hP hD hS h3 h4 h5
  refine W.lcmp C.1 C.2.1 hd ?_
  have e1 : lg_cmp (Int64.ofInt x) (Int64.ofInt y) = Int32.ofInt (if x < y then -1 else if x = y then 0 else 1) := by
    unfold lg_cmp
    have a1 := zl_lt hx hy
    have a2 := zl_lt hy hx
    have a3 := zl_eq hx hy
    by_cases q : x < y
    · simp [q, a1, a2, a3, show ¬ y < x by omega, show ¬ x = y by omega]
    · by_cases q2 : x = y
      · subst q2; simp
      · simp [q, q2, a1, a2, a3, show y < x by omega]
  rw [e1]
  exact K0 ad L H locs cells slots h1 h2 hl hP hD hS h3 h4 h5
theorem zs_i2l (C : zCx p R s m args meth c D cl aC ov A X cc own nm Ts) {x : Int} (hx : inI x) (hd : decode cc pc = .ok (.i2l, 1)) (K0 : zAt p l e R s m args below meth c Q D cl aC ov A k0 s0 ad0 (pc + 1) ls ((1, x) :: r) S) : zAt p l e R s m args below meth c Q D cl aC ov A k0 s0 ad0 pc ls ((0, x) :: r) S := by
  intro ad L H locs cells slots h1 h2 hl hP hD hS h3 h4 h5
  exact lv_i2l C.1 C.2.1 hd (v := Int64.ofInt x) (Int32.toInt64_ofInt (by show (-2147483648 : Int) ≤ _; omega) (by show _ ≤ (2147483647 : Int); omega)) (K0 ad L H locs cells slots h1 h2 hl hP hD hS h3 h4 h5)
theorem zs_l2i (C : zCx p R s m args meth c D cl aC ov A X cc own nm Ts) {x : Int}  (hd : decode cc pc = .ok (.l2i, 1)) (K0 : zAt p l e R s m args below meth c Q D cl aC ov A k0 s0 ad0 (pc + 1) ls ((0, x) :: r) S) : zAt p l e R s m args below meth c Q D cl aC ov A k0 s0 ad0 pc ls ((1, x) :: r) S := by
  intro ad L H locs cells slots h1 h2 hl hP hD hS h3 h4 h5
  exact lv_l2i C.1 C.2.1 hd (v := Int32.ofInt x) Int64.toInt32_ofInt (K0 ad L H locs cells slots h1 h2 hl hP hD hS h3 h4 h5)
theorem zs_i2b (C : zCx p R s m args meth c D cl aC ov A X cc own nm Ts) {x : Int}  (hd : decode cc pc = .ok (.i2b, 1)) (K0 : zAt p l e R s m args below meth c Q D cl aC ov A k0 s0 ad0 (pc + 1) ls ((0, zi2b x) :: r) S) : zAt p l e R s m args below meth c Q D cl aC ov A k0 s0 ad0 pc ls ((0, x) :: r) S := by
  intro ad L H locs cells slots h1 h2 hl hP hD hS h3 h4 h5
  exact lv_i2b C.1 C.2.1 hd (v := Int32.ofInt (zi2b x)) (by unfold zi2b; rw [Int32.ofInt_toInt]) (K0 ad L H locs cells slots h1 h2 hl hP hD hS h3 h4 h5)
theorem zs_i2c (C : zCx p R s m args meth c D cl aC ov A X cc own nm Ts) {x : Int}  (hd : decode cc pc = .ok (.i2c, 1)) (K0 : zAt p l e R s m args below meth c Q D cl aC ov A k0 s0 ad0 (pc + 1) ls ((0, zi2c x) :: r) S) : zAt p l e R s m args below meth c Q D cl aC ov A k0 s0 ad0 pc ls ((0, x) :: r) S := by
  intro ad L H locs cells slots h1 h2 hl hP hD hS h3 h4 h5
  exact lv_i2c C.1 C.2.1 hd (v := Int32.ofInt (zi2c x)) (by unfold zi2c; rw [Int32.ofInt_toInt]) (K0 ad L H locs cells slots h1 h2 hl hP hD hS h3 h4 h5)
theorem zs_dup (C : zCx p R s m args meth c D cl aC ov A X cc own nm Ts) {v : zV} (hv : v.1 ≠ 1) (hd : decode cc pc = .ok (.dup, 1)) (K0 : zAt p l e R s m args below meth c Q D cl aC ov A k0 s0 ad0 (pc + 1) ls (v :: v :: r) S) : zAt p l e R s m args below meth c Q D cl aC ov A k0 s0 ad0 pc ls (v :: r) S := by
  intro ad L H locs cells slots h1 h2 hl hP hD hS h3 h4 h5
  exact lv_dup C.1 C.2.1 hd (by rw [zc_cat (zEnv.cat C.2.2.2.2.2.2.1), if_neg hv]) (K0 ad L H locs cells slots h1 h2 hl hP hD hS h3 h4 h5)
theorem zs_dup2 (C : zCx p R s m args meth c D cl aC ov A X cc own nm Ts) {v w : zV} (hv : v.1 ≠ 1) (hw : w.1 ≠ 1) (hd : decode cc pc = .ok (.dup2, 1)) (K0 : zAt p l e R s m args below meth c Q D cl aC ov A k0 s0 ad0 (pc + 1) ls (v :: w :: v :: w :: r) S) : zAt p l e R s m args below meth c Q D cl aC ov A k0 s0 ad0 pc ls (v :: w :: r) S := by
  intro ad L H locs cells slots h1 h2 hl hP hD hS h3 h4 h5
  exact lv_dup2_11 C.1 C.2.1 hd (by rw [zc_cat (zEnv.cat C.2.2.2.2.2.2.1), if_neg hv]) (by rw [zc_cat (zEnv.cat C.2.2.2.2.2.2.1), if_neg hw]) (K0 ad L H locs cells slots h1 h2 hl hP hD hS h3 h4 h5)
theorem zs_pop (C : zCx p R s m args meth c D cl aC ov A X cc own nm Ts) {v : zV} (hv : v.1 ≠ 1) (hd : decode cc pc = .ok (.pop, 1)) (K0 : zAt p l e R s m args below meth c Q D cl aC ov A k0 s0 ad0 (pc + 1) ls r S) : zAt p l e R s m args below meth c Q D cl aC ov A k0 s0 ad0 pc ls (v :: r) S := by
  intro ad L H locs cells slots h1 h2 hl hP hD hS h3 h4 h5
  exact lv_pop C.1 C.2.1 hd (by rw [zc_cat (zEnv.cat C.2.2.2.2.2.2.1), if_neg hv]) (K0 ad L H locs cells slots h1 h2 hl hP hD hS h3 h4 h5)
theorem zs_goto (C : zCx p R s m args meth c D cl aC ov A X cc own nm Ts) {off : Int} {a : Nat} (ha : (pc : Int) + off = (a : Int)) (hd : decode cc pc = .ok (.goto off, 3)) (K0 : zAt p l e R s m args below meth c Q D cl aC ov A k0 s0 ad0 a ls r S) : zAt p l e R s m args below meth c Q D cl aC ov A k0 s0 ad0 pc ls r S := by
  intro ad L H locs cells slots h1 h2 hl hP hD hS h3 h4 h5
  exact lv_goto C.1 C.2.1 hd ha (K0 ad L H locs cells slots h1 h2 hl hP hD hS h3 h4 h5)
theorem zs_ifnull (C : zCx p R s m args meth c D cl aC ov A X cc own nm Ts) {off : Int} {q : Nat}  (hd : decode cc pc = .ok (.ifnull off, 3)) (K0 : zAt p l e R s m args below meth c Q D cl aC ov A k0 s0 ad0 (pc + 3) ls r S) : zAt p l e R s m args below meth c Q D cl aC ov A k0 s0 ad0 pc ls ((2, (q : Int)) :: r) S := by
  intro ad L H locs cells slots h1 h2 hl hP hD hS h3 h4 h5
  have e1 : zc ov ad (2, (q : Int)) = .ref (ad q) := by
    show zrv ad (q : Int) = _
    unfold zrv
    rw [if_neg (by omega)]
    rfl
  rw [List.map_cons, e1]
  exact lv_ifnull C.1 C.2.1 hd (K0 ad L H locs cells slots h1 h2 hl hP hD hS h3 h4 h5)
theorem zs_if_eq (C : zCx p R s m args meth c D cl aC ov A X cc own nm Ts) {x : Int} {off : Int} {a : Nat} (hx : inI x) (ha : (pc : Int) + off = (a : Int)) (hd : decode cc pc = .ok (.ifCond .eq off, 3)) (K0 : zAt p l e R s m args below meth c Q D cl aC ov A k0 s0 ad0 (if zcnd .eq x 0 then a else pc + 3) ls r S) : zAt p l e R s m args below meth c Q D cl aC ov A k0 s0 ad0 pc ls ((0, x) :: r) S := by
  intro ad L H locs cells slots h1 h2 hl hP hD hS h3 h4 h5
  have kk := K0 ad L H locs cells slots h1 h2 hl hP hD hS h3 h4 h5
  have hy : inI (0 : Int) := ⟨by decide, by decide⟩
  have e1 := zi_eq hx hy
  refine lv_if_eq C.1 C.2.1 hd ha (fun q => ?_) (fun q => ?_)
  · rw [if_pos (show zcnd .eq x 0 = true by unfold zcnd; exact decide_eq_true (e1.mp q))] at kk
    exact kk
  · rw [if_neg (show ¬ zcnd .eq x 0 = true by unfold zcnd; exact fun z => q (e1.mpr (of_decide_eq_true z)))] at kk
    exact kk
theorem zs_icmp_eq (C : zCx p R s m args meth c D cl aC ov A X cc own nm Ts) {x y : Int} {off : Int} {a : Nat} (hx : inI x) (hy : inI y) (ha : (pc : Int) + off = (a : Int)) (hd : decode cc pc = .ok (.if_icmp .eq off, 3)) (K0 : zAt p l e R s m args below meth c Q D cl aC ov A k0 s0 ad0 (if zcnd .eq x y then a else pc + 3) ls r S) : zAt p l e R s m args below meth c Q D cl aC ov A k0 s0 ad0 pc ls ((0, y) :: (0, x) :: r) S := by
  intro ad L H locs cells slots h1 h2 hl hP hD hS h3 h4 h5
  have kk := K0 ad L H locs cells slots h1 h2 hl hP hD hS h3 h4 h5
  have e1 := zi_eq hx hy
  refine lv_icmp_eq C.1 C.2.1 hd ha (fun q => ?_) (fun q => ?_)
  · rw [if_pos (show zcnd .eq x y = true by unfold zcnd; exact decide_eq_true (e1.mp q))] at kk
    exact kk
  · rw [if_neg (show ¬ zcnd .eq x y = true by unfold zcnd; exact fun z => q (e1.mpr (of_decide_eq_true z)))] at kk
    exact kk
theorem zs_if_ne (C : zCx p R s m args meth c D cl aC ov A X cc own nm Ts) {x : Int} {off : Int} {a : Nat} (hx : inI x) (ha : (pc : Int) + off = (a : Int)) (hd : decode cc pc = .ok (.ifCond .ne off, 3)) (K0 : zAt p l e R s m args below meth c Q D cl aC ov A k0 s0 ad0 (if zcnd .ne x 0 then a else pc + 3) ls r S) : zAt p l e R s m args below meth c Q D cl aC ov A k0 s0 ad0 pc ls ((0, x) :: r) S := by
  intro ad L H locs cells slots h1 h2 hl hP hD hS h3 h4 h5
  have kk := K0 ad L H locs cells slots h1 h2 hl hP hD hS h3 h4 h5
  have hy : inI (0 : Int) := ⟨by decide, by decide⟩
  have e1 := not_congr (zi_eq hx hy)
  refine lv_if_ne C.1 C.2.1 hd ha (fun q => ?_) (fun q => ?_)
  · rw [if_pos (show zcnd .ne x 0 = true by unfold zcnd; exact decide_eq_true (e1.mp q))] at kk
    exact kk
  · rw [if_neg (show ¬ zcnd .ne x 0 = true by unfold zcnd; exact fun z => (e1.mpr (of_decide_eq_true z)) q)] at kk
    exact kk
theorem zs_icmp_ne (C : zCx p R s m args meth c D cl aC ov A X cc own nm Ts) {x y : Int} {off : Int} {a : Nat} (hx : inI x) (hy : inI y) (ha : (pc : Int) + off = (a : Int)) (hd : decode cc pc = .ok (.if_icmp .ne off, 3)) (K0 : zAt p l e R s m args below meth c Q D cl aC ov A k0 s0 ad0 (if zcnd .ne x y then a else pc + 3) ls r S) : zAt p l e R s m args below meth c Q D cl aC ov A k0 s0 ad0 pc ls ((0, y) :: (0, x) :: r) S := by
  intro ad L H locs cells slots h1 h2 hl hP hD hS h3 h4 h5
  have kk := K0 ad L H locs cells slots h1 h2 hl hP hD hS h3 h4 h5
  have e1 := not_congr (zi_eq hx hy)
  refine lv_icmp_ne C.1 C.2.1 hd ha (fun q => ?_) (fun q => ?_)
  · rw [if_pos (show zcnd .ne x y = true by unfold zcnd; exact decide_eq_true (e1.mp q))] at kk
    exact kk
  · rw [if_neg (show ¬ zcnd .ne x y = true by unfold zcnd; exact fun z => (e1.mpr (of_decide_eq_true z)) q)] at kk
    exact kk
theorem zs_if_lt (C : zCx p R s m args meth c D cl aC ov A X cc own nm Ts) {x : Int} {off : Int} {a : Nat} (hx : inI x) (ha : (pc : Int) + off = (a : Int)) (hd : decode cc pc = .ok (.ifCond .lt off, 3)) (K0 : zAt p l e R s m args below meth c Q D cl aC ov A k0 s0 ad0 (if zcnd .lt x 0 then a else pc + 3) ls r S) : zAt p l e R s m args below meth c Q D cl aC ov A k0 s0 ad0 pc ls ((0, x) :: r) S := by
  intro ad L H locs cells slots h1 h2 hl hP hD hS h3 h4 h5
  have kk := K0 ad L H locs cells slots h1 h2 hl hP hD hS h3 h4 h5
  have hy : inI (0 : Int) := ⟨by decide, by decide⟩
  have e1 := zi_lt hx hy
  refine lv_if_lt C.1 C.2.1 hd ha (fun q => ?_) (fun q => ?_)
  · rw [if_pos (show zcnd .lt x 0 = true by unfold zcnd; exact decide_eq_true (e1.mp q))] at kk
    exact kk
  · rw [if_neg (show ¬ zcnd .lt x 0 = true by unfold zcnd; exact fun z => q (e1.mpr (of_decide_eq_true z)))] at kk
    exact kk
theorem zs_icmp_lt (C : zCx p R s m args meth c D cl aC ov A X cc own nm Ts) {x y : Int} {off : Int} {a : Nat} (hx : inI x) (hy : inI y) (ha : (pc : Int) + off = (a : Int)) (hd : decode cc pc = .ok (.if_icmp .lt off, 3)) (K0 : zAt p l e R s m args below meth c Q D cl aC ov A k0 s0 ad0 (if zcnd .lt x y then a else pc + 3) ls r S) : zAt p l e R s m args below meth c Q D cl aC ov A k0 s0 ad0 pc ls ((0, y) :: (0, x) :: r) S := by
  intro ad L H locs cells slots h1 h2 hl hP hD hS h3 h4 h5
  have kk := K0 ad L H locs cells slots h1 h2 hl hP hD hS h3 h4 h5
  have e1 := zi_lt hx hy
  refine lv_icmp_lt C.1 C.2.1 hd ha (fun q => ?_) (fun q => ?_)
  · rw [if_pos (show zcnd .lt x y = true by unfold zcnd; exact decide_eq_true (e1.mp q))] at kk
    exact kk
  · rw [if_neg (show ¬ zcnd .lt x y = true by unfold zcnd; exact fun z => q (e1.mpr (of_decide_eq_true z)))] at kk
    exact kk
theorem zs_if_ge (C : zCx p R s m args meth c D cl aC ov A X cc own nm Ts) {x : Int} {off : Int} {a : Nat} (hx : inI x) (ha : (pc : Int) + off = (a : Int)) (hd : decode cc pc = .ok (.ifCond .ge off, 3)) (K0 : zAt p l e R s m args below meth c Q D cl aC ov A k0 s0 ad0 (if zcnd .ge x 0 then a else pc + 3) ls r S) : zAt p l e R s m args below meth c Q D cl aC ov A k0 s0 ad0 pc ls ((0, x) :: r) S := by
  intro ad L H locs cells slots h1 h2 hl hP hD hS h3 h4 h5
  have kk := K0 ad L H locs cells slots h1 h2 hl hP hD hS h3 h4 h5
  have hy : inI (0 : Int) := ⟨by decide, by decide⟩
  have e1 := zi_le hy hx
  refine lv_if_ge C.1 C.2.1 hd ha (fun q => ?_) (fun q => ?_)
  · rw [if_pos (show zcnd .ge x 0 = true by unfold zcnd; exact decide_eq_true (e1.mp q))] at kk
    exact kk
  · rw [if_neg (show ¬ zcnd .ge x 0 = true by unfold zcnd; exact fun z => q (e1.mpr (of_decide_eq_true z)))] at kk
    exact kk
theorem zs_icmp_ge (C : zCx p R s m args meth c D cl aC ov A X cc own nm Ts) {x y : Int} {off : Int} {a : Nat} (hx : inI x) (hy : inI y) (ha : (pc : Int) + off = (a : Int)) (hd : decode cc pc = .ok (.if_icmp .ge off, 3)) (K0 : zAt p l e R s m args below meth c Q D cl aC ov A k0 s0 ad0 (if zcnd .ge x y then a else pc + 3) ls r S) : zAt p l e R s m args below meth c Q D cl aC ov A k0 s0 ad0 pc ls ((0, y) :: (0, x) :: r) S := by
  intro ad L H locs cells slots h1 h2 hl hP hD hS h3 h4 h5
  have kk := K0 ad L H locs cells slots h1 h2 hl hP hD hS h3 h4 h5
  have e1 := zi_le hy hx
  refine lv_icmp_ge C.1 C.2.1 hd ha (fun q => ?_) (fun q => ?_)
  · rw [if_pos (show zcnd .ge x y = true by unfold zcnd; exact decide_eq_true (e1.mp q))] at kk
    exact kk
  · rw [if_neg (show ¬ zcnd .ge x y = true by unfold zcnd; exact fun z => q (e1.mpr (of_decide_eq_true z)))] at kk
    exact kk
theorem zs_if_gt (C : zCx p R s m args meth c D cl aC ov A X cc own nm Ts) {x : Int} {off : Int} {a : Nat} (hx : inI x) (ha : (pc : Int) + off = (a : Int)) (hd : decode cc pc = .ok (.ifCond .gt off, 3)) (K0 : zAt p l e R s m args below meth c Q D cl aC ov A k0 s0 ad0 (if zcnd .gt x 0 then a else pc + 3) ls r S) : zAt p l e R s m args below meth c Q D cl aC ov A k0 s0 ad0 pc ls ((0, x) :: r) S := by
  intro ad L H locs cells slots h1 h2 hl hP hD hS h3 h4 h5
  have kk := K0 ad L H locs cells slots h1 h2 hl hP hD hS h3 h4 h5
  have hy : inI (0 : Int) := ⟨by decide, by decide⟩
  have e1 := zi_lt hy hx
  refine lv_if_gt C.1 C.2.1 hd ha (fun q => ?_) (fun q => ?_)
  · rw [if_pos (show zcnd .gt x 0 = true by unfold zcnd; exact decide_eq_true (e1.mp q))] at kk
    exact kk
  · rw [if_neg (show ¬ zcnd .gt x 0 = true by unfold zcnd; exact fun z => q (e1.mpr (of_decide_eq_true z)))] at kk
    exact kk
theorem zs_icmp_gt (C : zCx p R s m args meth c D cl aC ov A X cc own nm Ts) {x y : Int} {off : Int} {a : Nat} (hx : inI x) (hy : inI y) (ha : (pc : Int) + off = (a : Int)) (hd : decode cc pc = .ok (.if_icmp .gt off, 3)) (K0 : zAt p l e R s m args below meth c Q D cl aC ov A k0 s0 ad0 (if zcnd .gt x y then a else pc + 3) ls r S) : zAt p l e R s m args below meth c Q D cl aC ov A k0 s0 ad0 pc ls ((0, y) :: (0, x) :: r) S := by
  intro ad L H locs cells slots h1 h2 hl hP hD hS h3 h4 h5
  have kk := K0 ad L H locs cells slots h1 h2 hl hP hD hS h3 h4 h5
  have e1 := zi_lt hy hx
  refine lv_icmp_gt C.1 C.2.1 hd ha (fun q => ?_) (fun q => ?_)
  · rw [if_pos (show zcnd .gt x y = true by unfold zcnd; exact decide_eq_true (e1.mp q))] at kk
    exact kk
  · rw [if_neg (show ¬ zcnd .gt x y = true by unfold zcnd; exact fun z => q (e1.mpr (of_decide_eq_true z)))] at kk
    exact kk
theorem zs_if_le (C : zCx p R s m args meth c D cl aC ov A X cc own nm Ts) {x : Int} {off : Int} {a : Nat} (hx : inI x) (ha : (pc : Int) + off = (a : Int)) (hd : decode cc pc = .ok (.ifCond .le off, 3)) (K0 : zAt p l e R s m args below meth c Q D cl aC ov A k0 s0 ad0 (if zcnd .le x 0 then a else pc + 3) ls r S) : zAt p l e R s m args below meth c Q D cl aC ov A k0 s0 ad0 pc ls ((0, x) :: r) S := by
  intro ad L H locs cells slots h1 h2 hl hP hD hS h3 h4 h5
  have kk := K0 ad L H locs cells slots h1 h2 hl hP hD hS h3 h4 h5
  have hy : inI (0 : Int) := ⟨by decide, by decide⟩
  have e1 := zi_le hx hy
  refine lv_if_le C.1 C.2.1 hd ha (fun q => ?_) (fun q => ?_)
  · rw [if_pos (show zcnd .le x 0 = true by unfold zcnd; exact decide_eq_true (e1.mp q))] at kk
    exact kk
  · rw [if_neg (show ¬ zcnd .le x 0 = true by unfold zcnd; exact fun z => q (e1.mpr (of_decide_eq_true z)))] at kk
    exact kk
theorem zs_icmp_le (C : zCx p R s m args meth c D cl aC ov A X cc own nm Ts) {x y : Int} {off : Int} {a : Nat} (hx : inI x) (hy : inI y) (ha : (pc : Int) + off = (a : Int)) (hd : decode cc pc = .ok (.if_icmp .le off, 3)) (K0 : zAt p l e R s m args below meth c Q D cl aC ov A k0 s0 ad0 (if zcnd .le x y then a else pc + 3) ls r S) : zAt p l e R s m args below meth c Q D cl aC ov A k0 s0 ad0 pc ls ((0, y) :: (0, x) :: r) S := by
  intro ad L H locs cells slots h1 h2 hl hP hD hS h3 h4 h5
  have kk := K0 ad L H locs cells slots h1 h2 hl hP hD hS h3 h4 h5
  have e1 := zi_le hx hy
  refine lv_icmp_le C.1 C.2.1 hd ha (fun q => ?_) (fun q => ?_)
  · rw [if_pos (show zcnd .le x y = true by unfold zcnd; exact decide_eq_true (e1.mp q))] at kk
    exact kk
  · rw [if_neg (show ¬ zcnd .le x y = true by unfold zcnd; exact fun z => q (e1.mpr (of_decide_eq_true z)))] at kk
    exact kk
theorem zs_tabOut (C : zCx p R s m args meth c D cl aC ov A X cc own nm Ts) {dflt lo hi : Int} {offs : Array Int} {len a : Nat} {x : Int} (hx : inI x) (h : x < lo ∨ hi < x) (ha : (pc : Int) + dflt = (a : Int)) (hd : decode cc pc = .ok (.tableswitch dflt lo hi offs, len)) (K0 : zAt p l e R s m args below meth c Q D cl aC ov A k0 s0 ad0 a ls r S) : zAt p l e R s m args below meth c Q D cl aC ov A k0 s0 ad0 pc ls ((0, x) :: r) S := by
  intro ad L H locs cells slots h1 h2 hl hP hD hS h3 h4 h5
  exact lv_tableOut C.1 C.2.1 hd (by rw [zi_toInt hx]; exact h) ha (K0 ad L H locs cells slots h1 h2 hl hP hD hS h3 h4 h5)
theorem zs_tabIn (C : zCx p R s m args meth c D cl aC ov A X cc own nm Ts) {dflt lo hi off : Int} {offs : Array Int} {len a : Nat} {x : Int} (hx : inI x) (h : ¬ (x < lo ∨ hi < x)) (ho : offs[(x - lo).toNat]? = some off) (ha : (pc : Int) + off = (a : Int)) (hd : decode cc pc = .ok (.tableswitch dflt lo hi offs, len)) (K0 : zAt p l e R s m args below meth c Q D cl aC ov A k0 s0 ad0 a ls r S) : zAt p l e R s m args below meth c Q D cl aC ov A k0 s0 ad0 pc ls ((0, x) :: r) S := by
  intro ad L H locs cells slots h1 h2 hl hP hD hS h3 h4 h5
  exact lv_tableIn C.1 C.2.1 hd (by rw [zi_toInt hx]; exact fun q => h (Or.inl q)) (by rw [zi_toInt hx]; exact fun q => h (Or.inr q)) (by rw [zi_toInt hx]; exact ho) ha (K0 ad L H locs cells slots h1 h2 hl hP hD hS h3 h4 h5)
theorem zs_look (C : zCx p R s m args meth c D cl aC ov A X cc own nm Ts) {dflt : Int} {ps : Array (Int × Int)} {len a : Nat} {x : Int} (hx : inI x) (hp : (ps.toList.zip (ps.toList.drop 1)).all (fun (a, next) => a.1 < next.1) = true) (ha : (pc : Int) + Op.lookupswitch.offset ps.toList dflt x = (a : Int)) (hd : decode cc pc = .ok (.lookupswitch dflt ps, len)) (K0 : zAt p l e R s m args below meth c Q D cl aC ov A k0 s0 ad0 a ls r S) : zAt p l e R s m args below meth c Q D cl aC ov A k0 s0 ad0 pc ls ((0, x) :: r) S := by
  intro ad L H locs cells slots h1 h2 hl hP hD hS h3 h4 h5
  exact lv_lookup C.1 C.2.1 hd hp (by rw [zi_toInt hx]) ha (K0 ad L H locs cells slots h1 h2 hl hP hD hS h3 h4 h5)
end ZR
