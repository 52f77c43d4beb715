def L_scene_addRent_2 (X : zX) (d : Nat) (rf : zF) (Q : zF → Prop) (mem : zF) (o : Nat) (x1 : Int) (x2 : Int) (x3 : Int) : Prop := zW X (d + 1) 95 2 [(2, ((o : Nat) : Int)), (0, x1), (0, x2), (0, x3)] [] (zty, rf, mem) (qv rf Q)
set_option maxRecDepth 4000 in
theorem s_scene_addRent_2 {X : zX} {d : Nat} {rf mem : zF} {Q : zF → Prop} (hR : zall rf zRK = true) {o : Nat} (ho : zScn rf o) {x1 : Int} {x2 : Int} {x3 : Int} (h : (inI x3) ∧ ((6 ≤ x3 → Q mem) ∧ (¬ 6 ≤ x3 → Ci X d 96 [(0, x1)] rf mem (fun r2 mem3 => (inI r2) ∧ ((r2 = 0 → Q mem3) ∧ (¬ r2 = 0 → (0 ≤ x1 ∧ x1 < 6) ∧ ((inI (zand (zshr (mem3 (o + 5) (x1).toNat) x3) 1)) ∧ ((¬ (zand (zshr (mem3 (o + 5) (x1).toNat) x3) 1) = 1 → L_scene_addRent_2 X d rf Q mem3 o x1 x2 (x3 + 1)) ∧ ((zand (zshr (mem3 (o + 5) (x1).toNat) x3) 1) = 1 → (0 ≤ x3 ∧ x3 < 6) ∧ (Ci X d 321 [(0, 999), (0, ((mem3 (o + 7) (x3).toNat) + x2))] rf mem3 (fun r6 mem7 => (0 ≤ x3 ∧ x3 < 6) ∧ (L_scene_addRent_2 X d rf Q (zup mem7 (o + 7) (x3).toNat r6) o x1 x2 (x3 + 1))))))))))))) : L_scene_addRent_2 X d rf Q mem o x1 x2 x3 := by
  refine zW.go 2 5 [(2, ((o : Nat) : Int)), (0, x1), (0, x2), (0, x3)] [(0, 6), (0, x3)] _ rfl ?_
  refine w_ic_ge rfl (by decide) (pc' := 8) rfl ⟨h.1, by decide⟩ (fun c1 => ?_) (fun c1 => ?_)
  · have h := h.2.1 c1
    exact w_retv rfl rfl h
  · have h := h.2.2 c1
    refine zW.go 1 9 [(2, ((o : Nat) : Int)), (0, x1), (0, x2), (0, x3)] [(0, x1)] _ rfl ?_
    refine w_calli (as := [(0, x1)]) [] 12 rfl rfl rfl rfl (Nat.le_of_ble_eq_true rfl) (Nat.le_of_ble_eq_true rfl) (Nat.le_of_ble_eq_true rfl) (Or.inl rfl) (Ci.imp h (fun r2 mem3 h => ?_))
    refine w_if_eq rfl (by decide) (pc' := 15) rfl h.1 (fun c4 => ?_) (fun c4 => ?_)
    · have h := h.2.1 c4
      exact w_retv rfl rfl h
    · have h := h.2.2 c4
      refine zW.go 1 16 [(2, ((o : Nat) : Int)), (0, x1), (0, x2), (0, x3)] [(2, ((o : Nat) : Int))] _ rfl ?_
      refine w_getL (q := o) (v := ((o + 5 : Nat) : Int)) rfl (by decide) (pc' := 19) rfl ⟨Int.natCast_nonneg _, rfl⟩ (zScn_t0 ho) rfl (zScn_r0_7 ho) ?_
      refine zW.go 1 20 [(2, ((o : Nat) : Int)), (0, x1), (0, x2), (0, x3)] [(0, x1), (2, ((o + 5 : Nat) : Int))] _ rfl ?_
      obtain ⟨g, h⟩ := h
      refine w_iald (q := (o + 5)) rfl (by decide) (pc' := 21) rfl ⟨Int.natCast_nonneg _, rfl⟩ (zScn_t5 ho) g rfl ?_
      refine zW.go 5 26 [(2, ((o : Nat) : Int)), (0, x1), (0, x2), (0, x3)] [(0, 1), (0, (zand (zshr (mem3 (o + 5) (x1).toNat) x3) 1))] _ rfl ?_
      refine w_ic_ne rfl (by decide) (pc' := 29) rfl ⟨h.1, by decide⟩ (fun c5 => ?_) (fun c5 => ?_)
      · have h := h.2.1 c5
        refine zW.go 2 2 [(2, ((o : Nat) : Int)), (0, x1), (0, x2), (0, (x3 + 1))] [] _ rfl ?_
        exact h
      · have h := h.2.2 c5
        refine zW.go 1 30 [(2, ((o : Nat) : Int)), (0, x1), (0, x2), (0, x3)] [(2, ((o : Nat) : Int))] _ rfl ?_
        refine w_getL (q := o) (v := ((o + 7 : Nat) : Int)) rfl (by decide) (pc' := 33) rfl ⟨Int.natCast_nonneg _, rfl⟩ (zScn_t0 ho) rfl (zScn_r0_9 ho) ?_
        refine zW.go 3 38 [(2, ((o : Nat) : Int)), (0, x1), (0, x2), (0, x3)] [(2, ((o : Nat) : Int)), (0, 999), (0, x3), (2, ((o + 7 : Nat) : Int))] _ rfl ?_
        refine w_getL (q := o) (v := ((o + 7 : Nat) : Int)) rfl (by decide) (pc' := 41) rfl ⟨Int.natCast_nonneg _, rfl⟩ (zScn_t0 ho) rfl (zScn_r0_9 ho) ?_
        refine zW.go 1 42 [(2, ((o : Nat) : Int)), (0, x1), (0, x2), (0, x3)] [(0, x3), (2, ((o + 7 : Nat) : Int)), (0, 999), (0, x3), (2, ((o + 7 : Nat) : Int))] _ rfl ?_
        obtain ⟨g, h⟩ := h
        refine w_iald (q := (o + 7)) rfl (by decide) (pc' := 43) rfl ⟨Int.natCast_nonneg _, rfl⟩ (zScn_t7 ho) g rfl ?_
        refine zW.go 2 45 [(2, ((o : Nat) : Int)), (0, x1), (0, x2), (0, x3)] [(0, ((mem3 (o + 7) (x3).toNat) + x2)), (0, 999), (0, x3), (2, ((o + 7 : Nat) : Int))] _ rfl ?_
        refine w_calli (as := [(0, 999), (0, ((mem3 (o + 7) (x3).toNat) + x2))]) [(0, x3), (2, ((o + 7 : Nat) : Int))] 48 rfl rfl rfl rfl (Nat.le_of_ble_eq_true rfl) (Nat.le_of_ble_eq_true rfl) (Nat.le_of_ble_eq_true rfl) (Or.inl rfl) (Ci.imp h (fun r6 mem7 h => ?_))
        obtain ⟨g, h⟩ := h
        refine w_iast (q := (o + 7)) rfl (by decide) (pc' := 49) rfl ⟨Int.natCast_nonneg _, rfl⟩ (zScn_t7 ho) g rfl ?_
        refine zW.go 2 2 [(2, ((o : Nat) : Int)), (0, x1), (0, x2), (0, (x3 + 1))] [] _ rfl ?_
        exact h
set_option maxRecDepth 4000 in
theorem s_scene_addRent {X : zX} {d : Nat} {rf mem : zF} {Q : zF → Prop} (hR : zall rf zRK = true) {o : Nat} (ho : zScn rf o) {x1 : Int} {x2 : Int} (h : L_scene_addRent_2 X d rf Q mem o x1 x2 0) : Cv X (d + 1) 95 [(2, ((o : Nat) : Int)), (0, x1), (0, x2)] rf mem Q := by
  show zW X (d + 1) 95 0 [(2, ((o : Nat) : Int)), (0, x1), (0, x2), (9, 0)] [] (zty, rf, mem) (qv rf Q)
  refine zW.go 2 2 [(2, ((o : Nat) : Int)), (0, x1), (0, x2), (0, 0)] [] _ rfl ?_
  exact h
set_option maxRecDepth 4000 in
theorem s_scene_isSlot {X : zX} {d : Nat} {rf mem : zF} {Q : Int → zF → Prop} (hR : zall rf zRK = true) {x0 : Int} (h : (inI x0) ∧ ((x0 < 0 → Q 0 mem) ∧ (¬ x0 < 0 → (inI x0) ∧ ((6 ≤ x0 → Q 0 mem) ∧ (¬ 6 ≤ x0 → Q 1 mem))))) : Ci X d 96 [(0, x0)] rf mem Q := by
  show zW X d 96 0 [(0, x0)] [] (zty, rf, mem) (qi rf Q)
  refine zW.go 1 1 [(0, x0)] [(0, x0)] _ rfl ?_
  refine w_if_lt rfl (by decide) (pc' := 4) rfl h.1 (fun c1 => ?_) (fun c1 => ?_)
  · have h := h.2.1 c1
    refine zW.go 1 15 [(0, x0)] [(0, 0)] _ rfl ?_
    exact w_retz rfl rfl (by decide) h
  · have h := h.2.2 c1
    refine zW.go 2 7 [(0, x0)] [(0, 6), (0, x0)] _ rfl ?_
    refine w_ic_ge rfl (by decide) (pc' := 10) rfl ⟨h.1, by decide⟩ (fun c2 => ?_) (fun c2 => ?_)
    · have h := h.2.1 c2
      refine zW.go 1 15 [(0, x0)] [(0, 0)] _ rfl ?_
      exact w_retz rfl rfl (by decide) h
    · have h := h.2.2 c2
      refine zW.go 2 15 [(0, x0)] [(0, 1)] _ rfl ?_
      exact w_retz rfl rfl (by decide) h
set_option maxRecDepth 4000 in
theorem s_scene_clearBubble {X : zX} {d : Nat} {rf mem : zF} {Q : zF → Prop} (hR : zall rf zRK = true) {o : Nat} (ho : zScn rf o) {x1 : Int} (h : (0 ≤ x1 ∧ x1 < 6) ∧ ((0 ≤ x1 ∧ x1 < 6) ∧ ((0 ≤ x1 ∧ x1 < 6) ∧ ((0 ≤ x1 ∧ x1 < 6) ∧ (Q (zup (zup (zup (zup mem (o + 2) (x1).toNat (-1)) (o + 3) (x1).toNat 0) (o + 4) (x1).toNat 0) (o + 5) (x1).toNat 0)))))) : Cv X d 97 [(2, ((o : Nat) : Int)), (0, x1)] rf mem Q := by
  show zW X d 97 0 [(2, ((o : Nat) : Int)), (0, x1)] [] (zty, rf, mem) (qv rf Q)
  refine zW.go 1 1 [(2, ((o : Nat) : Int)), (0, x1)] [(2, ((o : Nat) : Int))] _ rfl ?_
  refine w_getL (q := o) (v := ((o + 2 : Nat) : Int)) rfl (by decide) (pc' := 4) rfl ⟨Int.natCast_nonneg _, rfl⟩ (zScn_t0 ho) rfl (zScn_r0_4 ho) ?_
  refine zW.go 2 6 [(2, ((o : Nat) : Int)), (0, x1)] [(0, (-1)), (0, x1), (2, ((o + 2 : Nat) : Int))] _ rfl ?_
  obtain ⟨g, h⟩ := h
  refine w_iast (q := (o + 2)) rfl (by decide) (pc' := 7) rfl ⟨Int.natCast_nonneg _, rfl⟩ (zScn_t2 ho) g rfl ?_
  refine zW.go 1 8 [(2, ((o : Nat) : Int)), (0, x1)] [(2, ((o : Nat) : Int))] _ rfl ?_
  refine w_getL (q := o) (v := ((o + 3 : Nat) : Int)) rfl (by decide) (pc' := 11) rfl ⟨Int.natCast_nonneg _, rfl⟩ (zScn_t0 ho) rfl (zScn_r0_5 ho) ?_
  refine zW.go 2 13 [(2, ((o : Nat) : Int)), (0, x1)] [(0, 0), (0, x1), (2, ((o + 3 : Nat) : Int))] _ rfl ?_
  obtain ⟨g, h⟩ := h
  refine w_iast (q := (o + 3)) rfl (by decide) (pc' := 14) rfl ⟨Int.natCast_nonneg _, rfl⟩ (zScn_t3 ho) g rfl ?_
  refine zW.go 1 15 [(2, ((o : Nat) : Int)), (0, x1)] [(2, ((o : Nat) : Int))] _ rfl ?_
  refine w_getL (q := o) (v := ((o + 4 : Nat) : Int)) rfl (by decide) (pc' := 18) rfl ⟨Int.natCast_nonneg _, rfl⟩ (zScn_t0 ho) rfl (zScn_r0_6 ho) ?_
  refine zW.go 2 20 [(2, ((o : Nat) : Int)), (0, x1)] [(0, 0), (0, x1), (2, ((o + 4 : Nat) : Int))] _ rfl ?_
  obtain ⟨g, h⟩ := h
  refine w_iast (q := (o + 4)) rfl (by decide) (pc' := 21) rfl ⟨Int.natCast_nonneg _, rfl⟩ (zScn_t4 ho) g rfl ?_
  refine zW.go 1 22 [(2, ((o : Nat) : Int)), (0, x1)] [(2, ((o : Nat) : Int))] _ rfl ?_
  refine w_getL (q := o) (v := ((o + 5 : Nat) : Int)) rfl (by decide) (pc' := 25) rfl ⟨Int.natCast_nonneg _, rfl⟩ (zScn_t0 ho) rfl (zScn_r0_7 ho) ?_
  refine zW.go 2 27 [(2, ((o : Nat) : Int)), (0, x1)] [(0, 0), (0, x1), (2, ((o + 5 : Nat) : Int))] _ rfl ?_
  obtain ⟨g, h⟩ := h
  refine w_iast (q := (o + 5)) rfl (by decide) (pc' := 28) rfl ⟨Int.natCast_nonneg _, rfl⟩ (zScn_t5 ho) g rfl ?_
  exact w_retv rfl rfl h
set_option maxRecDepth 4000 in
theorem s_scene_keep {X : zX} {d : Nat} {rf mem : zF} {Q : zF → Prop} (hR : zall rf zRK = true) {o : Nat} (ho : zScn rf o) {x1 : Int} {x2 : Int} {x3 : Int} (h : Ci X d 96 [(0, (mem o 11))] rf mem (fun r1 mem2 => (inI r1) ∧ ((r1 = 0 → Q mem2) ∧ (¬ r1 = 0 → (0 ≤ (4 * (mem2 o 11)) ∧ (4 * (mem2 o 11)) < 24) ∧ ((0 ≤ ((4 * (mem2 o 11)) + 1) ∧ ((4 * (mem2 o 11)) + 1) < 24) ∧ ((0 ≤ ((4 * (mem2 o 11)) + 2) ∧ ((4 * (mem2 o 11)) + 2) < 24) ∧ ((0 ≤ ((4 * (mem2 o 11)) + 3) ∧ ((4 * (mem2 o 11)) + 3) < 24) ∧ (Q (zup (zup (zup (zup (zup mem2 (o + 8) ((4 * (mem2 o 11))).toNat (mem2 o 0)) (o + 8) (((4 * (mem2 o 11)) + 1)).toNat x1) (o + 8) (((4 * (mem2 o 11)) + 2)).toNat x2) (o + 8) (((4 * (mem2 o 11)) + 3)).toNat x3) o 11 (((zup (zup (zup (zup mem2 (o + 8) ((4 * (mem2 o 11))).toNat (mem2 o 0)) (o + 8) (((4 * (mem2 o 11)) + 1)).toNat x1) (o + 8) (((4 * (mem2 o 11)) + 2)).toNat x2) (o + 8) (((4 * (mem2 o 11)) + 3)).toNat x3) o 11) + 1)))))))))) : Cv X (d + 1) 98 [(2, ((o : Nat) : Int)), (0, x1), (0, x2), (0, x3)] rf mem Q := by
  show zW X (d + 1) 98 0 [(2, ((o : Nat) : Int)), (0, x1), (0, x2), (0, x3), (9, 0)] [] (zty, rf, mem) (qv rf Q)
  refine zW.go 1 1 [(2, ((o : Nat) : Int)), (0, x1), (0, x2), (0, x3), (9, 0)] [(2, ((o : Nat) : Int))] _ rfl ?_
  refine w_getI (q := o) rfl (by decide) (pc' := 4) rfl ⟨Int.natCast_nonneg _, rfl⟩ (zScn_t0 ho) (by decide) ?_
  refine w_calli (as := [(0, (mem o 11))]) [] 7 rfl rfl rfl rfl (Nat.le_of_ble_eq_true rfl) (Nat.le_of_ble_eq_true rfl) (Nat.le_of_ble_eq_true rfl) (Or.inl rfl) (Ci.imp h (fun r1 mem2 h => ?_))
  refine w_if_eq rfl (by decide) (pc' := 10) rfl h.1 (fun c3 => ?_) (fun c3 => ?_)
  · have h := h.2.1 c3
    exact w_retv rfl rfl h
  · have h := h.2.2 c3
    refine zW.go 2 12 [(2, ((o : Nat) : Int)), (0, x1), (0, x2), (0, x3), (9, 0)] [(2, ((o : Nat) : Int)), (0, 4)] _ rfl ?_
    refine w_getI (q := o) rfl (by decide) (pc' := 15) rfl ⟨Int.natCast_nonneg _, rfl⟩ (zScn_t0 ho) (by decide) ?_
    refine zW.go 3 19 [(2, ((o : Nat) : Int)), (0, x1), (0, x2), (0, x3), (0, (4 * (mem2 o 11)))] [(2, ((o : Nat) : Int))] _ rfl ?_
    refine w_getL (q := o) (v := ((o + 8 : Nat) : Int)) rfl (by decide) (pc' := 22) rfl ⟨Int.natCast_nonneg _, rfl⟩ (zScn_t0 ho) rfl (zScn_r0_10 ho) ?_
    refine zW.go 2 25 [(2, ((o : Nat) : Int)), (0, x1), (0, x2), (0, x3), (0, (4 * (mem2 o 11)))] [(2, ((o : Nat) : Int)), (0, (4 * (mem2 o 11))), (2, ((o + 8 : Nat) : Int))] _ rfl ?_
    refine w_getI (q := o) rfl (by decide) (pc' := 28) rfl ⟨Int.natCast_nonneg _, rfl⟩ (zScn_t0 ho) (by decide) ?_
    obtain ⟨g, h⟩ := h
    refine w_iast (q := (o + 8)) rfl (by decide) (pc' := 29) rfl ⟨Int.natCast_nonneg _, rfl⟩ (zScn_t8 ho) g rfl ?_
    refine zW.go 1 30 [(2, ((o : Nat) : Int)), (0, x1), (0, x2), (0, x3), (0, (4 * (mem2 o 11)))] [(2, ((o : Nat) : Int))] _ rfl ?_
    refine w_getL (q := o) (v := ((o + 8 : Nat) : Int)) rfl (by decide) (pc' := 33) rfl ⟨Int.natCast_nonneg _, rfl⟩ (zScn_t0 ho) rfl (zScn_r0_10 ho) ?_
    refine zW.go 4 38 [(2, ((o : Nat) : Int)), (0, x1), (0, x2), (0, x3), (0, (4 * (mem2 o 11)))] [(0, x1), (0, ((4 * (mem2 o 11)) + 1)), (2, ((o + 8 : Nat) : Int))] _ rfl ?_
    obtain ⟨g, h⟩ := h
    refine w_iast (q := (o + 8)) rfl (by decide) (pc' := 39) rfl ⟨Int.natCast_nonneg _, rfl⟩ (zScn_t8 ho) g rfl ?_
    refine zW.go 1 40 [(2, ((o : Nat) : Int)), (0, x1), (0, x2), (0, x3), (0, (4 * (mem2 o 11)))] [(2, ((o : Nat) : Int))] _ rfl ?_
    refine w_getL (q := o) (v := ((o + 8 : Nat) : Int)) rfl (by decide) (pc' := 43) rfl ⟨Int.natCast_nonneg _, rfl⟩ (zScn_t0 ho) rfl (zScn_r0_10 ho) ?_
    refine zW.go 4 48 [(2, ((o : Nat) : Int)), (0, x1), (0, x2), (0, x3), (0, (4 * (mem2 o 11)))] [(0, x2), (0, ((4 * (mem2 o 11)) + 2)), (2, ((o + 8 : Nat) : Int))] _ rfl ?_
    obtain ⟨g, h⟩ := h
    refine w_iast (q := (o + 8)) rfl (by decide) (pc' := 49) rfl ⟨Int.natCast_nonneg _, rfl⟩ (zScn_t8 ho) g rfl ?_
    refine zW.go 1 50 [(2, ((o : Nat) : Int)), (0, x1), (0, x2), (0, x3), (0, (4 * (mem2 o 11)))] [(2, ((o : Nat) : Int))] _ rfl ?_
    refine w_getL (q := o) (v := ((o + 8 : Nat) : Int)) rfl (by decide) (pc' := 53) rfl ⟨Int.natCast_nonneg _, rfl⟩ (zScn_t0 ho) rfl (zScn_r0_10 ho) ?_
    refine zW.go 4 58 [(2, ((o : Nat) : Int)), (0, x1), (0, x2), (0, x3), (0, (4 * (mem2 o 11)))] [(0, x3), (0, ((4 * (mem2 o 11)) + 3)), (2, ((o + 8 : Nat) : Int))] _ rfl ?_
    obtain ⟨g, h⟩ := h
    refine w_iast (q := (o + 8)) rfl (by decide) (pc' := 59) rfl ⟨Int.natCast_nonneg _, rfl⟩ (zScn_t8 ho) g rfl ?_
    refine zW.go 2 61 [(2, ((o : Nat) : Int)), (0, x1), (0, x2), (0, x3), (0, (4 * (mem2 o 11)))] [(2, ((o : Nat) : Int)), (2, ((o : Nat) : Int))] _ rfl ?_
    refine w_getI (q := o) rfl (by decide) (pc' := 64) rfl ⟨Int.natCast_nonneg _, rfl⟩ (zScn_t0 ho) (by decide) ?_
    refine zW.go 2 66 [(2, ((o : Nat) : Int)), (0, x1), (0, x2), (0, x3), (0, (4 * (mem2 o 11)))] [(0, (((zup (zup (zup (zup mem2 (o + 8) ((4 * (mem2 o 11))).toNat (mem2 o 0)) (o + 8) (((4 * (mem2 o 11)) + 1)).toNat x1) (o + 8) (((4 * (mem2 o 11)) + 2)).toNat x2) (o + 8) (((4 * (mem2 o 11)) + 3)).toNat x3) o 11) + 1)), (2, ((o : Nat) : Int))] _ rfl ?_
    refine w_putI (q := o) rfl (by decide) (pc' := 69) rfl ⟨Int.natCast_nonneg _, rfl⟩ (zScn_t0 ho) (by decide) ?_
    exact w_retv rfl rfl h
set_option maxRecDepth 4000 in
theorem s_seer_start {X : zX} {d : Nat} {rf mem : zF} {Q : zF → Prop} (hR : zall rf zRK = true) {p : Nat} (hp : zPln rf p) {o : Nat} (ho : zScn rf o) (h : Cv X d 86 [(2, 39), (2, ((o : Nat) : Int))] rf mem (fun mem1 => Cv X d 141 [(2, 36), (2, ((p : Nat) : Int)), (2, 39)] rf mem1 (fun mem2 => Q mem2))) : Cv X (d + 1) 100 [(2, 35), (2, ((p : Nat) : Int)), (2, ((o : Nat) : Int))] rf mem Q := by
  show zW X (d + 1) 100 0 [(2, 35), (2, ((p : Nat) : Int)), (2, ((o : Nat) : Int))] [] (zty, rf, mem) (qv rf Q)
  refine zW.go 1 1 [(2, 35), (2, ((p : Nat) : Int)), (2, ((o : Nat) : Int))] [(2, 35)] _ rfl ?_
  refine w_getL (q := 35) (v := 39) rfl (by decide) (pc' := 4) rfl ⟨by decide, rfl⟩ rfl rfl (zall_at hR (by decide)) ?_
  refine zW.go 1 5 [(2, 35), (2, ((p : Nat) : Int)), (2, ((o : Nat) : Int))] [(2, ((o : Nat) : Int)), (2, 39)] _ rfl ?_
  refine w_callv (as := [(2, 39), (2, ((o : Nat) : Int))]) [] 8 rfl rfl rfl rfl (Nat.le_of_ble_eq_true rfl) (Nat.le_of_ble_eq_true rfl) (Nat.le_of_ble_eq_true rfl) (Or.inr rfl) (Cv.imp h (fun mem1 h => ?_))
  refine zW.go 1 9 [(2, 35), (2, ((p : Nat) : Int)), (2, ((o : Nat) : Int))] [(2, 35)] _ rfl ?_
  refine w_getL (q := 35) (v := 36) rfl (by decide) (pc' := 12) rfl ⟨by decide, rfl⟩ rfl rfl (zall_at hR (by decide)) ?_
  refine zW.go 2 14 [(2, 35), (2, ((p : Nat) : Int)), (2, ((o : Nat) : Int))] [(2, 35), (2, ((p : Nat) : Int)), (2, 36)] _ rfl ?_
  refine w_getL (q := 35) (v := 39) rfl (by decide) (pc' := 17) rfl ⟨by decide, rfl⟩ rfl rfl (zall_at hR (by decide)) ?_
  refine w_callv (as := [(2, 36), (2, ((p : Nat) : Int)), (2, 39)]) [] 20 rfl rfl rfl rfl (Nat.le_of_ble_eq_true rfl) (Nat.le_of_ble_eq_true rfl) (Nat.le_of_ble_eq_true rfl) (Or.inr rfl) (Cv.imp h (fun mem2 h => ?_))
  exact w_retv rfl rfl h
def L_seer_run_2 (X : zX) (d : Nat) (rf : zF) (Q : zF → Prop) (mem : zF) (p : Nat) (x2 : Int) (x3 : Int) : Prop := zW X (d + 1) 101 2 [(2, 35), (2, ((p : Nat) : Int)), (0, x2), (0, x3)] [] (zty, rf, mem) (qv rf Q)
set_option maxRecDepth 4000 in
theorem s_seer_run_2 {X : zX} {d : Nat} {rf mem : zF} {Q : zF → Prop} (hR : zall rf zRK = true) {p : Nat} (hp : zPln rf p) {x2 : Int} {x3 : Int} (h : (inI x3 ∧ inI x2) ∧ ((x2 ≤ x3 → Q mem) ∧ (¬ x2 ≤ x3 → Ci X d 144 [(2, 36), (2, ((p : Nat) : Int)), (2, 39), (0, (-1))] rf mem (fun r2 mem3 => L_seer_run_2 X d rf Q mem3 p x2 (x3 + 1))))) : L_seer_run_2 X d rf Q mem p x2 x3 := by
  refine zW.go 2 4 [(2, 35), (2, ((p : Nat) : Int)), (0, x2), (0, x3)] [(0, x2), (0, x3)] _ rfl ?_
  refine w_ic_ge rfl (by decide) (pc' := 7) rfl h.1 (fun c1 => ?_) (fun c1 => ?_)
  · have h := h.2.1 c1
    exact w_retv rfl rfl h
  · have h := h.2.2 c1
    refine zW.go 1 8 [(2, 35), (2, ((p : Nat) : Int)), (0, x2), (0, x3)] [(2, 35)] _ rfl ?_
    refine w_getL (q := 35) (v := 36) rfl (by decide) (pc' := 11) rfl ⟨by decide, rfl⟩ rfl rfl (zall_at hR (by decide)) ?_
    refine zW.go 2 13 [(2, 35), (2, ((p : Nat) : Int)), (0, x2), (0, x3)] [(2, 35), (2, ((p : Nat) : Int)), (2, 36)] _ rfl ?_
    refine w_getL (q := 35) (v := 39) rfl (by decide) (pc' := 16) rfl ⟨by decide, rfl⟩ rfl rfl (zall_at hR (by decide)) ?_
    refine zW.go 1 17 [(2, 35), (2, ((p : Nat) : Int)), (0, x2), (0, x3)] [(0, (-1)), (2, 39), (2, ((p : Nat) : Int)), (2, 36)] _ rfl ?_
    refine w_calli (as := [(2, 36), (2, ((p : Nat) : Int)), (2, 39), (0, (-1))]) [] 20 rfl rfl rfl rfl (Nat.le_of_ble_eq_true rfl) (Nat.le_of_ble_eq_true rfl) (Nat.le_of_ble_eq_true rfl) (Or.inr rfl) (Ci.imp h (fun r2 mem3 h => ?_))
    refine zW.go 3 2 [(2, 35), (2, ((p : Nat) : Int)), (0, x2), (0, (x3 + 1))] [] _ rfl ?_
    exact h
set_option maxRecDepth 4000 in
theorem s_seer_run {X : zX} {d : Nat} {rf mem : zF} {Q : zF → Prop} (hR : zall rf zRK = true) {p : Nat} (hp : zPln rf p) {x2 : Int} (h : L_seer_run_2 X d rf Q mem p x2 0) : Cv X (d + 1) 101 [(2, 35), (2, ((p : Nat) : Int)), (0, x2)] rf mem Q := by
  show zW X (d + 1) 101 0 [(2, 35), (2, ((p : Nat) : Int)), (0, x2), (9, 0)] [] (zty, rf, mem) (qv rf Q)
  refine zW.go 2 2 [(2, 35), (2, ((p : Nat) : Int)), (0, x2), (0, 0)] [] _ rfl ?_
  exact h
set_option maxRecDepth 4000 in
theorem s_seer_after {X : zX} {d : Nat} {rf mem : zF} {Q : Int → zF → Prop} (hR : zall rf zRK = true) {p : Nat} (hp : zPln rf p) {o : Nat} (ho : zScn rf o) {x3 : Int} (h : Cv X d 100 [(2, 35), (2, ((p : Nat) : Int)), (2, ((o : Nat) : Int))] rf mem (fun mem1 => Cv X d 101 [(2, 35), (2, ((p : Nat) : Int)), (0, x3)] rf mem1 (fun mem2 => Q 39 mem2))) : Cr X (d + 1) 102 [(2, 35), (2, ((p : Nat) : Int)), (2, ((o : Nat) : Int)), (0, x3)] rf mem Q := by
  show zW X (d + 1) 102 0 [(2, 35), (2, ((p : Nat) : Int)), (2, ((o : Nat) : Int)), (0, x3)] [] (zty, rf, mem) (qr rf Q)
  refine zW.go 3 3 [(2, 35), (2, ((p : Nat) : Int)), (2, ((o : Nat) : Int)), (0, x3)] [(2, ((o : Nat) : Int)), (2, ((p : Nat) : Int)), (2, 35)] _ rfl ?_
  refine w_callv (as := [(2, 35), (2, ((p : Nat) : Int)), (2, ((o : Nat) : Int))]) [] 6 rfl rfl rfl rfl (Nat.le_of_ble_eq_true rfl) (Nat.le_of_ble_eq_true rfl) (Nat.le_of_ble_eq_true rfl) (Or.inr rfl) (Cv.imp h (fun mem1 h => ?_))
  refine zW.go 3 9 [(2, 35), (2, ((p : Nat) : Int)), (2, ((o : Nat) : Int)), (0, x3)] [(0, x3), (2, ((p : Nat) : Int)), (2, 35)] _ rfl ?_
  refine w_callv (as := [(2, 35), (2, ((p : Nat) : Int)), (0, x3)]) [] 12 rfl rfl rfl rfl (Nat.le_of_ble_eq_true rfl) (Nat.le_of_ble_eq_true rfl) (Nat.le_of_ble_eq_true rfl) (Or.inr rfl) (Cv.imp h (fun mem2 h => ?_))
  refine zW.go 1 13 [(2, 35), (2, ((p : Nat) : Int)), (2, ((o : Nat) : Int)), (0, x3)] [(2, 35)] _ rfl ?_
  refine w_getL (q := 35) (v := 39) rfl (by decide) (pc' := 16) rfl ⟨by decide, rfl⟩ rfl rfl (zall_at hR (by decide)) ?_
  exact w_retr rfl rfl h
def L_seer_secondOfGoing_24 (X : zX) (d : Nat) (rf : zF) (Q : Int → zF → Prop) (mem : zF) (p : Nat) (o : Nat) (x3 : Int) (x4 : Int) (x5 : Int) : Prop := ∀ z2 : zV, zW X (d + 1) 103 24 [(2, 35), (2, ((p : Nat) : Int)), z2, (0, x3), (0, x4), (0, x5)] [] (zty, rf, mem) (qi rf Q)
set_option maxRecDepth 4000 in
theorem s_seer_secondOfGoing_24 {X : zX} {d : Nat} {rf mem : zF} {Q : Int → zF → Prop} (hR : zall rf zRK = true) {p : Nat} (hp : zPln rf p) {o : Nat} (ho : zScn rf o) {x3 : Int} {x4 : Int} {x5 : Int} (h : (inI x5 ∧ inI x4) ∧ ((x4 ≤ x5 → Q (-1) mem) ∧ (¬ x4 ≤ x5 → Ci X d 60 [(2, ((p : Nat) : Int)), (0, 2), (0, x3)] rf mem (fun r5 mem6 => (inI r5) ∧ ((r5 = 0 → Q (-1) mem6) ∧ (¬ r5 = 0 → Ci X d 144 [(2, 36), (2, ((p : Nat) : Int)), (2, 39), (0, (-1))] rf mem6 (fun r8 mem9 => (0 ≤ x3 ∧ x3 < 6) ∧ ((inI (mem9 41 (x3).toNat)) ∧ ((¬ (mem9 41 (x3).toNat) = (-1) → L_seer_secondOfGoing_24 X d rf Q mem9 p o x3 x4 (x5 + 1)) ∧ ((mem9 41 (x3).toNat) = (-1) → Q x5 mem9)))))))))) : L_seer_secondOfGoing_24 X d rf Q mem p o x3 x4 x5 := by
  intro z2
  refine zW.go 2 28 [(2, 35), (2, ((p : Nat) : Int)), z2, (0, x3), (0, x4), (0, x5)] [(0, x4), (0, x5)] _ rfl ?_
  refine w_ic_ge rfl (by decide) (pc' := 31) rfl h.1 (fun c4 => ?_) (fun c4 => ?_)
  · have h := h.2.1 c4
    refine zW.go 1 77 [(2, 35), (2, ((p : Nat) : Int)), z2, (0, x3), (0, x4), (0, x5)] [(0, (-1))] _ rfl ?_
    exact w_reti rfl rfl h
  · have h := h.2.2 c4
    refine zW.go 3 34 [(2, 35), (2, ((p : Nat) : Int)), z2, (0, x3), (0, x4), (0, x5)] [(0, x3), (0, 2), (2, ((p : Nat) : Int))] _ rfl ?_
    refine w_calli (as := [(2, ((p : Nat) : Int)), (0, 2), (0, x3)]) [] 37 rfl rfl rfl rfl (Nat.le_of_ble_eq_true rfl) (Nat.le_of_ble_eq_true rfl) (Nat.le_of_ble_eq_true rfl) (Or.inr (zrcv_o (zPln_t0 hp))) (Ci.imp h (fun r5 mem6 h => ?_))
    refine w_if_eq rfl (by decide) (pc' := 40) rfl h.1 (fun c7 => ?_) (fun c7 => ?_)
    · have h := h.2.1 c7
      refine zW.go 1 77 [(2, 35), (2, ((p : Nat) : Int)), z2, (0, x3), (0, x4), (0, x5)] [(0, (-1))] _ rfl ?_
      exact w_reti rfl rfl h
    · have h := h.2.2 c7
      refine zW.go 1 41 [(2, 35), (2, ((p : Nat) : Int)), z2, (0, x3), (0, x4), (0, x5)] [(2, 35)] _ rfl ?_
      refine w_getL (q := 35) (v := 36) rfl (by decide) (pc' := 44) rfl ⟨by decide, rfl⟩ rfl rfl (zall_at hR (by decide)) ?_
      refine zW.go 2 46 [(2, 35), (2, ((p : Nat) : Int)), z2, (0, x3), (0, x4), (0, x5)] [(2, 35), (2, ((p : Nat) : Int)), (2, 36)] _ rfl ?_
      refine w_getL (q := 35) (v := 39) rfl (by decide) (pc' := 49) rfl ⟨by decide, rfl⟩ rfl rfl (zall_at hR (by decide)) ?_
      refine zW.go 1 50 [(2, 35), (2, ((p : Nat) : Int)), z2, (0, x3), (0, x4), (0, x5)] [(0, (-1)), (2, 39), (2, ((p : Nat) : Int)), (2, 36)] _ rfl ?_
      refine w_calli (as := [(2, 36), (2, ((p : Nat) : Int)), (2, 39), (0, (-1))]) [] 53 rfl rfl rfl rfl (Nat.le_of_ble_eq_true rfl) (Nat.le_of_ble_eq_true rfl) (Nat.le_of_ble_eq_true rfl) (Or.inr rfl) (Ci.imp h (fun r8 mem9 h => ?_))
      refine zW.go 2 55 [(2, 35), (2, ((p : Nat) : Int)), z2, (0, x3), (0, x4), (0, x5)] [(2, 35)] _ rfl ?_
      refine w_getL (q := 35) (v := 39) rfl (by decide) (pc' := 58) rfl ⟨by decide, rfl⟩ rfl rfl (zall_at hR (by decide)) ?_
      refine w_getL (q := 39) (v := 41) rfl (by decide) (pc' := 61) rfl ⟨by decide, rfl⟩ rfl rfl (zall_at hR (by decide)) ?_
      refine zW.go 1 62 [(2, 35), (2, ((p : Nat) : Int)), z2, (0, x3), (0, x4), (0, x5)] [(0, x3), (2, 41)] _ rfl ?_
      obtain ⟨g, h⟩ := h
      refine w_iald (q := 41) rfl (by decide) (pc' := 63) rfl ⟨by decide, rfl⟩ rfl g rfl ?_
      refine zW.go 1 64 [(2, 35), (2, ((p : Nat) : Int)), z2, (0, x3), (0, x4), (0, x5)] [(0, (-1)), (0, (mem9 41 (x3).toNat))] _ rfl ?_
      refine w_ic_ne rfl (by decide) (pc' := 67) rfl ⟨h.1, by decide⟩ (fun c10 => ?_) (fun c10 => ?_)
      · have h := h.2.1 c10
        refine zW.go 2 24 [(2, 35), (2, ((p : Nat) : Int)), z2, (0, x3), (0, x4), (0, (x5 + 1))] [] _ rfl ?_
        exact h z2
      · have h := h.2.2 c10
        refine zW.go 1 69 [(2, 35), (2, ((p : Nat) : Int)), z2, (0, x3), (0, x4), (0, x5)] [(0, x5)] _ rfl ?_
        exact w_reti rfl rfl h
set_option maxRecDepth 4000 in
theorem s_seer_secondOfGoing {X : zX} {d : Nat} {rf mem : zF} {Q : Int → zF → Prop} (hR : zall rf zRK = true) {p : Nat} (hp : zPln rf p) {o : Nat} (ho : zScn rf o) {x3 : Int} (h : Ci X d 321 [(0, 40), (0, (999 - (mem o 0)))] rf mem (fun r1 mem2 => Cv X d 100 [(2, 35), (2, ((p : Nat) : Int)), (2, ((o : Nat) : Int))] rf mem2 (fun mem3 => L_seer_secondOfGoing_24 X d rf Q mem3 p o x3 r1 0))) : Ci X (d + 1) 103 [(2, 35), (2, ((p : Nat) : Int)), (2, ((o : Nat) : Int)), (0, x3)] rf mem Q := by
  show zW X (d + 1) 103 0 [(2, 35), (2, ((p : Nat) : Int)), (2, ((o : Nat) : Int)), (0, x3), (9, 0), (9, 0)] [] (zty, rf, mem) (qi rf Q)
  refine zW.go 3 6 [(2, 35), (2, ((p : Nat) : Int)), (2, ((o : Nat) : Int)), (0, x3), (9, 0), (9, 0)] [(2, ((o : Nat) : Int)), (0, 999), (0, 40)] _ rfl ?_
  refine w_getI (q := o) rfl (by decide) (pc' := 9) rfl ⟨Int.natCast_nonneg _, rfl⟩ (zScn_t0 ho) (by decide) ?_
  refine zW.go 1 10 [(2, 35), (2, ((p : Nat) : Int)), (2, ((o : Nat) : Int)), (0, x3), (9, 0), (9, 0)] [(0, (999 - (mem o 0))), (0, 40)] _ rfl ?_
  refine w_calli (as := [(0, 40), (0, (999 - (mem o 0)))]) [] 13 rfl rfl rfl rfl (Nat.le_of_ble_eq_true rfl) (Nat.le_of_ble_eq_true rfl) (Nat.le_of_ble_eq_true rfl) (Or.inl rfl) (Ci.imp h (fun r1 mem2 h => ?_))
  refine zW.go 4 18 [(2, 35), (2, ((p : Nat) : Int)), (2, ((o : Nat) : Int)), (0, x3), (0, r1), (9, 0)] [(2, ((o : Nat) : Int)), (2, ((p : Nat) : Int)), (2, 35)] _ rfl ?_
  refine w_callv (as := [(2, 35), (2, ((p : Nat) : Int)), (2, ((o : Nat) : Int))]) [] 21 rfl rfl rfl rfl (Nat.le_of_ble_eq_true rfl) (Nat.le_of_ble_eq_true rfl) (Nat.le_of_ble_eq_true rfl) (Or.inr rfl) (Cv.imp h (fun mem3 h => ?_))
  refine zW.go 2 24 [(2, 35), (2, ((p : Nat) : Int)), (2, ((o : Nat) : Int)), (0, x3), (0, r1), (0, 0)] [] _ rfl ?_
  exact h (2, ((o : Nat) : Int))
def L_seer_fewestDoors_28 (X : zX) (d : Nat) (rf : zF) (Q : Int → zF → Prop) (mem : zF) (p : Nat) (o : Nat) (x3 : Int) (x4 : Int) (x5 : Int) (x6 : Int) (x7 : Int) (x8 : Int) : Prop := zW X (d + 1) 104 28 [(2, 35), (2, ((p : Nat) : Int)), (2, ((o : Nat) : Int)), (0, x3), (0, x4), (0, x5), (0, x6), (0, x7), (0, x8)] [] (zty, rf, mem) (qi rf Q)
def L_seer_fewestDoors_57 (X : zX) (d : Nat) (rf : zF) (Q : Int → zF → Prop) (mem : zF) (p : Nat) (o : Nat) (x3 : Int) (x4 : Int) (x5 : Int) (x6 : Int) (x7 : Int) (x8 : Int) : Prop := zW X (d + 1) 104 57 [(2, 35), (2, ((p : Nat) : Int)), (2, ((o : Nat) : Int)), (0, x3), (0, x4), (0, x5), (0, x6), (0, x7), (0, x8)] [] (zty, rf, mem) (qi rf Q)
set_option maxRecDepth 4000 in
theorem s_seer_fewestDoors_28 {X : zX} {d : Nat} {rf mem : zF} {Q : Int → zF → Prop} (hR : zall rf zRK = true) {p : Nat} (hp : zPln rf p) {o : Nat} (ho : zScn rf o) {x3 : Int} {x4 : Int} {x5 : Int} {x6 : Int} {x7 : Int} {x8 : Int} (h : (inI x8 ∧ inI x7) ∧ ((x7 ≤ x8 → Q x6 mem) ∧ (¬ x7 ≤ x8 → (inI x6) ∧ ((x6 = (-1) → L_seer_fewestDoors_57 X d rf Q mem p o x3 x4 x5 x6 x7 x8) ∧ (¬ x6 = (-1) → Ci X d 317 [(0, x8)] rf mem (fun r8 mem9 => Ci X d 317 [(0, x6)] rf mem9 (fun r10 mem11 => (inI r8 ∧ inI r10) ∧ ((r8 < r10 → L_seer_fewestDoors_57 X d rf Q mem11 p o x3 x4 x5 x6 x7 x8) ∧ (¬ r8 < r10 → L_seer_fewestDoors_28 X d rf Q mem11 p o x3 x4 x5 x6 x7 (x8 + 1)))))))))) : L_seer_fewestDoors_28 X d rf Q mem p o x3 x4 x5 x6 x7 x8 := by
  refine zW.go 2 32 [(2, 35), (2, ((p : Nat) : Int)), (2, ((o : Nat) : Int)), (0, x3), (0, x4), (0, x5), (0, x6), (0, x7), (0, x8)] [(0, x7), (0, x8)] _ rfl ?_
  refine w_ic_ge rfl (by decide) (pc' := 35) rfl h.1 (fun c6 => ?_) (fun c6 => ?_)
  · have h := h.2.1 c6
    refine zW.go 1 124 [(2, 35), (2, ((p : Nat) : Int)), (2, ((o : Nat) : Int)), (0, x3), (0, x4), (0, x5), (0, x6), (0, x7), (0, x8)] [(0, x6)] _ rfl ?_
    exact w_reti rfl rfl h
  · have h := h.2.2 c6
    refine zW.go 2 38 [(2, 35), (2, ((p : Nat) : Int)), (2, ((o : Nat) : Int)), (0, x3), (0, x4), (0, x5), (0, x6), (0, x7), (0, x8)] [(0, (-1)), (0, x6)] _ rfl ?_
    refine w_ic_eq rfl (by decide) (pc' := 41) rfl ⟨h.1, by decide⟩ (fun c7 => ?_) (fun c7 => ?_)
    · have h := h.2.1 c7
      exact h
    · have h := h.2.2 c7
      refine zW.go 1 43 [(2, 35), (2, ((p : Nat) : Int)), (2, ((o : Nat) : Int)), (0, x3), (0, x4), (0, x5), (0, x6), (0, x7), (0, x8)] [(0, x8)] _ rfl ?_
      refine w_calli (as := [(0, x8)]) [] 46 rfl rfl rfl rfl (Nat.le_of_ble_eq_true rfl) (Nat.le_of_ble_eq_true rfl) (Nat.le_of_ble_eq_true rfl) (Or.inl rfl) (Ci.imp h (fun r8 mem9 h => ?_))
      refine zW.go 1 48 [(2, 35), (2, ((p : Nat) : Int)), (2, ((o : Nat) : Int)), (0, x3), (0, x4), (0, x5), (0, x6), (0, x7), (0, x8)] [(0, x6), (0, r8)] _ rfl ?_
      refine w_calli (as := [(0, x6)]) [(0, r8)] 51 rfl rfl rfl rfl (Nat.le_of_ble_eq_true rfl) (Nat.le_of_ble_eq_true rfl) (Nat.le_of_ble_eq_true rfl) (Or.inl rfl) (Ci.imp h (fun r10 mem11 h => ?_))
      refine w_ic_lt rfl (by decide) (pc' := 54) rfl h.1 (fun c12 => ?_) (fun c12 => ?_)
      · have h := h.2.1 c12
        exact h
      · have h := h.2.2 c12
        refine zW.go 3 28 [(2, 35), (2, ((p : Nat) : Int)), (2, ((o : Nat) : Int)), (0, x3), (0, x4), (0, x5), (0, x6), (0, x7), (0, (x8 + 1))] [] _ rfl ?_
        exact h
set_option maxRecDepth 4000 in
theorem s_seer_fewestDoors_57 {X : zX} {d : Nat} {rf mem : zF} {Q : Int → zF → Prop} (hR : zall rf zRK = true) {p : Nat} (hp : zPln rf p) {o : Nat} (ho : zScn rf o) {x3 : Int} {x4 : Int} {x5 : Int} {x6 : Int} {x7 : Int} {x8 : Int} (h : Cv X d 86 [(2, 39), (2, ((o : Nat) : Int))] rf mem (fun mem13 => Cv X d 141 [(2, 36), (2, ((p : Nat) : Int)), (2, 39)] rf (zup mem13 39 2 (zxor (mem13 39 2) x8)) (fun mem14 => Cv X d 101 [(2, 35), (2, ((p : Nat) : Int)), (0, x5)] rf mem14 (fun mem15 => (0 ≤ x3 ∧ x3 < 6) ∧ ((inI (mem15 45 (x3).toNat) ∧ inI x4) ∧ ((¬ (mem15 45 (x3).toNat) = x4 → L_seer_fewestDoors_28 X d rf Q mem15 p o x3 x4 x5 x6 x7 (x8 + 1)) ∧ ((mem15 45 (x3).toNat) = x4 → L_seer_fewestDoors_28 X d rf Q mem15 p o x3 x4 x5 x8 x7 (x8 + 1)))))))) : L_seer_fewestDoors_57 X d rf Q mem p o x3 x4 x5 x6 x7 x8 := by
  refine zW.go 1 58 [(2, 35), (2, ((p : Nat) : Int)), (2, ((o : Nat) : Int)), (0, x3), (0, x4), (0, x5), (0, x6), (0, x7), (0, x8)] [(2, 35)] _ rfl ?_
  refine w_getL (q := 35) (v := 39) rfl (by decide) (pc' := 61) rfl ⟨by decide, rfl⟩ rfl rfl (zall_at hR (by decide)) ?_
  refine zW.go 1 62 [(2, 35), (2, ((p : Nat) : Int)), (2, ((o : Nat) : Int)), (0, x3), (0, x4), (0, x5), (0, x6), (0, x7), (0, x8)] [(2, ((o : Nat) : Int)), (2, 39)] _ rfl ?_
  refine w_callv (as := [(2, 39), (2, ((o : Nat) : Int))]) [] 65 rfl rfl rfl rfl (Nat.le_of_ble_eq_true rfl) (Nat.le_of_ble_eq_true rfl) (Nat.le_of_ble_eq_true rfl) (Or.inr rfl) (Cv.imp h (fun mem13 h => ?_))
  refine zW.go 1 66 [(2, 35), (2, ((p : Nat) : Int)), (2, ((o : Nat) : Int)), (0, x3), (0, x4), (0, x5), (0, x6), (0, x7), (0, x8)] [(2, 35)] _ rfl ?_
  refine w_getL (q := 35) (v := 39) rfl (by decide) (pc' := 69) rfl ⟨by decide, rfl⟩ rfl rfl (zall_at hR (by decide)) ?_
  refine zW.go 1 70 [(2, 35), (2, ((p : Nat) : Int)), (2, ((o : Nat) : Int)), (0, x3), (0, x4), (0, x5), (0, x6), (0, x7), (0, x8)] [(2, 39), (2, 39)] _ rfl ?_
  refine w_getI (q := 39) rfl (by decide) (pc' := 73) rfl ⟨by decide, rfl⟩ rfl (by decide) ?_
  refine zW.go 2 76 [(2, 35), (2, ((p : Nat) : Int)), (2, ((o : Nat) : Int)), (0, x3), (0, x4), (0, x5), (0, x6), (0, x7), (0, x8)] [(0, (zxor (mem13 39 2) x8)), (2, 39)] _ rfl ?_
  refine w_putI (q := 39) rfl (by decide) (pc' := 79) rfl ⟨by decide, rfl⟩ rfl (by decide) ?_
  refine zW.go 1 80 [(2, 35), (2, ((p : Nat) : Int)), (2, ((o : Nat) : Int)), (0, x3), (0, x4), (0, x5), (0, x6), (0, x7), (0, x8)] [(2, 35)] _ rfl ?_
  refine w_getL (q := 35) (v := 36) rfl (by decide) (pc' := 83) rfl ⟨by decide, rfl⟩ rfl rfl (zall_at hR (by decide)) ?_
  refine zW.go 2 85 [(2, 35), (2, ((p : Nat) : Int)), (2, ((o : Nat) : Int)), (0, x3), (0, x4), (0, x5), (0, x6), (0, x7), (0, x8)] [(2, 35), (2, ((p : Nat) : Int)), (2, 36)] _ rfl ?_
  refine w_getL (q := 35) (v := 39) rfl (by decide) (pc' := 88) rfl ⟨by decide, rfl⟩ rfl rfl (zall_at hR (by decide)) ?_
  refine w_callv (as := [(2, 36), (2, ((p : Nat) : Int)), (2, 39)]) [] 91 rfl rfl rfl rfl (Nat.le_of_ble_eq_true rfl) (Nat.le_of_ble_eq_true rfl) (Nat.le_of_ble_eq_true rfl) (Or.inr rfl) (Cv.imp h (fun mem14 h => ?_))
  refine zW.go 3 95 [(2, 35), (2, ((p : Nat) : Int)), (2, ((o : Nat) : Int)), (0, x3), (0, x4), (0, x5), (0, x6), (0, x7), (0, x8)] [(0, x5), (2, ((p : Nat) : Int)), (2, 35)] _ rfl ?_
  refine w_callv (as := [(2, 35), (2, ((p : Nat) : Int)), (0, x5)]) [] 98 rfl rfl rfl rfl (Nat.le_of_ble_eq_true rfl) (Nat.le_of_ble_eq_true rfl) (Nat.le_of_ble_eq_true rfl) (Or.inr rfl) (Cv.imp h (fun mem15 h => ?_))
  refine zW.go 1 99 [(2, 35), (2, ((p : Nat) : Int)), (2, ((o : Nat) : Int)), (0, x3), (0, x4), (0, x5), (0, x6), (0, x7), (0, x8)] [(2, 35)] _ rfl ?_
  refine w_getL (q := 35) (v := 39) rfl (by decide) (pc' := 102) rfl ⟨by decide, rfl⟩ rfl rfl (zall_at hR (by decide)) ?_
  refine w_getL (q := 39) (v := 45) rfl (by decide) (pc' := 105) rfl ⟨by decide, rfl⟩ rfl rfl (zall_at hR (by decide)) ?_
  refine zW.go 1 106 [(2, 35), (2, ((p : Nat) : Int)), (2, ((o : Nat) : Int)), (0, x3), (0, x4), (0, x5), (0, x6), (0, x7), (0, x8)] [(0, x3), (2, 45)] _ rfl ?_
  obtain ⟨g, h⟩ := h
  refine w_iald (q := 45) rfl (by decide) (pc' := 107) rfl ⟨by decide, rfl⟩ rfl g rfl ?_
  refine zW.go 1 109 [(2, 35), (2, ((p : Nat) : Int)), (2, ((o : Nat) : Int)), (0, x3), (0, x4), (0, x5), (0, x6), (0, x7), (0, x8)] [(0, x4), (0, (mem15 45 (x3).toNat))] _ rfl ?_
  refine w_ic_ne rfl (by decide) (pc' := 112) rfl h.1 (fun c16 => ?_) (fun c16 => ?_)
  · have h := h.2.1 c16
    refine zW.go 2 28 [(2, 35), (2, ((p : Nat) : Int)), (2, ((o : Nat) : Int)), (0, x3), (0, x4), (0, x5), (0, x6), (0, x7), (0, (x8 + 1))] [] _ rfl ?_
    exact h
  · have h := h.2.2 c16
    refine zW.go 4 28 [(2, 35), (2, ((p : Nat) : Int)), (2, ((o : Nat) : Int)), (0, x3), (0, x4), (0, x5), (0, x8), (0, x7), (0, (x8 + 1))] [] _ rfl ?_
    exact h
set_option maxRecDepth 4000 in
theorem s_seer_fewestDoors {X : zX} {d : Nat} {rf mem : zF} {Q : Int → zF → Prop} (hR : zall rf zRK = true) {p : Nat} (hp : zPln rf p) {o : Nat} (ho : zScn rf o) {x3 : Int} {x4 : Int} {x5 : Int} (h : Ci X d 60 [(2, ((p : Nat) : Int)), (0, 2), (0, x3)] rf mem (fun r1 mem2 => (inI r1) ∧ ((r1 = 0 → L_seer_fewestDoors_28 X d rf Q mem2 p o x3 x4 x5 (-1) 0 0) ∧ (¬ r1 = 0 → Ci X d 61 [(2, ((p : Nat) : Int)), (0, 0)] rf mem2 (fun r4 mem5 => L_seer_fewestDoors_28 X d rf Q mem5 p o x3 x4 x5 (-1) (zshl 1 r4) 0))))) : Ci X (d + 1) 104 [(2, 35), (2, ((p : Nat) : Int)), (2, ((o : Nat) : Int)), (0, x3), (0, x4), (0, x5)] rf mem Q := by
  show zW X (d + 1) 104 0 [(2, 35), (2, ((p : Nat) : Int)), (2, ((o : Nat) : Int)), (0, x3), (0, x4), (0, x5), (9, 0), (9, 0), (9, 0)] [] (zty, rf, mem) (qi rf Q)
  refine zW.go 5 6 [(2, 35), (2, ((p : Nat) : Int)), (2, ((o : Nat) : Int)), (0, x3), (0, x4), (0, x5), (0, (-1)), (9, 0), (9, 0)] [(0, x3), (0, 2), (2, ((p : Nat) : Int))] _ rfl ?_
  refine w_calli (as := [(2, ((p : Nat) : Int)), (0, 2), (0, x3)]) [] 9 rfl rfl rfl rfl (Nat.le_of_ble_eq_true rfl) (Nat.le_of_ble_eq_true rfl) (Nat.le_of_ble_eq_true rfl) (Or.inr (zrcv_o (zPln_t0 hp))) (Ci.imp h (fun r1 mem2 h => ?_))
  refine w_if_eq rfl (by decide) (pc' := 12) rfl h.1 (fun c3 => ?_) (fun c3 => ?_)
  · have h := h.2.1 c3
    refine zW.go 4 28 [(2, 35), (2, ((p : Nat) : Int)), (2, ((o : Nat) : Int)), (0, x3), (0, x4), (0, x5), (0, (-1)), (0, 0), (0, 0)] [] _ rfl ?_
    exact h
  · have h := h.2.2 c3
    refine zW.go 3 15 [(2, 35), (2, ((p : Nat) : Int)), (2, ((o : Nat) : Int)), (0, x3), (0, x4), (0, x5), (0, (-1)), (9, 0), (9, 0)] [(0, 0), (2, ((p : Nat) : Int)), (0, 1)] _ rfl ?_
    refine w_calli (as := [(2, ((p : Nat) : Int)), (0, 0)]) [(0, 1)] 18 rfl rfl rfl rfl (Nat.le_of_ble_eq_true rfl) (Nat.le_of_ble_eq_true rfl) (Nat.le_of_ble_eq_true rfl) (Or.inr (zrcv_o (zPln_t0 hp))) (Ci.imp h (fun r4 mem5 h => ?_))
    refine zW.go 5 28 [(2, 35), (2, ((p : Nat) : Int)), (2, ((o : Nat) : Int)), (0, x3), (0, x4), (0, x5), (0, (-1)), (0, (zshl 1 r4)), (0, 0)] [] _ rfl ?_
    exact h
def L_seer_findStand_13 (X : zX) (d : Nat) (rf : zF) (Q : zF → Prop) (mem : zF) (p : Nat) (o : Nat) (x3 : Int) (x4 : Int) (x5 : Int) : Prop := ∀ z6 : zV, zW X (d + 1) 105 13 [(2, 35), (2, ((p : Nat) : Int)), (2, ((o : Nat) : Int)), (0, x3), (0, x4), (0, x5), z6] [] (zty, rf, mem) (qv rf Q)
def L_seer_findStand_55 (X : zX) (d : Nat) (rf : zF) (Q : zF → Prop) (mem : zF) (p : Nat) (o : Nat) (x3 : Int) (x4 : Int) (x5 : Int) (s0 : Int) : Prop := ∀ z6 : zV, zW X (d + 1) 105 55 [(2, 35), (2, ((p : Nat) : Int)), (2, ((o : Nat) : Int)), (0, x3), (0, x4), (0, x5), z6] [(0, s0)] (zty, rf, mem) (qv rf Q)
set_option maxRecDepth 4000 in
theorem s_seer_findStand_13 {X : zX} {d : Nat} {rf mem : zF} {Q : zF → Prop} (hR : zall rf zRK = true) {p : Nat} (hp : zPln rf p) {o : Nat} (ho : zScn rf o) {x3 : Int} {x4 : Int} {x5 : Int} (h : (inI x5) ∧ ((64 ≤ x5 → Q mem) ∧ (¬ 64 ≤ x5 → Ci X d 60 [(2, ((p : Nat) : Int)), (0, 1), (0, x3)] rf mem (fun r4 mem5 => (inI r4) ∧ ((r4 = 0 → Q mem5) ∧ (¬ r4 = 0 → (0 ≤ x3 ∧ x3 < 6) ∧ ((inI (mem5 (o + 1) (x3).toNat) ∧ inI x5) ∧ (((mem5 (o + 1) (x3).toNat) = x5 → L_seer_findStand_55 X d rf Q mem5 p o x3 x4 x5 1) ∧ (¬ (mem5 (o + 1) (x3).toNat) = x5 → Ci X d 88 [(2, ((o : Nat) : Int)), (0, x5)] rf mem5 (fun r8 mem9 => (inI r8) ∧ ((¬ r8 = (-1) → L_seer_findStand_55 X d rf Q mem9 p o x3 x4 x5 0) ∧ (r8 = (-1) → L_seer_findStand_55 X d rf Q mem9 p o x3 x4 x5 1)))))))))))) : L_seer_findStand_13 X d rf Q mem p o x3 x4 x5 := by
  intro z6
  refine zW.go 2 17 [(2, 35), (2, ((p : Nat) : Int)), (2, ((o : Nat) : Int)), (0, x3), (0, x4), (0, x5), z6] [(0, 64), (0, x5)] _ rfl ?_
  refine w_ic_ge rfl (by decide) (pc' := 20) rfl ⟨h.1, by decide⟩ (fun c3 => ?_) (fun c3 => ?_)
  · have h := h.2.1 c3
    exact w_retv rfl rfl h
  · have h := h.2.2 c3
    refine zW.go 3 23 [(2, 35), (2, ((p : Nat) : Int)), (2, ((o : Nat) : Int)), (0, x3), (0, x4), (0, x5), z6] [(0, x3), (0, 1), (2, ((p : Nat) : Int))] _ rfl ?_
    refine w_calli (as := [(2, ((p : Nat) : Int)), (0, 1), (0, x3)]) [] 26 rfl rfl rfl rfl (Nat.le_of_ble_eq_true rfl) (Nat.le_of_ble_eq_true rfl) (Nat.le_of_ble_eq_true rfl) (Or.inr (zrcv_o (zPln_t0 hp))) (Ci.imp h (fun r4 mem5 h => ?_))
    refine w_if_eq rfl (by decide) (pc' := 29) rfl h.1 (fun c6 => ?_) (fun c6 => ?_)
    · have h := h.2.1 c6
      exact w_retv rfl rfl h
    · have h := h.2.2 c6
      refine zW.go 1 30 [(2, 35), (2, ((p : Nat) : Int)), (2, ((o : Nat) : Int)), (0, x3), (0, x4), (0, x5), z6] [(2, ((o : Nat) : Int))] _ rfl ?_
      refine w_getL (q := o) (v := ((o + 1 : Nat) : Int)) rfl (by decide) (pc' := 33) rfl ⟨Int.natCast_nonneg _, rfl⟩ (zScn_t0 ho) rfl (zScn_r0_3 ho) ?_
      refine zW.go 1 34 [(2, 35), (2, ((p : Nat) : Int)), (2, ((o : Nat) : Int)), (0, x3), (0, x4), (0, x5), z6] [(0, x3), (2, ((o + 1 : Nat) : Int))] _ rfl ?_
      obtain ⟨g, h⟩ := h
      refine w_iald (q := (o + 1)) rfl (by decide) (pc' := 35) rfl ⟨Int.natCast_nonneg _, rfl⟩ (zScn_t1 ho) g rfl ?_
      refine zW.go 1 37 [(2, 35), (2, ((p : Nat) : Int)), (2, ((o : Nat) : Int)), (0, x3), (0, x4), (0, x5), z6] [(0, x5), (0, (mem5 (o + 1) (x3).toNat))] _ rfl ?_
      refine w_ic_eq rfl (by decide) (pc' := 40) rfl h.1 (fun c7 => ?_) (fun c7 => ?_)
      · have h := h.2.1 c7
        refine zW.go 2 55 [(2, 35), (2, ((p : Nat) : Int)), (2, ((o : Nat) : Int)), (0, x3), (0, x4), (0, x5), z6] [(0, 1)] _ rfl ?_
        exact h z6
      · have h := h.2.2 c7
        refine zW.go 2 43 [(2, 35), (2, ((p : Nat) : Int)), (2, ((o : Nat) : Int)), (0, x3), (0, x4), (0, x5), z6] [(0, x5), (2, ((o : Nat) : Int))] _ rfl ?_
        refine w_calli (as := [(2, ((o : Nat) : Int)), (0, x5)]) [] 46 rfl rfl rfl rfl (Nat.le_of_ble_eq_true rfl) (Nat.le_of_ble_eq_true rfl) (Nat.le_of_ble_eq_true rfl) (Or.inr (zrcv_o (zScn_t0 ho))) (Ci.imp h (fun r8 mem9 h => ?_))
        refine zW.go 1 47 [(2, 35), (2, ((p : Nat) : Int)), (2, ((o : Nat) : Int)), (0, x3), (0, x4), (0, x5), z6] [(0, (-1)), (0, r8)] _ rfl ?_
        refine w_ic_ne rfl (by decide) (pc' := 50) rfl ⟨h.1, by decide⟩ (fun c10 => ?_) (fun c10 => ?_)
        · have h := h.2.1 c10
          refine zW.go 1 55 [(2, 35), (2, ((p : Nat) : Int)), (2, ((o : Nat) : Int)), (0, x3), (0, x4), (0, x5), z6] [(0, 0)] _ rfl ?_
          exact h z6
        · have h := h.2.2 c10
          refine zW.go 2 55 [(2, 35), (2, ((p : Nat) : Int)), (2, ((o : Nat) : Int)), (0, x3), (0, x4), (0, x5), z6] [(0, 1)] _ rfl ?_
          exact h z6
set_option maxRecDepth 4000 in
theorem s_seer_findStand_55 {X : zX} {d : Nat} {rf mem : zF} {Q : zF → Prop} (hR : zall rf zRK = true) {p : Nat} (hp : zPln rf p) {o : Nat} (ho : zScn rf o) {x3 : Int} {x4 : Int} {x5 : Int} {s0 : Int} (h : Ci X d 70 [(2, ((p : Nat) : Int)), (0, x5)] rf mem (fun r11 mem12 => (inI r11) ∧ ((r11 = 0 → L_seer_findStand_13 X d rf Q mem12 p o x3 x4 (x5 + 1)) ∧ (¬ r11 = 0 → (inI s0) ∧ ((s0 = 0 → L_seer_findStand_13 X d rf Q mem12 p o x3 x4 (x5 + 1)) ∧ (¬ s0 = 0 → Cv X d 86 [(2, 39), (2, ((o : Nat) : Int))] rf mem12 (fun mem15 => (0 ≤ x3 ∧ x3 < 6) ∧ (Cv X d 101 [(2, 35), (2, ((p : Nat) : Int)), (0, x4)] rf (zup mem15 40 (x3).toNat x5) (fun mem16 => Ci X d 90 [(2, 39), (0, x3)] rf mem16 (fun r17 mem18 => Cv X d 108 [(2, 35), (0, x5), (0, r17)] rf mem18 (fun mem19 => L_seer_findStand_13 X d rf Q mem19 p o x3 x4 (x5 + 1)))))))))))) : L_seer_findStand_55 X d rf Q mem p o x3 x4 x5 s0 := by
  intro z6
  refine zW.go 3 60 [(2, 35), (2, ((p : Nat) : Int)), (2, ((o : Nat) : Int)), (0, x3), (0, x4), (0, x5), (0, s0)] [(0, x5), (2, ((p : Nat) : Int))] _ rfl ?_
  refine w_calli (as := [(2, ((p : Nat) : Int)), (0, x5)]) [] 63 rfl rfl rfl rfl (Nat.le_of_ble_eq_true rfl) (Nat.le_of_ble_eq_true rfl) (Nat.le_of_ble_eq_true rfl) (Or.inr (zrcv_o (zPln_t0 hp))) (Ci.imp h (fun r11 mem12 h => ?_))
  refine w_if_eq rfl (by decide) (pc' := 66) rfl h.1 (fun c13 => ?_) (fun c13 => ?_)
  · have h := h.2.1 c13
    refine zW.go 2 13 [(2, 35), (2, ((p : Nat) : Int)), (2, ((o : Nat) : Int)), (0, x3), (0, x4), (0, (x5 + 1)), (0, s0)] [] _ rfl ?_
    exact h (0, s0)
  · have h := h.2.2 c13
    refine zW.go 1 68 [(2, 35), (2, ((p : Nat) : Int)), (2, ((o : Nat) : Int)), (0, x3), (0, x4), (0, x5), (0, s0)] [(0, s0)] _ rfl ?_
    refine w_if_eq rfl (by decide) (pc' := 71) rfl h.1 (fun c14 => ?_) (fun c14 => ?_)
    · have h := h.2.1 c14
      refine zW.go 2 13 [(2, 35), (2, ((p : Nat) : Int)), (2, ((o : Nat) : Int)), (0, x3), (0, x4), (0, (x5 + 1)), (0, s0)] [] _ rfl ?_
      exact h (0, s0)
    · have h := h.2.2 c14
      refine zW.go 1 72 [(2, 35), (2, ((p : Nat) : Int)), (2, ((o : Nat) : Int)), (0, x3), (0, x4), (0, x5), (0, s0)] [(2, 35)] _ rfl ?_
      refine w_getL (q := 35) (v := 39) rfl (by decide) (pc' := 75) rfl ⟨by decide, rfl⟩ rfl rfl (zall_at hR (by decide)) ?_
      refine zW.go 1 76 [(2, 35), (2, ((p : Nat) : Int)), (2, ((o : Nat) : Int)), (0, x3), (0, x4), (0, x5), (0, s0)] [(2, ((o : Nat) : Int)), (2, 39)] _ rfl ?_
      refine w_callv (as := [(2, 39), (2, ((o : Nat) : Int))]) [] 79 rfl rfl rfl rfl (Nat.le_of_ble_eq_true rfl) (Nat.le_of_ble_eq_true rfl) (Nat.le_of_ble_eq_true rfl) (Or.inr rfl) (Cv.imp h (fun mem15 h => ?_))
      refine zW.go 1 80 [(2, 35), (2, ((p : Nat) : Int)), (2, ((o : Nat) : Int)), (0, x3), (0, x4), (0, x5), (0, s0)] [(2, 35)] _ rfl ?_
      refine w_getL (q := 35) (v := 39) rfl (by decide) (pc' := 83) rfl ⟨by decide, rfl⟩ rfl rfl (zall_at hR (by decide)) ?_
      refine w_getL (q := 39) (v := 40) rfl (by decide) (pc' := 86) rfl ⟨by decide, rfl⟩ rfl rfl (zall_at hR (by decide)) ?_
      refine zW.go 2 89 [(2, 35), (2, ((p : Nat) : Int)), (2, ((o : Nat) : Int)), (0, x3), (0, x4), (0, x5), (0, s0)] [(0, x5), (0, x3), (2, 40)] _ rfl ?_
      obtain ⟨g, h⟩ := h
      refine w_iast (q := 40) rfl (by decide) (pc' := 90) rfl ⟨by decide, rfl⟩ rfl g rfl ?_
      refine zW.go 3 94 [(2, 35), (2, ((p : Nat) : Int)), (2, ((o : Nat) : Int)), (0, x3), (0, x4), (0, x5), (0, s0)] [(0, x4), (2, ((p : Nat) : Int)), (2, 35)] _ rfl ?_
      refine w_callv (as := [(2, 35), (2, ((p : Nat) : Int)), (0, x4)]) [] 97 rfl rfl rfl rfl (Nat.le_of_ble_eq_true rfl) (Nat.le_of_ble_eq_true rfl) (Nat.le_of_ble_eq_true rfl) (Or.inr rfl) (Cv.imp h (fun mem16 h => ?_))
      refine zW.go 3 101 [(2, 35), (2, ((p : Nat) : Int)), (2, ((o : Nat) : Int)), (0, x3), (0, x4), (0, x5), (0, s0)] [(2, 35), (0, x5), (2, 35)] _ rfl ?_
      refine w_getL (q := 35) (v := 39) rfl (by decide) (pc' := 104) rfl ⟨by decide, rfl⟩ rfl rfl (zall_at hR (by decide)) ?_
      refine zW.go 1 105 [(2, 35), (2, ((p : Nat) : Int)), (2, ((o : Nat) : Int)), (0, x3), (0, x4), (0, x5), (0, s0)] [(0, x3), (2, 39), (0, x5), (2, 35)] _ rfl ?_
      refine w_calli (as := [(2, 39), (0, x3)]) [(0, x5), (2, 35)] 108 rfl rfl rfl rfl (Nat.le_of_ble_eq_true rfl) (Nat.le_of_ble_eq_true rfl) (Nat.le_of_ble_eq_true rfl) (Or.inr rfl) (Ci.imp h (fun r17 mem18 h => ?_))
      refine w_callv (as := [(2, 35), (0, x5), (0, r17)]) [] 111 rfl rfl rfl rfl (Nat.le_of_ble_eq_true rfl) (Nat.le_of_ble_eq_true rfl) (Nat.le_of_ble_eq_true rfl) (Or.inr rfl) (Cv.imp h (fun mem19 h => ?_))
      refine zW.go 2 13 [(2, 35), (2, ((p : Nat) : Int)), (2, ((o : Nat) : Int)), (0, x3), (0, x4), (0, (x5 + 1)), (0, s0)] [] _ rfl ?_
      exact h (0, s0)
set_option maxRecDepth 4000 in
theorem s_seer_findStand {X : zX} {d : Nat} {rf mem : zF} {Q : zF → Prop} (hR : zall rf zRK = true) {p : Nat} (hp : zPln rf p) {o : Nat} (ho : zScn rf o) {x3 : Int} {x4 : Int} (h : Cv X d 107 [(2, 35)] rf mem (fun mem1 => Cv X d 100 [(2, 35), (2, ((p : Nat) : Int)), (2, ((o : Nat) : Int))] rf mem1 (fun mem2 => L_seer_findStand_13 X d rf Q mem2 p o x3 x4 0))) : Cv X (d + 1) 105 [(2, 35), (2, ((p : Nat) : Int)), (2, ((o : Nat) : Int)), (0, x3), (0, x4)] rf mem Q := by
  show zW X (d + 1) 105 0 [(2, 35), (2, ((p : Nat) : Int)), (2, ((o : Nat) : Int)), (0, x3), (0, x4), (9, 0), (9, 0)] [] (zty, rf, mem) (qv rf Q)
  refine zW.go 1 1 [(2, 35), (2, ((p : Nat) : Int)), (2, ((o : Nat) : Int)), (0, x3), (0, x4), (9, 0), (9, 0)] [(2, 35)] _ rfl ?_
  refine w_callv (as := [(2, 35)]) [] 4 rfl rfl rfl rfl (Nat.le_of_ble_eq_true rfl) (Nat.le_of_ble_eq_true rfl) (Nat.le_of_ble_eq_true rfl) (Or.inr rfl) (Cv.imp h (fun mem1 h => ?_))
  refine zW.go 3 7 [(2, 35), (2, ((p : Nat) : Int)), (2, ((o : Nat) : Int)), (0, x3), (0, x4), (9, 0), (9, 0)] [(2, ((o : Nat) : Int)), (2, ((p : Nat) : Int)), (2, 35)] _ rfl ?_
  refine w_callv (as := [(2, 35), (2, ((p : Nat) : Int)), (2, ((o : Nat) : Int))]) [] 10 rfl rfl rfl rfl (Nat.le_of_ble_eq_true rfl) (Nat.le_of_ble_eq_true rfl) (Nat.le_of_ble_eq_true rfl) (Or.inr rfl) (Cv.imp h (fun mem2 h => ?_))
  refine zW.go 2 13 [(2, 35), (2, ((p : Nat) : Int)), (2, ((o : Nat) : Int)), (0, x3), (0, x4), (0, 0), (9, 0)] [] _ rfl ?_
  exact h (9, 0)
def L_seer_findShine_13 (X : zX) (d : Nat) (rf : zF) (Q : zF → Prop) (mem : zF) (p : Nat) (o : Nat) (x3 : Int) (x4 : Int) : Prop := zW X (d + 1) 106 13 [(2, 35), (2, ((p : Nat) : Int)), (2, ((o : Nat) : Int)), (0, x3), (0, x4)] [] (zty, rf, mem) (qv rf Q)
set_option maxRecDepth 4000 in
theorem s_seer_findShine_13 {X : zX} {d : Nat} {rf mem : zF} {Q : zF → Prop} (hR : zall rf zRK = true) {p : Nat} (hp : zPln rf p) {o : Nat} (ho : zScn rf o) {x3 : Int} {x4 : Int} (h : (inI x4) ∧ ((64 ≤ x4 → Q mem) ∧ (¬ 64 ≤ x4 → Ci X d 70 [(2, ((p : Nat) : Int)), (0, x4)] rf mem (fun r4 mem5 => (inI r4) ∧ ((r4 = 0 → L_seer_findShine_13 X d rf Q mem5 p o x3 (x4 + 1)) ∧ (¬ r4 = 0 → Cv X d 86 [(2, 39), (2, ((o : Nat) : Int))] rf mem5 (fun mem7 => Cv X d 101 [(2, 35), (2, ((p : Nat) : Int)), (0, x3)] rf (zup mem7 39 1 x4) (fun mem8 => Ci X d 92 [(2, 39)] rf mem8 (fun r9 mem10 => Cv X d 108 [(2, 35), (0, x4), (0, r9)] rf mem10 (fun mem11 => L_seer_findShine_13 X d rf Q mem11 p o x3 (x4 + 1))))))))))) : L_seer_findShine_13 X d rf Q mem p o x3 x4 := by
  refine zW.go 2 17 [(2, 35), (2, ((p : Nat) : Int)), (2, ((o : Nat) : Int)), (0, x3), (0, x4)] [(0, 64), (0, x4)] _ rfl ?_
  refine w_ic_ge rfl (by decide) (pc' := 20) rfl ⟨h.1, by decide⟩ (fun c3 => ?_) (fun c3 => ?_)
  · have h := h.2.1 c3
    exact w_retv rfl rfl h
  · have h := h.2.2 c3
    refine zW.go 2 23 [(2, 35), (2, ((p : Nat) : Int)), (2, ((o : Nat) : Int)), (0, x3), (0, x4)] [(0, x4), (2, ((p : Nat) : Int))] _ rfl ?_
    refine w_calli (as := [(2, ((p : Nat) : Int)), (0, x4)]) [] 26 rfl rfl rfl rfl (Nat.le_of_ble_eq_true rfl) (Nat.le_of_ble_eq_true rfl) (Nat.le_of_ble_eq_true rfl) (Or.inr (zrcv_o (zPln_t0 hp))) (Ci.imp h (fun r4 mem5 h => ?_))
    refine w_if_eq rfl (by decide) (pc' := 29) rfl h.1 (fun c6 => ?_) (fun c6 => ?_)
    · have h := h.2.1 c6
      refine zW.go 2 13 [(2, 35), (2, ((p : Nat) : Int)), (2, ((o : Nat) : Int)), (0, x3), (0, (x4 + 1))] [] _ rfl ?_
      exact h
    · have h := h.2.2 c6
      refine zW.go 1 30 [(2, 35), (2, ((p : Nat) : Int)), (2, ((o : Nat) : Int)), (0, x3), (0, x4)] [(2, 35)] _ rfl ?_
      refine w_getL (q := 35) (v := 39) rfl (by decide) (pc' := 33) rfl ⟨by decide, rfl⟩ rfl rfl (zall_at hR (by decide)) ?_
      refine zW.go 1 34 [(2, 35), (2, ((p : Nat) : Int)), (2, ((o : Nat) : Int)), (0, x3), (0, x4)] [(2, ((o : Nat) : Int)), (2, 39)] _ rfl ?_
      refine w_callv (as := [(2, 39), (2, ((o : Nat) : Int))]) [] 37 rfl rfl rfl rfl (Nat.le_of_ble_eq_true rfl) (Nat.le_of_ble_eq_true rfl) (Nat.le_of_ble_eq_true rfl) (Or.inr rfl) (Cv.imp h (fun mem7 h => ?_))
      refine zW.go 1 38 [(2, 35), (2, ((p : Nat) : Int)), (2, ((o : Nat) : Int)), (0, x3), (0, x4)] [(2, 35)] _ rfl ?_
      refine w_getL (q := 35) (v := 39) rfl (by decide) (pc' := 41) rfl ⟨by decide, rfl⟩ rfl rfl (zall_at hR (by decide)) ?_
      refine zW.go 1 43 [(2, 35), (2, ((p : Nat) : Int)), (2, ((o : Nat) : Int)), (0, x3), (0, x4)] [(0, x4), (2, 39)] _ rfl ?_
      refine w_putI (q := 39) rfl (by decide) (pc' := 46) rfl ⟨by decide, rfl⟩ rfl (by decide) ?_
      refine zW.go 3 49 [(2, 35), (2, ((p : Nat) : Int)), (2, ((o : Nat) : Int)), (0, x3), (0, x4)] [(0, x3), (2, ((p : Nat) : Int)), (2, 35)] _ rfl ?_
      refine w_callv (as := [(2, 35), (2, ((p : Nat) : Int)), (0, x3)]) [] 52 rfl rfl rfl rfl (Nat.le_of_ble_eq_true rfl) (Nat.le_of_ble_eq_true rfl) (Nat.le_of_ble_eq_true rfl) (Or.inr rfl) (Cv.imp h (fun mem8 h => ?_))
      refine zW.go 3 56 [(2, 35), (2, ((p : Nat) : Int)), (2, ((o : Nat) : Int)), (0, x3), (0, x4)] [(2, 35), (0, x4), (2, 35)] _ rfl ?_
      refine w_getL (q := 35) (v := 39) rfl (by decide) (pc' := 59) rfl ⟨by decide, rfl⟩ rfl rfl (zall_at hR (by decide)) ?_
      refine w_calli (as := [(2, 39)]) [(0, x4), (2, 35)] 62 rfl rfl rfl rfl (Nat.le_of_ble_eq_true rfl) (Nat.le_of_ble_eq_true rfl) (Nat.le_of_ble_eq_true rfl) (Or.inr rfl) (Ci.imp h (fun r9 mem10 h => ?_))
      refine w_callv (as := [(2, 35), (0, x4), (0, r9)]) [] 65 rfl rfl rfl rfl (Nat.le_of_ble_eq_true rfl) (Nat.le_of_ble_eq_true rfl) (Nat.le_of_ble_eq_true rfl) (Or.inr rfl) (Cv.imp h (fun mem11 h => ?_))
      refine zW.go 2 13 [(2, 35), (2, ((p : Nat) : Int)), (2, ((o : Nat) : Int)), (0, x3), (0, (x4 + 1))] [] _ rfl ?_
      exact h
set_option maxRecDepth 4000 in
theorem s_seer_findShine {X : zX} {d : Nat} {rf mem : zF} {Q : zF → Prop} (hR : zall rf zRK = true) {p : Nat} (hp : zPln rf p) {o : Nat} (ho : zScn rf o) {x3 : Int} (h : Cv X d 107 [(2, 35)] rf mem (fun mem1 => Cv X d 100 [(2, 35), (2, ((p : Nat) : Int)), (2, ((o : Nat) : Int))] rf mem1 (fun mem2 => L_seer_findShine_13 X d rf Q mem2 p o x3 0))) : Cv X (d + 1) 106 [(2, 35), (2, ((p : Nat) : Int)), (2, ((o : Nat) : Int)), (0, x3)] rf mem Q := by
  show zW X (d + 1) 106 0 [(2, 35), (2, ((p : Nat) : Int)), (2, ((o : Nat) : Int)), (0, x3), (9, 0)] [] (zty, rf, mem) (qv rf Q)
  refine zW.go 1 1 [(2, 35), (2, ((p : Nat) : Int)), (2, ((o : Nat) : Int)), (0, x3), (9, 0)] [(2, 35)] _ rfl ?_
  refine w_callv (as := [(2, 35)]) [] 4 rfl rfl rfl rfl (Nat.le_of_ble_eq_true rfl) (Nat.le_of_ble_eq_true rfl) (Nat.le_of_ble_eq_true rfl) (Or.inr rfl) (Cv.imp h (fun mem1 h => ?_))
  refine zW.go 3 7 [(2, 35), (2, ((p : Nat) : Int)), (2, ((o : Nat) : Int)), (0, x3), (9, 0)] [(2, ((o : Nat) : Int)), (2, ((p : Nat) : Int)), (2, 35)] _ rfl ?_
  refine w_callv (as := [(2, 35), (2, ((p : Nat) : Int)), (2, ((o : Nat) : Int))]) [] 10 rfl rfl rfl rfl (Nat.le_of_ble_eq_true rfl) (Nat.le_of_ble_eq_true rfl) (Nat.le_of_ble_eq_true rfl) (Or.inr rfl) (Cv.imp h (fun mem2 h => ?_))
  refine zW.go 2 13 [(2, 35), (2, ((p : Nat) : Int)), (2, ((o : Nat) : Int)), (0, x3), (0, 0)] [] _ rfl ?_
  exact h
set_option maxRecDepth 4000 in
theorem s_seer_forgetBest {X : zX} {d : Nat} {rf mem : zF} {Q : zF → Prop} (hR : zall rf zRK = true) (h : Q (zup (zup mem 35 8 (-1)) 35 9 (-1))) : Cv X d 107 [(2, 35)] rf mem Q := by
  show zW X d 107 0 [(2, 35)] [] (zty, rf, mem) (qv rf Q)
  refine zW.go 2 2 [(2, 35)] [(0, (-1)), (2, 35)] _ rfl ?_
  refine w_putI (q := 35) rfl (by decide) (pc' := 5) rfl ⟨by decide, rfl⟩ rfl (by decide) ?_
  refine zW.go 2 7 [(2, 35)] [(0, (-1)), (2, 35)] _ rfl ?_
  refine w_putI (q := 35) rfl (by decide) (pc' := 10) rfl ⟨by decide, rfl⟩ rfl (by decide) ?_
  exact w_retv rfl rfl h
set_option maxRecDepth 4000 in
theorem s_seer_compare {X : zX} {d : Nat} {rf mem : zF} {Q : zF → Prop} (hR : zall rf zRK = true) {x1 : Int} {x2 : Int} (h : (inI x2 ∧ inI (mem 35 9)) ∧ ((x2 ≤ (mem 35 9) → Q mem) ∧ (¬ x2 ≤ (mem 35 9) → Q (zup (zup mem 35 8 x1) 35 9 x2)))) : Cv X d 108 [(2, 35), (0, x1), (0, x2)] rf mem Q := by
  show zW X d 108 0 [(2, 35), (0, x1), (0, x2)] [] (zty, rf, mem) (qv rf Q)
  refine zW.go 2 2 [(2, 35), (0, x1), (0, x2)] [(2, 35), (0, x2)] _ rfl ?_
  refine w_getI (q := 35) rfl (by decide) (pc' := 5) rfl ⟨by decide, rfl⟩ rfl (by decide) ?_
  refine w_ic_le rfl (by decide) (pc' := 8) rfl h.1 (fun c1 => ?_) (fun c1 => ?_)
  · have h := h.2.1 c1
    exact w_retv rfl rfl h
  · have h := h.2.2 c1
    refine zW.go 2 10 [(2, 35), (0, x1), (0, x2)] [(0, x1), (2, 35)] _ rfl ?_
    refine w_putI (q := 35) rfl (by decide) (pc' := 13) rfl ⟨by decide, rfl⟩ rfl (by decide) ?_
    refine zW.go 2 15 [(2, 35), (0, x1), (0, x2)] [(0, x2), (2, 35)] _ rfl ?_
    refine w_putI (q := 35) rfl (by decide) (pc' := 18) rfl ⟨by decide, rfl⟩ rfl (by decide) ?_
    exact w_retv rfl rfl h
def L_seer_leastFilm_9 (X : zX) (d : Nat) (rf : zF) (Q : Int → zF → Prop) (mem : zF) (p : Nat) (o : Nat) (x3 : Int) (x4 : Int) (x5 : Int) : Prop := ∀ z6 : zV, zW X (d + 1) 109 9 [(2, 35), (2, ((p : Nat) : Int)), (2, ((o : Nat) : Int)), (0, x3), (0, x4), (0, x5), z6] [] (zty, rf, mem) (qi rf Q)
def L_seer_leastFilm_47 (X : zX) (d : Nat) (rf : zF) (Q : Int → zF → Prop) (mem : zF) (p : Nat) (o : Nat) (x3 : Int) (x4 : Int) (x5 : Int) (x6 : Int) : Prop := zW X (d + 1) 109 47 [(2, 35), (2, ((p : Nat) : Int)), (2, ((o : Nat) : Int)), (0, x3), (0, x4), (0, x5), (0, x6)] [] (zty, rf, mem) (qi rf Q)
def L_seer_leastFilm_87 (X : zX) (d : Nat) (rf : zF) (Q : Int → zF → Prop) (mem : zF) (p : Nat) (o : Nat) (x3 : Int) (x4 : Int) (x5 : Int) : Prop := ∀ z6 : zV, zW X (d + 1) 109 87 [(2, 35), (2, ((p : Nat) : Int)), (2, ((o : Nat) : Int)), (0, x3), (0, x4), (0, x5), z6] [] (zty, rf, mem) (qi rf Q)
set_option maxRecDepth 4000 in
theorem s_seer_leastFilm_9 {X : zX} {d : Nat} {rf mem : zF} {Q : Int → zF → Prop} (hR : zall rf zRK = true) {p : Nat} (hp : zPln rf p) {o : Nat} (ho : zScn rf o) {x3 : Int} {x4 : Int} {x5 : Int} (h : (inI x5) ∧ ((99 < x5 → Q (-1) mem) ∧ (¬ 99 < x5 → Ci X d 60 [(2, ((p : Nat) : Int)), (0, 2), (0, x3)] rf mem (fun r3 mem4 => (inI r3) ∧ ((r3 = 0 → Q (-1) mem4) ∧ (¬ r3 = 0 → Cv X d 86 [(2, 39), (2, ((o : Nat) : Int))] rf mem4 (fun mem6 => (0 ≤ x3 ∧ x3 < 6) ∧ (L_seer_leastFilm_47 X d rf Q (zup mem6 42 (x3).toNat x5) p o x3 x4 x5 0)))))))) : L_seer_leastFilm_9 X d rf Q mem p o x3 x4 x5 := by
  intro z6
  refine zW.go 2 13 [(2, 35), (2, ((p : Nat) : Int)), (2, ((o : Nat) : Int)), (0, x3), (0, x4), (0, x5), z6] [(0, 99), (0, x5)] _ rfl ?_
  refine w_ic_gt rfl (by decide) (pc' := 16) rfl ⟨h.1, by decide⟩ (fun c2 => ?_) (fun c2 => ?_)
  · have h := h.2.1 c2
    refine zW.go 1 110 [(2, 35), (2, ((p : Nat) : Int)), (2, ((o : Nat) : Int)), (0, x3), (0, x4), (0, x5), z6] [(0, (-1))] _ rfl ?_
    exact w_reti rfl rfl h
  · have h := h.2.2 c2
    refine zW.go 3 19 [(2, 35), (2, ((p : Nat) : Int)), (2, ((o : Nat) : Int)), (0, x3), (0, x4), (0, x5), z6] [(0, x3), (0, 2), (2, ((p : Nat) : Int))] _ rfl ?_
    refine w_calli (as := [(2, ((p : Nat) : Int)), (0, 2), (0, x3)]) [] 22 rfl rfl rfl rfl (Nat.le_of_ble_eq_true rfl) (Nat.le_of_ble_eq_true rfl) (Nat.le_of_ble_eq_true rfl) (Or.inr (zrcv_o (zPln_t0 hp))) (Ci.imp h (fun r3 mem4 h => ?_))
    refine w_if_eq rfl (by decide) (pc' := 25) rfl h.1 (fun c5 => ?_) (fun c5 => ?_)
    · have h := h.2.1 c5
      refine zW.go 1 110 [(2, 35), (2, ((p : Nat) : Int)), (2, ((o : Nat) : Int)), (0, x3), (0, x4), (0, x5), z6] [(0, (-1))] _ rfl ?_
      exact w_reti rfl rfl h
    · have h := h.2.2 c5
      refine zW.go 1 26 [(2, 35), (2, ((p : Nat) : Int)), (2, ((o : Nat) : Int)), (0, x3), (0, x4), (0, x5), z6] [(2, 35)] _ rfl ?_
      refine w_getL (q := 35) (v := 39) rfl (by decide) (pc' := 29) rfl ⟨by decide, rfl⟩ rfl rfl (zall_at hR (by decide)) ?_
      refine zW.go 1 30 [(2, 35), (2, ((p : Nat) : Int)), (2, ((o : Nat) : Int)), (0, x3), (0, x4), (0, x5), z6] [(2, ((o : Nat) : Int)), (2, 39)] _ rfl ?_
      refine w_callv (as := [(2, 39), (2, ((o : Nat) : Int))]) [] 33 rfl rfl rfl rfl (Nat.le_of_ble_eq_true rfl) (Nat.le_of_ble_eq_true rfl) (Nat.le_of_ble_eq_true rfl) (Or.inr rfl) (Cv.imp h (fun mem6 h => ?_))
      refine zW.go 1 34 [(2, 35), (2, ((p : Nat) : Int)), (2, ((o : Nat) : Int)), (0, x3), (0, x4), (0, x5), z6] [(2, 35)] _ rfl ?_
      refine w_getL (q := 35) (v := 39) rfl (by decide) (pc' := 37) rfl ⟨by decide, rfl⟩ rfl rfl (zall_at hR (by decide)) ?_
      refine w_getL (q := 39) (v := 42) rfl (by decide) (pc' := 40) rfl ⟨by decide, rfl⟩ rfl rfl (zall_at hR (by decide)) ?_
      refine zW.go 2 43 [(2, 35), (2, ((p : Nat) : Int)), (2, ((o : Nat) : Int)), (0, x3), (0, x4), (0, x5), z6] [(0, x5), (0, x3), (2, 42)] _ rfl ?_
      obtain ⟨g, h⟩ := h
      refine w_iast (q := 42) rfl (by decide) (pc' := 44) rfl ⟨by decide, rfl⟩ rfl g rfl ?_
      refine zW.go 2 47 [(2, 35), (2, ((p : Nat) : Int)), (2, ((o : Nat) : Int)), (0, x3), (0, x4), (0, x5), (0, 0)] [] _ rfl ?_
      exact h
set_option maxRecDepth 4000 in
theorem s_seer_leastFilm_47 {X : zX} {d : Nat} {rf mem : zF} {Q : Int → zF → Prop} (hR : zall rf zRK = true) {p : Nat} (hp : zPln rf p) {o : Nat} (ho : zScn rf o) {x3 : Int} {x4 : Int} {x5 : Int} {x6 : Int} (h : (inI x6 ∧ inI x4) ∧ ((x4 ≤ x6 → L_seer_leastFilm_87 X d rf Q mem p o x3 x4 x5) ∧ (¬ x4 ≤ x6 → (0 ≤ x3 ∧ x3 < 6) ∧ ((inI (mem 41 (x3).toNat)) ∧ (((mem 41 (x3).toNat) = (-1) → L_seer_leastFilm_87 X d rf Q mem p o x3 x4 x5) ∧ (¬ (mem 41 (x3).toNat) = (-1) → Ci X d 144 [(2, 36), (2, ((p : Nat) : Int)), (2, 39), (0, (-1))] rf mem (fun r9 mem10 => L_seer_leastFilm_47 X d rf Q mem10 p o x3 x4 x5 (x6 + 1)))))))) : L_seer_leastFilm_47 X d rf Q mem p o x3 x4 x5 x6 := by
  refine zW.go 2 51 [(2, 35), (2, ((p : Nat) : Int)), (2, ((o : Nat) : Int)), (0, x3), (0, x4), (0, x5), (0, x6)] [(0, x4), (0, x6)] _ rfl ?_
  refine w_ic_ge rfl (by decide) (pc' := 54) rfl h.1 (fun c7 => ?_) (fun c7 => ?_)
  · have h := h.2.1 c7
    exact h (0, x6)
  · have h := h.2.2 c7
    refine zW.go 1 55 [(2, 35), (2, ((p : Nat) : Int)), (2, ((o : Nat) : Int)), (0, x3), (0, x4), (0, x5), (0, x6)] [(2, 35)] _ rfl ?_
    refine w_getL (q := 35) (v := 39) rfl (by decide) (pc' := 58) rfl ⟨by decide, rfl⟩ rfl rfl (zall_at hR (by decide)) ?_
    refine w_getL (q := 39) (v := 41) rfl (by decide) (pc' := 61) rfl ⟨by decide, rfl⟩ rfl rfl (zall_at hR (by decide)) ?_
    refine zW.go 1 62 [(2, 35), (2, ((p : Nat) : Int)), (2, ((o : Nat) : Int)), (0, x3), (0, x4), (0, x5), (0, x6)] [(0, x3), (2, 41)] _ rfl ?_
    obtain ⟨g, h⟩ := h
    refine w_iald (q := 41) rfl (by decide) (pc' := 63) rfl ⟨by decide, rfl⟩ rfl g rfl ?_
    refine zW.go 1 64 [(2, 35), (2, ((p : Nat) : Int)), (2, ((o : Nat) : Int)), (0, x3), (0, x4), (0, x5), (0, x6)] [(0, (-1)), (0, (mem 41 (x3).toNat))] _ rfl ?_
    refine w_ic_eq rfl (by decide) (pc' := 67) rfl ⟨h.1, by decide⟩ (fun c8 => ?_) (fun c8 => ?_)
    · have h := h.2.1 c8
      exact h (0, x6)
    · have h := h.2.2 c8
      refine zW.go 1 68 [(2, 35), (2, ((p : Nat) : Int)), (2, ((o : Nat) : Int)), (0, x3), (0, x4), (0, x5), (0, x6)] [(2, 35)] _ rfl ?_
      refine w_getL (q := 35) (v := 36) rfl (by decide) (pc' := 71) rfl ⟨by decide, rfl⟩ rfl rfl (zall_at hR (by decide)) ?_
      refine zW.go 2 73 [(2, 35), (2, ((p : Nat) : Int)), (2, ((o : Nat) : Int)), (0, x3), (0, x4), (0, x5), (0, x6)] [(2, 35), (2, ((p : Nat) : Int)), (2, 36)] _ rfl ?_
      refine w_getL (q := 35) (v := 39) rfl (by decide) (pc' := 76) rfl ⟨by decide, rfl⟩ rfl rfl (zall_at hR (by decide)) ?_
      refine zW.go 1 77 [(2, 35), (2, ((p : Nat) : Int)), (2, ((o : Nat) : Int)), (0, x3), (0, x4), (0, x5), (0, x6)] [(0, (-1)), (2, 39), (2, ((p : Nat) : Int)), (2, 36)] _ rfl ?_
      refine w_calli (as := [(2, 36), (2, ((p : Nat) : Int)), (2, 39), (0, (-1))]) [] 80 rfl rfl rfl rfl (Nat.le_of_ble_eq_true rfl) (Nat.le_of_ble_eq_true rfl) (Nat.le_of_ble_eq_true rfl) (Or.inr rfl) (Ci.imp h (fun r9 mem10 h => ?_))
      refine zW.go 3 47 [(2, 35), (2, ((p : Nat) : Int)), (2, ((o : Nat) : Int)), (0, x3), (0, x4), (0, x5), (0, (x6 + 1))] [] _ rfl ?_
      exact h
set_option maxRecDepth 4000 in
theorem s_seer_leastFilm_87 {X : zX} {d : Nat} {rf mem : zF} {Q : Int → zF → Prop} (hR : zall rf zRK = true) {p : Nat} (hp : zPln rf p) {o : Nat} (ho : zScn rf o) {x3 : Int} {x4 : Int} {x5 : Int} (h : (0 ≤ x3 ∧ x3 < 6) ∧ ((inI (mem 41 (x3).toNat)) ∧ (((mem 41 (x3).toNat) = (-1) → L_seer_leastFilm_9 X d rf Q mem p o x3 x4 (x5 + 1)) ∧ (¬ (mem 41 (x3).toNat) = (-1) → Q x5 mem)))) : L_seer_leastFilm_87 X d rf Q mem p o x3 x4 x5 := by
  intro z6
  refine zW.go 1 88 [(2, 35), (2, ((p : Nat) : Int)), (2, ((o : Nat) : Int)), (0, x3), (0, x4), (0, x5), z6] [(2, 35)] _ rfl ?_
  refine w_getL (q := 35) (v := 39) rfl (by decide) (pc' := 91) rfl ⟨by decide, rfl⟩ rfl rfl (zall_at hR (by decide)) ?_
  refine w_getL (q := 39) (v := 41) rfl (by decide) (pc' := 94) rfl ⟨by decide, rfl⟩ rfl rfl (zall_at hR (by decide)) ?_
  refine zW.go 1 95 [(2, 35), (2, ((p : Nat) : Int)), (2, ((o : Nat) : Int)), (0, x3), (0, x4), (0, x5), z6] [(0, x3), (2, 41)] _ rfl ?_
  obtain ⟨g, h⟩ := h
  refine w_iald (q := 41) rfl (by decide) (pc' := 96) rfl ⟨by decide, rfl⟩ rfl g rfl ?_
  refine zW.go 1 97 [(2, 35), (2, ((p : Nat) : Int)), (2, ((o : Nat) : Int)), (0, x3), (0, x4), (0, x5), z6] [(0, (-1)), (0, (mem 41 (x3).toNat))] _ rfl ?_
  refine w_ic_eq rfl (by decide) (pc' := 100) rfl ⟨h.1, by decide⟩ (fun c11 => ?_) (fun c11 => ?_)
  · have h := h.2.1 c11
    refine zW.go 2 9 [(2, 35), (2, ((p : Nat) : Int)), (2, ((o : Nat) : Int)), (0, x3), (0, x4), (0, (x5 + 1)), z6] [] _ rfl ?_
    exact h z6
  · have h := h.2.2 c11
    refine zW.go 1 102 [(2, 35), (2, ((p : Nat) : Int)), (2, ((o : Nat) : Int)), (0, x3), (0, x4), (0, x5), z6] [(0, x5)] _ rfl ?_
    exact w_reti rfl rfl h
set_option maxRecDepth 4000 in
theorem s_seer_leastFilm {X : zX} {d : Nat} {rf mem : zF} {Q : Int → zF → Prop} (hR : zall rf zRK = true) {p : Nat} (hp : zPln rf p) {o : Nat} (ho : zScn rf o) {x3 : Int} {x4 : Int} (h : Cv X d 100 [(2, 35), (2, ((p : Nat) : Int)), (2, ((o : Nat) : Int))] rf mem (fun mem1 => L_seer_leastFilm_9 X d rf Q mem1 p o x3 x4 1)) : Ci X (d + 1) 109 [(2, 35), (2, ((p : Nat) : Int)), (2, ((o : Nat) : Int)), (0, x3), (0, x4)] rf mem Q := by
  show zW X (d + 1) 109 0 [(2, 35), (2, ((p : Nat) : Int)), (2, ((o : Nat) : Int)), (0, x3), (0, x4), (9, 0), (9, 0)] [] (zty, rf, mem) (qi rf Q)
  refine zW.go 3 3 [(2, 35), (2, ((p : Nat) : Int)), (2, ((o : Nat) : Int)), (0, x3), (0, x4), (9, 0), (9, 0)] [(2, ((o : Nat) : Int)), (2, ((p : Nat) : Int)), (2, 35)] _ rfl ?_
  refine w_callv (as := [(2, 35), (2, ((p : Nat) : Int)), (2, ((o : Nat) : Int))]) [] 6 rfl rfl rfl rfl (Nat.le_of_ble_eq_true rfl) (Nat.le_of_ble_eq_true rfl) (Nat.le_of_ble_eq_true rfl) (Or.inr rfl) (Cv.imp h (fun mem1 h => ?_))
  refine zW.go 2 9 [(2, 35), (2, ((p : Nat) : Int)), (2, ((o : Nat) : Int)), (0, x3), (0, x4), (0, 1), (9, 0)] [] _ rfl ?_
  exact h (9, 0)
def L_seer_rowsToOwn_41 (X : zX) (d : Nat) (rf : zF) (Q : Int → zF → Prop) (mem : zF) (p : Nat) (o : Nat) (x3 : Int) (x4 : Int) (x6 : Int) (x7 : Int) : Prop := ∀ z5 : zV, z5.1 ≠ 1 → zW X (d + 1) 110 41 [(2, 35), (2, ((p : Nat) : Int)), (2, ((o : Nat) : Int)), (0, x3), (0, x4), z5, (0, x6), (0, x7)] [] (zty, rf, mem) (qi rf Q)
set_option maxRecDepth 4000 in
theorem s_seer_rowsToOwn_41 {X : zX} {d : Nat} {rf mem : zF} {Q : Int → zF → Prop} (hR : zall rf zRK = true) {p : Nat} (hp : zPln rf p) {o : Nat} (ho : zScn rf o) {x3 : Int} {x4 : Int} {x6 : Int} {x7 : Int} (h : (inI x7) ∧ ((4 ≤ x7 → Q x6 mem) ∧ (¬ 4 ≤ x7 → Ci X d 111 [(2, 35), (2, ((p : Nat) : Int)), (2, ((o : Nat) : Int)), (0, x3), (0, x4), (0, x7)] rf mem (fun r6 mem7 => (inI r6) ∧ ((r6 = 0 → L_seer_rowsToOwn_41 X d rf Q mem7 p o x3 x4 (x6 + 0) (x7 + 1)) ∧ (¬ r6 = 0 → L_seer_rowsToOwn_41 X d rf Q mem7 p o x3 x4 (x6 + (mem7 p 4)) (x7 + 1))))))) : L_seer_rowsToOwn_41 X d rf Q mem p o x3 x4 x6 x7 := by
  intro z5 hz5
  refine zW.go 2 44 [(2, 35), (2, ((p : Nat) : Int)), (2, ((o : Nat) : Int)), (0, x3), (0, x4), z5, (0, x6), (0, x7)] [(0, 4), (0, x7)] _ rfl ?_
  refine w_ic_ge rfl (by decide) (pc' := 47) rfl ⟨h.1, by decide⟩ (fun c5 => ?_) (fun c5 => ?_)
  · have h := h.2.1 c5
    refine zW.go 1 82 [(2, 35), (2, ((p : Nat) : Int)), (2, ((o : Nat) : Int)), (0, x3), (0, x4), z5, (0, x6), (0, x7)] [(0, x6)] _ rfl ?_
    exact w_reti rfl rfl h
  · have h := h.2.2 c5
    refine zW.go 7 57 [(2, 35), (2, ((p : Nat) : Int)), (2, ((o : Nat) : Int)), (0, x3), (0, x4), z5, (0, x6), (0, x7)] [(0, x7), (0, x4), (0, x3), (2, ((o : Nat) : Int)), (2, ((p : Nat) : Int)), (2, 35), (0, x6)] _ rfl ?_
    refine w_calli (as := [(2, 35), (2, ((p : Nat) : Int)), (2, ((o : Nat) : Int)), (0, x3), (0, x4), (0, x7)]) [(0, x6)] 60 rfl rfl rfl rfl (Nat.le_of_ble_eq_true rfl) (Nat.le_of_ble_eq_true rfl) (Nat.le_of_ble_eq_true rfl) (Or.inr rfl) (Ci.imp h (fun r6 mem7 h => ?_))
    refine w_if_eq rfl (by decide) (pc' := 63) rfl h.1 (fun c8 => ?_) (fun c8 => ?_)
    · have h := h.2.1 c8
      refine zW.go 2 72 [(2, 35), (2, ((p : Nat) : Int)), (2, ((o : Nat) : Int)), (0, x3), (0, x4), z5, (0, x6), (0, x7)] [(0, (x6 + 0))] _ rfl ?_
      refine zW.step 74 [(2, 35), (2, ((p : Nat) : Int)), (2, ((o : Nat) : Int)), (0, x3), (0, x4), z5, (0, (x6 + 0)), (0, x7)] [] _ rfl (by decide) (by decide) (by show some (_, zst1 [(2, 35), (2, ((p : Nat) : Int)), (2, ((o : Nat) : Int)), (0, x3), (0, x4), z5, (0, x6), (0, x7)] 6 _, _, _) = _; rw [zst1_z (ls := [(2, 35), (2, ((p : Nat) : Int)), (2, ((o : Nat) : Int)), (0, x3), (0, x4), z5, (0, x6), (0, x7)]) (i := 6) hz5]; rfl) ?_
      refine zW.go 2 41 [(2, 35), (2, ((p : Nat) : Int)), (2, ((o : Nat) : Int)), (0, x3), (0, x4), z5, (0, (x6 + 0)), (0, (x7 + 1))] [] _ rfl ?_
      exact h z5 hz5
    · have h := h.2.2 c8
      refine zW.go 1 64 [(2, 35), (2, ((p : Nat) : Int)), (2, ((o : Nat) : Int)), (0, x3), (0, x4), z5, (0, x6), (0, x7)] [(2, ((p : Nat) : Int)), (0, x6)] _ rfl ?_
      refine w_getI (q := p) rfl (by decide) (pc' := 67) rfl ⟨Int.natCast_nonneg _, rfl⟩ (zPln_t0 hp) (by decide) ?_
      refine zW.go 2 72 [(2, 35), (2, ((p : Nat) : Int)), (2, ((o : Nat) : Int)), (0, x3), (0, x4), z5, (0, x6), (0, x7)] [(0, (x6 + (mem7 p 4)))] _ rfl ?_
      refine zW.step 74 [(2, 35), (2, ((p : Nat) : Int)), (2, ((o : Nat) : Int)), (0, x3), (0, x4), z5, (0, (x6 + (mem7 p 4))), (0, x7)] [] _ rfl (by decide) (by decide) (by show some (_, zst1 [(2, 35), (2, ((p : Nat) : Int)), (2, ((o : Nat) : Int)), (0, x3), (0, x4), z5, (0, x6), (0, x7)] 6 _, _, _) = _; rw [zst1_z (ls := [(2, 35), (2, ((p : Nat) : Int)), (2, ((o : Nat) : Int)), (0, x3), (0, x4), z5, (0, x6), (0, x7)]) (i := 6) hz5]; rfl) ?_
      refine zW.go 2 41 [(2, 35), (2, ((p : Nat) : Int)), (2, ((o : Nat) : Int)), (0, x3), (0, x4), z5, (0, (x6 + (mem7 p 4))), (0, (x7 + 1))] [] _ rfl ?_
      exact h z5 hz5
set_option maxRecDepth 4000 in
theorem s_seer_rowsToOwn {X : zX} {d : Nat} {rf mem : zF} {Q : Int → zF → Prop} (hR : zall rf zRK = true) {p : Nat} (hp : zPln rf p) {o : Nat} (ho : zScn rf o) {x3 : Int} {x4 : Int} (h : Cv X d 100 [(2, 35), (2, ((p : Nat) : Int)), (2, ((o : Nat) : Int))] rf mem (fun mem1 => Ci X d 111 [(2, 35), (2, ((p : Nat) : Int)), (2, ((o : Nat) : Int)), (0, x3), (0, x4), (0, (-1))] rf mem1 (fun r2 mem3 => (inI r2) ∧ ((r2 = 0 → L_seer_rowsToOwn_41 X d rf Q mem3 p o x3 x4 0 0) ∧ (¬ r2 = 0 → L_seer_rowsToOwn_41 X d rf Q mem3 p o x3 x4 (4 * (100 - (mem3 p 4))) 0))))) : Ci X (d + 1) 110 [(2, 35), (2, ((p : Nat) : Int)), (2, ((o : Nat) : Int)), (0, x3), (0, x4)] rf mem Q := by
  show zW X (d + 1) 110 0 [(2, 35), (2, ((p : Nat) : Int)), (2, ((o : Nat) : Int)), (0, x3), (0, x4), (9, 0), (9, 0), (9, 0)] [] (zty, rf, mem) (qi rf Q)
  refine zW.go 3 3 [(2, 35), (2, ((p : Nat) : Int)), (2, ((o : Nat) : Int)), (0, x3), (0, x4), (9, 0), (9, 0), (9, 0)] [(2, ((o : Nat) : Int)), (2, ((p : Nat) : Int)), (2, 35)] _ rfl ?_
  refine w_callv (as := [(2, 35), (2, ((p : Nat) : Int)), (2, ((o : Nat) : Int))]) [] 6 rfl rfl rfl rfl (Nat.le_of_ble_eq_true rfl) (Nat.le_of_ble_eq_true rfl) (Nat.le_of_ble_eq_true rfl) (Or.inr rfl) (Cv.imp h (fun mem1 h => ?_))
  refine zW.go 6 13 [(2, 35), (2, ((p : Nat) : Int)), (2, ((o : Nat) : Int)), (0, x3), (0, x4), (9, 0), (9, 0), (9, 0)] [(0, (-1)), (0, x4), (0, x3), (2, ((o : Nat) : Int)), (2, ((p : Nat) : Int)), (2, 35)] _ rfl ?_
  refine w_calli (as := [(2, 35), (2, ((p : Nat) : Int)), (2, ((o : Nat) : Int)), (0, x3), (0, x4), (0, (-1))]) [] 16 rfl rfl rfl rfl (Nat.le_of_ble_eq_true rfl) (Nat.le_of_ble_eq_true rfl) (Nat.le_of_ble_eq_true rfl) (Or.inr rfl) (Ci.imp h (fun r2 mem3 h => ?_))
  refine zW.go 2 20 [(2, 35), (2, ((p : Nat) : Int)), (2, ((o : Nat) : Int)), (0, x3), (0, x4), (0, r2), (9, 0), (9, 0)] [(0, r2)] _ rfl ?_
  refine w_if_eq rfl (by decide) (pc' := 23) rfl h.1 (fun c4 => ?_) (fun c4 => ?_)
  · have h := h.2.1 c4
    refine zW.go 4 41 [(2, 35), (2, ((p : Nat) : Int)), (2, ((o : Nat) : Int)), (0, x3), (0, x4), (0, r2), (0, 0), (0, 0)] [] _ rfl ?_
    exact h (0, r2) (by show (0 : Nat) ≠ 1; decide)
  · have h := h.2.2 c4
    refine zW.go 3 27 [(2, 35), (2, ((p : Nat) : Int)), (2, ((o : Nat) : Int)), (0, x3), (0, x4), (0, r2), (9, 0), (9, 0)] [(2, ((p : Nat) : Int)), (0, 100), (0, 4)] _ rfl ?_
    refine w_getI (q := p) rfl (by decide) (pc' := 30) rfl ⟨Int.natCast_nonneg _, rfl⟩ (zPln_t0 hp) (by decide) ?_
    refine zW.go 6 41 [(2, 35), (2, ((p : Nat) : Int)), (2, ((o : Nat) : Int)), (0, x3), (0, x4), (0, r2), (0, (4 * (100 - (mem3 p 4)))), (0, 0)] [] _ rfl ?_
    exact h (0, r2) (by show (0 : Nat) ≠ 1; decide)
set_option maxRecDepth 4000 in
theorem s_seer_ownsBehindNext {X : zX} {d : Nat} {rf mem : zF} {Q : Int → zF → Prop} (hR : zall rf zRK = true) {p : Nat} (hp : zPln rf p) {o : Nat} (ho : zScn rf o) {x3 : Int} {x4 : Int} {x5 : Int} (h : Cv X d 86 [(2, 39), (2, ((o : Nat) : Int))] rf mem (fun mem1 => Ci X d 144 [(2, 36), (2, ((p : Nat) : Int)), (2, 39), (0, x5)] rf mem1 (fun r2 mem3 => Ci X d 60 [(2, ((p : Nat) : Int)), (0, 2), (0, x3)] rf mem3 (fun r4 mem5 => (inI r4) ∧ ((r4 = 0 → Q 0 mem5) ∧ (¬ r4 = 0 → (0 ≤ x3 ∧ x3 < 6) ∧ ((inI (mem5 45 (x3).toNat) ∧ inI x4) ∧ ((¬ (mem5 45 (x3).toNat) = x4 → Q 0 mem5) ∧ ((mem5 45 (x3).toNat) = x4 → Q 1 mem5))))))))) : Ci X (d + 1) 111 [(2, 35), (2, ((p : Nat) : Int)), (2, ((o : Nat) : Int)), (0, x3), (0, x4), (0, x5)] rf mem Q := by
  show zW X (d + 1) 111 0 [(2, 35), (2, ((p : Nat) : Int)), (2, ((o : Nat) : Int)), (0, x3), (0, x4), (0, x5)] [] (zty, rf, mem) (qi rf Q)
  refine zW.go 1 1 [(2, 35), (2, ((p : Nat) : Int)), (2, ((o : Nat) : Int)), (0, x3), (0, x4), (0, x5)] [(2, 35)] _ rfl ?_
  refine w_getL (q := 35) (v := 39) rfl (by decide) (pc' := 4) rfl ⟨by decide, rfl⟩ rfl rfl (zall_at hR (by decide)) ?_
  refine zW.go 1 5 [(2, 35), (2, ((p : Nat) : Int)), (2, ((o : Nat) : Int)), (0, x3), (0, x4), (0, x5)] [(2, ((o : Nat) : Int)), (2, 39)] _ rfl ?_
  refine w_callv (as := [(2, 39), (2, ((o : Nat) : Int))]) [] 8 rfl rfl rfl rfl (Nat.le_of_ble_eq_true rfl) (Nat.le_of_ble_eq_true rfl) (Nat.le_of_ble_eq_true rfl) (Or.inr rfl) (Cv.imp h (fun mem1 h => ?_))
  refine zW.go 1 9 [(2, 35), (2, ((p : Nat) : Int)), (2, ((o : Nat) : Int)), (0, x3), (0, x4), (0, x5)] [(2, 35)] _ rfl ?_
  refine w_getL (q := 35) (v := 36) rfl (by decide) (pc' := 12) rfl ⟨by decide, rfl⟩ rfl rfl (zall_at hR (by decide)) ?_
  refine zW.go 2 14 [(2, 35), (2, ((p : Nat) : Int)), (2, ((o : Nat) : Int)), (0, x3), (0, x4), (0, x5)] [(2, 35), (2, ((p : Nat) : Int)), (2, 36)] _ rfl ?_
  refine w_getL (q := 35) (v := 39) rfl (by decide) (pc' := 17) rfl ⟨by decide, rfl⟩ rfl rfl (zall_at hR (by decide)) ?_
  refine zW.go 1 19 [(2, 35), (2, ((p : Nat) : Int)), (2, ((o : Nat) : Int)), (0, x3), (0, x4), (0, x5)] [(0, x5), (2, 39), (2, ((p : Nat) : Int)), (2, 36)] _ rfl ?_
  refine w_calli (as := [(2, 36), (2, ((p : Nat) : Int)), (2, 39), (0, x5)]) [] 22 rfl rfl rfl rfl (Nat.le_of_ble_eq_true rfl) (Nat.le_of_ble_eq_true rfl) (Nat.le_of_ble_eq_true rfl) (Or.inr rfl) (Ci.imp h (fun r2 mem3 h => ?_))
  refine zW.go 4 26 [(2, 35), (2, ((p : Nat) : Int)), (2, ((o : Nat) : Int)), (0, x3), (0, x4), (0, x5)] [(0, x3), (0, 2), (2, ((p : Nat) : Int))] _ rfl ?_
  refine w_calli (as := [(2, ((p : Nat) : Int)), (0, 2), (0, x3)]) [] 29 rfl rfl rfl rfl (Nat.le_of_ble_eq_true rfl) (Nat.le_of_ble_eq_true rfl) (Nat.le_of_ble_eq_true rfl) (Or.inr (zrcv_o (zPln_t0 hp))) (Ci.imp h (fun r4 mem5 h => ?_))
  refine w_if_eq rfl (by decide) (pc' := 32) rfl h.1 (fun c6 => ?_) (fun c6 => ?_)
  · have h := h.2.1 c6
    refine zW.go 1 51 [(2, 35), (2, ((p : Nat) : Int)), (2, ((o : Nat) : Int)), (0, x3), (0, x4), (0, x5)] [(0, 0)] _ rfl ?_
    exact w_retz rfl rfl (by decide) h
  · have h := h.2.2 c6
    refine zW.go 1 33 [(2, 35), (2, ((p : Nat) : Int)), (2, ((o : Nat) : Int)), (0, x3), (0, x4), (0, x5)] [(2, 35)] _ rfl ?_
    refine w_getL (q := 35) (v := 39) rfl (by decide) (pc' := 36) rfl ⟨by decide, rfl⟩ rfl rfl (zall_at hR (by decide)) ?_
    refine w_getL (q := 39) (v := 45) rfl (by decide) (pc' := 39) rfl ⟨by decide, rfl⟩ rfl rfl (zall_at hR (by decide)) ?_
    refine zW.go 1 40 [(2, 35), (2, ((p : Nat) : Int)), (2, ((o : Nat) : Int)), (0, x3), (0, x4), (0, x5)] [(0, x3), (2, 45)] _ rfl ?_
    obtain ⟨g, h⟩ := h
    refine w_iald (q := 45) rfl (by decide) (pc' := 41) rfl ⟨by decide, rfl⟩ rfl g rfl ?_
    refine zW.go 1 43 [(2, 35), (2, ((p : Nat) : Int)), (2, ((o : Nat) : Int)), (0, x3), (0, x4), (0, x5)] [(0, x4), (0, (mem5 45 (x3).toNat))] _ rfl ?_
    refine w_ic_ne rfl (by decide) (pc' := 46) rfl h.1 (fun c7 => ?_) (fun c7 => ?_)
    · have h := h.2.1 c7
      refine zW.go 1 51 [(2, 35), (2, ((p : Nat) : Int)), (2, ((o : Nat) : Int)), (0, x3), (0, x4), (0, x5)] [(0, 0)] _ rfl ?_
      exact w_retz rfl rfl (by decide) h
    · have h := h.2.2 c7
      refine zW.go 2 51 [(2, 35), (2, ((p : Nat) : Int)), (2, ((o : Nat) : Int)), (0, x3), (0, x4), (0, x5)] [(0, 1)] _ rfl ?_
      exact w_retz rfl rfl (by decide) h
set_option maxRecDepth 4000 in
theorem s_seer_forget {X : zX} {d : Nat} {rf mem : zF} {Q : zF → Prop} (hR : zall rf zRK = true) (h : Q (zup mem 35 7 0)) : Cv X d 112 [(2, 35)] rf mem Q := by
  show zW X d 112 0 [(2, 35)] [] (zty, rf, mem) (qv rf Q)
  refine zW.go 2 2 [(2, 35)] [(0, 0), (2, 35)] _ rfl ?_
  refine w_putI (q := 35) rfl (by decide) (pc' := 5) rfl ⟨by decide, rfl⟩ rfl (by decide) ?_
  exact w_retv rfl rfl h
def L_seer_takeFelt_32 (X : zX) (d : Nat) (rf : zF) (Q : Int → zF → Prop) (mem : zF) (p : Nat) (x3 : Int) (x4 : Int) : Prop := zW X (d + 1) 113 32 [(2, 35), (2, 1), (2, ((p : Nat) : Int)), (0, x3), (0, x4)] [] (zty, rf, mem) (qi rf Q)
def L_seer_takeFelt_61 (X : zX) (d : Nat) (rf : zF) (Q : Int → zF → Prop) (mem : zF) (p : Nat) (x3 : Int) (x4 : Int) : Prop := ∀ z2 : zV, zW X (d + 1) 113 61 [(2, 35), (2, 1), z2, (0, x3), (0, x4)] [] (zty, rf, mem) (qi rf Q)
set_option maxRecDepth 4000 in
theorem s_seer_takeFelt_32 {X : zX} {d : Nat} {rf mem : zF} {Q : Int → zF → Prop} (hR : zall rf zRK = true) {p : Nat} (hp : zPln rf p) {x3 : Int} {x4 : Int} (h : (inI x4 ∧ inI x3) ∧ ((x3 ≤ x4 → L_seer_takeFelt_61 X d rf Q mem p x3 0) ∧ (¬ x3 ≤ x4 → Ci X d 114 [(2, 1), (0, (4 * x4)), (2, ((p : Nat) : Int))] rf mem (fun r5 mem6 => (inI r5) ∧ ((¬ r5 = 0 → L_seer_takeFelt_32 X d rf Q mem6 p x3 (x4 + 1)) ∧ (r5 = 0 → Q 0 mem6)))))) : L_seer_takeFelt_32 X d rf Q mem p x3 x4 := by
  refine zW.go 2 35 [(2, 35), (2, 1), (2, ((p : Nat) : Int)), (0, x3), (0, x4)] [(0, x3), (0, x4)] _ rfl ?_
  refine w_ic_ge rfl (by decide) (pc' := 38) rfl h.1 (fun c4 => ?_) (fun c4 => ?_)
  · have h := h.2.1 c4
    refine zW.go 2 61 [(2, 35), (2, 1), (2, ((p : Nat) : Int)), (0, x3), (0, 0)] [] _ rfl ?_
    exact h (2, ((p : Nat) : Int))
  · have h := h.2.2 c4
    refine zW.go 5 44 [(2, 35), (2, 1), (2, ((p : Nat) : Int)), (0, x3), (0, x4)] [(2, ((p : Nat) : Int)), (0, (4 * x4)), (2, 1)] _ rfl ?_
    refine w_calli (as := [(2, 1), (0, (4 * x4)), (2, ((p : Nat) : Int))]) [] 47 rfl rfl rfl rfl (Nat.le_of_ble_eq_true rfl) (Nat.le_of_ble_eq_true rfl) (Nat.le_of_ble_eq_true rfl) (Or.inl rfl) (Ci.imp h (fun r5 mem6 h => ?_))
    refine w_if_ne rfl (by decide) (pc' := 50) rfl h.1 (fun c7 => ?_) (fun c7 => ?_)
    · have h := h.2.1 c7
      refine zW.go 2 32 [(2, 35), (2, 1), (2, ((p : Nat) : Int)), (0, x3), (0, (x4 + 1))] [] _ rfl ?_
      exact h
    · have h := h.2.2 c7
      refine zW.go 1 51 [(2, 35), (2, 1), (2, ((p : Nat) : Int)), (0, x3), (0, x4)] [(0, 0)] _ rfl ?_
      exact w_retz rfl rfl (by decide) h
set_option maxRecDepth 4000 in
theorem s_seer_takeFelt_61 {X : zX} {d : Nat} {rf mem : zF} {Q : Int → zF → Prop} (hR : zall rf zRK = true) {p : Nat} (hp : zPln rf p) {x3 : Int} {x4 : Int} (h : (inI x4 ∧ inI (4 * x3)) ∧ (((4 * x3) ≤ x4 → Q 1 (zup mem 35 7 x3)) ∧ (¬ (4 * x3) ≤ x4 → (inI x4) ∧ ((64 ≤ x4 → Q 1 (zup mem 35 7 x3)) ∧ (¬ 64 ≤ x4 → Ci X d 125 [(2, 1), (0, x4)] rf mem (fun r10 mem11 => (0 ≤ x4 ∧ x4 < 64) ∧ (L_seer_takeFelt_61 X d rf Q (zup mem11 48 (x4).toNat r10) p x3 (x4 + 1)))))))) : L_seer_takeFelt_61 X d rf Q mem p x3 x4 := by
  intro z2
  refine zW.go 4 66 [(2, 35), (2, 1), z2, (0, x3), (0, x4)] [(0, (4 * x3)), (0, x4)] _ rfl ?_
  refine w_ic_ge rfl (by decide) (pc' := 69) rfl h.1 (fun c8 => ?_) (fun c8 => ?_)
  · have h := h.2.1 c8
    refine zW.go 2 100 [(2, 35), (2, 1), z2, (0, x3), (0, x4)] [(0, x3), (2, 35)] _ rfl ?_
    refine w_putI (q := 35) rfl (by decide) (pc' := 103) rfl ⟨by decide, rfl⟩ rfl (by decide) ?_
    refine zW.go 1 104 [(2, 35), (2, 1), z2, (0, x3), (0, x4)] [(0, 1)] _ rfl ?_
    exact w_retz rfl rfl (by decide) h
  · have h := h.2.2 c8
    refine zW.go 2 72 [(2, 35), (2, 1), z2, (0, x3), (0, x4)] [(2, 35), (0, x4)] _ rfl ?_
    refine w_getL (q := 35) (v := 48) rfl (by decide) (pc' := 75) rfl ⟨by decide, rfl⟩ rfl rfl (zall_at hR (by decide)) ?_
    refine w_alen (q := 48) rfl (by decide) (pc' := 76) rfl ⟨by decide, rfl⟩ rfl (by decide) ?_
    refine w_ic_ge rfl (by decide) (pc' := 79) rfl ⟨h.1, by decide⟩ (fun c9 => ?_) (fun c9 => ?_)
    · have h := h.2.1 c9
      refine zW.go 2 100 [(2, 35), (2, 1), z2, (0, x3), (0, x4)] [(0, x3), (2, 35)] _ rfl ?_
      refine w_putI (q := 35) rfl (by decide) (pc' := 103) rfl ⟨by decide, rfl⟩ rfl (by decide) ?_
      refine zW.go 1 104 [(2, 35), (2, 1), z2, (0, x3), (0, x4)] [(0, 1)] _ rfl ?_
      exact w_retz rfl rfl (by decide) h
    · have h := h.2.2 c9
      refine zW.go 1 80 [(2, 35), (2, 1), z2, (0, x3), (0, x4)] [(2, 35)] _ rfl ?_
      refine w_getL (q := 35) (v := 48) rfl (by decide) (pc' := 83) rfl ⟨by decide, rfl⟩ rfl rfl (zall_at hR (by decide)) ?_
      refine zW.go 3 88 [(2, 35), (2, 1), z2, (0, x3), (0, x4)] [(0, x4), (2, 1), (0, x4), (2, 48)] _ rfl ?_
      refine w_calli (as := [(2, 1), (0, x4)]) [(0, x4), (2, 48)] 91 rfl rfl rfl rfl (Nat.le_of_ble_eq_true rfl) (Nat.le_of_ble_eq_true rfl) (Nat.le_of_ble_eq_true rfl) (Or.inr rfl) (Ci.imp h (fun r10 mem11 h => ?_))
      obtain ⟨g, h⟩ := h
      refine w_iast (q := 48) rfl (by decide) (pc' := 92) rfl ⟨by decide, rfl⟩ rfl g rfl ?_
      refine zW.go 2 61 [(2, 35), (2, 1), z2, (0, x3), (0, (x4 + 1))] [] _ rfl ?_
      exact h z2
set_option maxRecDepth 4000 in
theorem s_seer_takeFelt {X : zX} {d : Nat} {rf mem : zF} {Q : Int → zF → Prop} (hR : zall rf zRK = true) {p : Nat} (hp : zPln rf p) (h : (inI (mem 1 1)) ∧ ((inI ((mem 1 1).tdiv 4)) ∧ ((((mem 1 1).tdiv 4) < 1 → Q 0 mem) ∧ (¬ ((mem 1 1).tdiv 4) < 1 → (inI ((mem 1 1).tdiv 4)) ∧ ((16 < ((mem 1 1).tdiv 4) → Q 0 mem) ∧ (¬ 16 < ((mem 1 1).tdiv 4) → (inI (mem 1 1)) ∧ ((inI ((mem 1 1).tmod 4)) ∧ ((((mem 1 1).tmod 4) = 0 → L_seer_takeFelt_32 X d rf Q mem p ((mem 1 1).tdiv 4) 0) ∧ (¬ ((mem 1 1).tmod 4) = 0 → Q 0 mem))))))))) : Ci X (d + 1) 113 [(2, 35), (2, 1), (2, ((p : Nat) : Int))] rf mem Q := by
  show zW X (d + 1) 113 0 [(2, 35), (2, 1), (2, ((p : Nat) : Int)), (9, 0), (9, 0)] [] (zty, rf, mem) (qi rf Q)
  refine zW.go 1 1 [(2, 35), (2, 1), (2, ((p : Nat) : Int)), (9, 0), (9, 0)] [(2, 1)] _ rfl ?_
  refine w_getI (q := 1) rfl (by decide) (pc' := 4) rfl ⟨by decide, rfl⟩ rfl (by decide) ?_
  refine zW.go 1 5 [(2, 35), (2, 1), (2, ((p : Nat) : Int)), (9, 0), (9, 0)] [(0, 4), (0, (mem 1 1))] _ rfl ?_
  obtain ⟨g, h⟩ := h
  refine w_idiv rfl (by decide) (pc' := 6) rfl ⟨g, by decide, by decide⟩ ?_
  refine zW.go 3 9 [(2, 35), (2, 1), (2, ((p : Nat) : Int)), (0, ((mem 1 1).tdiv 4)), (9, 0)] [(0, 1), (0, ((mem 1 1).tdiv 4))] _ rfl ?_
  refine w_ic_lt rfl (by decide) (pc' := 12) rfl ⟨h.1, by decide⟩ (fun c1 => ?_) (fun c1 => ?_)
  · have h := h.2.1 c1
    refine zW.go 1 28 [(2, 35), (2, 1), (2, ((p : Nat) : Int)), (0, ((mem 1 1).tdiv 4)), (9, 0)] [(0, 0)] _ rfl ?_
    exact w_retz rfl rfl (by decide) h
  · have h := h.2.2 c1
    refine zW.go 2 15 [(2, 35), (2, 1), (2, ((p : Nat) : Int)), (0, ((mem 1 1).tdiv 4)), (9, 0)] [(0, 16), (0, ((mem 1 1).tdiv 4))] _ rfl ?_
    refine w_ic_gt rfl (by decide) (pc' := 18) rfl ⟨h.1, by decide⟩ (fun c2 => ?_) (fun c2 => ?_)
    · have h := h.2.1 c2
      refine zW.go 1 28 [(2, 35), (2, 1), (2, ((p : Nat) : Int)), (0, ((mem 1 1).tdiv 4)), (9, 0)] [(0, 0)] _ rfl ?_
      exact w_retz rfl rfl (by decide) h
    · have h := h.2.2 c2
      refine zW.go 1 19 [(2, 35), (2, 1), (2, ((p : Nat) : Int)), (0, ((mem 1 1).tdiv 4)), (9, 0)] [(2, 1)] _ rfl ?_
      refine w_getI (q := 1) rfl (by decide) (pc' := 22) rfl ⟨by decide, rfl⟩ rfl (by decide) ?_
      refine zW.go 1 23 [(2, 35), (2, 1), (2, ((p : Nat) : Int)), (0, ((mem 1 1).tdiv 4)), (9, 0)] [(0, 4), (0, (mem 1 1))] _ rfl ?_
      obtain ⟨g, h⟩ := h
      refine w_irem rfl (by decide) (pc' := 24) rfl ⟨g, by decide, by decide⟩ ?_
      refine w_if_eq rfl (by decide) (pc' := 27) rfl h.1 (fun c3 => ?_) (fun c3 => ?_)
      · have h := h.2.1 c3
        refine zW.go 2 32 [(2, 35), (2, 1), (2, ((p : Nat) : Int)), (0, ((mem 1 1).tdiv 4)), (0, 0)] [] _ rfl ?_
        exact h
      · have h := h.2.2 c3
        refine zW.go 1 28 [(2, 35), (2, 1), (2, ((p : Nat) : Int)), (0, ((mem 1 1).tdiv 4)), (9, 0)] [(0, 0)] _ rfl ?_
        exact w_retz rfl rfl (by decide) h
def L_seer_canBeFelt_37 (X : zX) (d : Nat) (rf : zF) (Q : Int → zF → Prop) (mem : zF) (p : Nat) (x1 : Int) (x3 : Int) (x4 : Int) (s0 : Int) : Prop := ∀ z5 : zV, zW X (d + 1) 114 37 [(2, 1), (0, x1), (2, ((p : Nat) : Int)), (0, x3), (0, x4), z5] [(0, s0)] (zty, rf, mem) (qi rf Q)
set_option maxRecDepth 4000 in
theorem s_seer_canBeFelt_37 {X : zX} {d : Nat} {rf mem : zF} {Q : Int → zF → Prop} (hR : zall rf zRK = true) {p : Nat} (hp : zPln rf p) {x1 : Int} {x3 : Int} {x4 : Int} {s0 : Int} (h : Ci X d 125 [(2, 1), (0, x1)] rf mem (fun r7 mem8 => (inI r7) ∧ ((30 < r7 → Q 0 mem8) ∧ (¬ 30 < r7 → Ci X d 125 [(2, 1), (0, (x1 + 1))] rf mem8 (fun r10 mem11 => Ci X d 60 [(2, ((p : Nat) : Int)), (0, 2), (0, r10)] rf mem11 (fun r12 mem13 => (inI r12) ∧ ((r12 = 0 → Q 0 mem13) ∧ (¬ r12 = 0 → (inI s0) ∧ ((¬ s0 = 0 → Q 1 mem13) ∧ (s0 = 0 → Ci X d 69 [(2, ((p : Nat) : Int)), (0, x3), (0, x4)] rf mem13 (fun r16 mem17 => (inI r16) ∧ ((r16 = (-1) → Q 0 mem17) ∧ (¬ r16 = (-1) → Q 1 mem17))))))))))))) : L_seer_canBeFelt_37 X d rf Q mem p x1 x3 x4 s0 := by
  intro z5
  refine zW.go 3 41 [(2, 1), (0, x1), (2, ((p : Nat) : Int)), (0, x3), (0, x4), (0, s0)] [(0, x1), (2, 1)] _ rfl ?_
  refine w_calli (as := [(2, 1), (0, x1)]) [] 44 rfl rfl rfl rfl (Nat.le_of_ble_eq_true rfl) (Nat.le_of_ble_eq_true rfl) (Nat.le_of_ble_eq_true rfl) (Or.inr rfl) (Ci.imp h (fun r7 mem8 h => ?_))
  refine zW.go 1 46 [(2, 1), (0, x1), (2, ((p : Nat) : Int)), (0, x3), (0, x4), (0, s0)] [(0, 30), (0, r7)] _ rfl ?_
  refine w_ic_gt rfl (by decide) (pc' := 49) rfl ⟨h.1, by decide⟩ (fun c9 => ?_) (fun c9 => ?_)
  · have h := h.2.1 c9
    refine zW.go 1 85 [(2, 1), (0, x1), (2, ((p : Nat) : Int)), (0, x3), (0, x4), (0, s0)] [(0, 0)] _ rfl ?_
    exact w_retz rfl rfl (by decide) h
  · have h := h.2.2 c9
    refine zW.go 6 55 [(2, 1), (0, x1), (2, ((p : Nat) : Int)), (0, x3), (0, x4), (0, s0)] [(0, (x1 + 1)), (2, 1), (0, 2), (2, ((p : Nat) : Int))] _ rfl ?_
    refine w_calli (as := [(2, 1), (0, (x1 + 1))]) [(0, 2), (2, ((p : Nat) : Int))] 58 rfl rfl rfl rfl (Nat.le_of_ble_eq_true rfl) (Nat.le_of_ble_eq_true rfl) (Nat.le_of_ble_eq_true rfl) (Or.inr rfl) (Ci.imp h (fun r10 mem11 h => ?_))
    refine w_calli (as := [(2, ((p : Nat) : Int)), (0, 2), (0, r10)]) [] 61 rfl rfl rfl rfl (Nat.le_of_ble_eq_true rfl) (Nat.le_of_ble_eq_true rfl) (Nat.le_of_ble_eq_true rfl) (Or.inr (zrcv_o (zPln_t0 hp))) (Ci.imp h (fun r12 mem13 h => ?_))
    refine w_if_eq rfl (by decide) (pc' := 64) rfl h.1 (fun c14 => ?_) (fun c14 => ?_)
    · have h := h.2.1 c14
      refine zW.go 1 85 [(2, 1), (0, x1), (2, ((p : Nat) : Int)), (0, x3), (0, x4), (0, s0)] [(0, 0)] _ rfl ?_
      exact w_retz rfl rfl (by decide) h
    · have h := h.2.2 c14
      refine zW.go 1 66 [(2, 1), (0, x1), (2, ((p : Nat) : Int)), (0, x3), (0, x4), (0, s0)] [(0, s0)] _ rfl ?_
      refine w_if_ne rfl (by decide) (pc' := 69) rfl h.1 (fun c15 => ?_) (fun c15 => ?_)
      · have h := h.2.1 c15
        refine zW.go 2 85 [(2, 1), (0, x1), (2, ((p : Nat) : Int)), (0, x3), (0, x4), (0, s0)] [(0, 1)] _ rfl ?_
        exact w_retz rfl rfl (by decide) h
      · have h := h.2.2 c15
        refine zW.go 3 73 [(2, 1), (0, x1), (2, ((p : Nat) : Int)), (0, x3), (0, x4), (0, s0)] [(0, x4), (0, x3), (2, ((p : Nat) : Int))] _ rfl ?_
        refine w_calli (as := [(2, ((p : Nat) : Int)), (0, x3), (0, x4)]) [] 76 rfl rfl rfl rfl (Nat.le_of_ble_eq_true rfl) (Nat.le_of_ble_eq_true rfl) (Nat.le_of_ble_eq_true rfl) (Or.inr (zrcv_o (zPln_t0 hp))) (Ci.imp h (fun r16 mem17 h => ?_))
        refine zW.go 1 77 [(2, 1), (0, x1), (2, ((p : Nat) : Int)), (0, x3), (0, x4), (0, s0)] [(0, (-1)), (0, r16)] _ rfl ?_
        refine w_ic_eq rfl (by decide) (pc' := 80) rfl ⟨h.1, by decide⟩ (fun c18 => ?_) (fun c18 => ?_)
        · have h := h.2.1 c18
          refine zW.go 1 85 [(2, 1), (0, x1), (2, ((p : Nat) : Int)), (0, x3), (0, x4), (0, s0)] [(0, 0)] _ rfl ?_
          exact w_retz rfl rfl (by decide) h
        · have h := h.2.2 c18
          refine zW.go 2 85 [(2, 1), (0, x1), (2, ((p : Nat) : Int)), (0, x3), (0, x4), (0, s0)] [(0, 1)] _ rfl ?_
          exact w_retz rfl rfl (by decide) h
set_option maxRecDepth 4000 in
theorem s_seer_canBeFelt {X : zX} {d : Nat} {rf mem : zF} {Q : Int → zF → Prop} (hR : zall rf zRK = true) {p : Nat} (hp : zPln rf p) {x1 : Int} (h : Ci X d 125 [(2, 1), (0, (x1 + 2))] rf mem (fun r1 mem2 => Ci X d 125 [(2, 1), (0, (x1 + 3))] rf mem2 (fun r3 mem4 => (inI r1) ∧ ((¬ r1 = 255 → L_seer_canBeFelt_37 X d rf Q mem4 p x1 r1 r3 0) ∧ (r1 = 255 → (inI r3) ∧ ((¬ r3 = 255 → L_seer_canBeFelt_37 X d rf Q mem4 p x1 r1 r3 0) ∧ (r3 = 255 → L_seer_canBeFelt_37 X d rf Q mem4 p x1 r1 r3 1))))))) : Ci X (d + 1) 114 [(2, 1), (0, x1), (2, ((p : Nat) : Int))] rf mem Q := by
  show zW X (d + 1) 114 0 [(2, 1), (0, x1), (2, ((p : Nat) : Int)), (9, 0), (9, 0), (9, 0)] [] (zty, rf, mem) (qi rf Q)
  refine zW.go 4 4 [(2, 1), (0, x1), (2, ((p : Nat) : Int)), (9, 0), (9, 0), (9, 0)] [(0, (x1 + 2)), (2, 1)] _ rfl ?_
  refine w_calli (as := [(2, 1), (0, (x1 + 2))]) [] 7 rfl rfl rfl rfl (Nat.le_of_ble_eq_true rfl) (Nat.le_of_ble_eq_true rfl) (Nat.le_of_ble_eq_true rfl) (Or.inr rfl) (Ci.imp h (fun r1 mem2 h => ?_))
  refine zW.go 5 12 [(2, 1), (0, x1), (2, ((p : Nat) : Int)), (0, r1), (9, 0), (9, 0)] [(0, (x1 + 3)), (2, 1)] _ rfl ?_
  refine w_calli (as := [(2, 1), (0, (x1 + 3))]) [] 15 rfl rfl rfl rfl (Nat.le_of_ble_eq_true rfl) (Nat.le_of_ble_eq_true rfl) (Nat.le_of_ble_eq_true rfl) (Or.inr rfl) (Ci.imp h (fun r3 mem4 h => ?_))
  refine zW.go 3 21 [(2, 1), (0, x1), (2, ((p : Nat) : Int)), (0, r1), (0, r3), (9, 0)] [(0, 255), (0, r1)] _ rfl ?_
  refine w_ic_ne rfl (by decide) (pc' := 24) rfl ⟨h.1, by decide⟩ (fun c5 => ?_) (fun c5 => ?_)
  · have h := h.2.1 c5
    refine zW.go 1 37 [(2, 1), (0, x1), (2, ((p : Nat) : Int)), (0, r1), (0, r3), (9, 0)] [(0, 0)] _ rfl ?_
    exact h (9, 0)
  · have h := h.2.2 c5
    refine zW.go 2 29 [(2, 1), (0, x1), (2, ((p : Nat) : Int)), (0, r1), (0, r3), (9, 0)] [(0, 255), (0, r3)] _ rfl ?_
    refine w_ic_ne rfl (by decide) (pc' := 32) rfl ⟨h.1, by decide⟩ (fun c6 => ?_) (fun c6 => ?_)
    · have h := h.2.1 c6
      refine zW.go 1 37 [(2, 1), (0, x1), (2, ((p : Nat) : Int)), (0, r1), (0, r3), (9, 0)] [(0, 0)] _ rfl ?_
      exact h (9, 0)
    · have h := h.2.2 c6
      refine zW.go 2 37 [(2, 1), (0, x1), (2, ((p : Nat) : Int)), (0, r1), (0, r3), (9, 0)] [(0, 1)] _ rfl ?_
      exact h (9, 0)
def L_seer_findFrom_20 (X : zX) (d : Nat) (rf : zF) (Q : zF → Prop) (mem : zF) (p : Nat) (o : Nat) (x3 : Int) (x4 : Int) (x5 : Int) : Prop := ∀ z6 : zV, zW X (d + 1) 115 20 [(2, 35), (2, ((p : Nat) : Int)), (2, ((o : Nat) : Int)), (0, x3), (0, x4), (0, x5), z6] [] (zty, rf, mem) (qv rf Q)
def L_seer_findFrom_55 (X : zX) (d : Nat) (rf : zF) (Q : zF → Prop) (mem : zF) (p : Nat) (o : Nat) (x3 : Int) (x4 : Int) (x5 : Int) (s0 : Int) : Prop := ∀ z6 : zV, zW X (d + 1) 115 55 [(2, 35), (2, ((p : Nat) : Int)), (2, ((o : Nat) : Int)), (0, x3), (0, x4), (0, x5), z6] [(0, s0)] (zty, rf, mem) (qv rf Q)
set_option maxRecDepth 4000 in
theorem s_seer_findFrom_20 {X : zX} {d : Nat} {rf mem : zF} {Q : zF → Prop} (hR : zall rf zRK = true) {p : Nat} (hp : zPln rf p) {o : Nat} (ho : zScn rf o) {x3 : Int} {x4 : Int} {x5 : Int} (h : (inI x5) ∧ ((64 ≤ x5 → Q mem) ∧ (¬ 64 ≤ x5 → Ci X d 70 [(2, ((p : Nat) : Int)), (0, x5)] rf mem (fun r5 mem6 => (inI r5) ∧ ((r5 = 0 → L_seer_findFrom_55 X d rf Q mem6 p o x3 x4 x5 0) ∧ (¬ r5 = 0 → Ci X d 118 [(2, 35), (2, ((p : Nat) : Int)), (2, ((o : Nat) : Int)), (0, x3), (0, x5), (0, x4)] rf mem6 (fun r8 mem9 => (inI r8) ∧ ((r8 = 0 → L_seer_findFrom_55 X d rf Q mem9 p o x3 x4 x5 0) ∧ (¬ r8 = 0 → L_seer_findFrom_55 X d rf Q mem9 p o x3 x4 x5 1))))))))) : L_seer_findFrom_20 X d rf Q mem p o x3 x4 x5 := by
  intro z6
  refine zW.go 2 24 [(2, 35), (2, ((p : Nat) : Int)), (2, ((o : Nat) : Int)), (0, x3), (0, x4), (0, x5), z6] [(0, 64), (0, x5)] _ rfl ?_
  refine w_ic_ge rfl (by decide) (pc' := 27) rfl ⟨h.1, by decide⟩ (fun c4 => ?_) (fun c4 => ?_)
  · have h := h.2.1 c4
    exact w_retv rfl rfl h
  · have h := h.2.2 c4
    refine zW.go 2 30 [(2, 35), (2, ((p : Nat) : Int)), (2, ((o : Nat) : Int)), (0, x3), (0, x4), (0, x5), z6] [(0, x5), (2, ((p : Nat) : Int))] _ rfl ?_
    refine w_calli (as := [(2, ((p : Nat) : Int)), (0, x5)]) [] 33 rfl rfl rfl rfl (Nat.le_of_ble_eq_true rfl) (Nat.le_of_ble_eq_true rfl) (Nat.le_of_ble_eq_true rfl) (Or.inr (zrcv_o (zPln_t0 hp))) (Ci.imp h (fun r5 mem6 h => ?_))
    refine w_if_eq rfl (by decide) (pc' := 36) rfl h.1 (fun c7 => ?_) (fun c7 => ?_)
    · have h := h.2.1 c7
      refine zW.go 1 55 [(2, 35), (2, ((p : Nat) : Int)), (2, ((o : Nat) : Int)), (0, x3), (0, x4), (0, x5), z6] [(0, 0)] _ rfl ?_
      exact h z6
    · have h := h.2.2 c7
      refine zW.go 6 44 [(2, 35), (2, ((p : Nat) : Int)), (2, ((o : Nat) : Int)), (0, x3), (0, x4), (0, x5), z6] [(0, x4), (0, x5), (0, x3), (2, ((o : Nat) : Int)), (2, ((p : Nat) : Int)), (2, 35)] _ rfl ?_
      refine w_calli (as := [(2, 35), (2, ((p : Nat) : Int)), (2, ((o : Nat) : Int)), (0, x3), (0, x5), (0, x4)]) [] 47 rfl rfl rfl rfl (Nat.le_of_ble_eq_true rfl) (Nat.le_of_ble_eq_true rfl) (Nat.le_of_ble_eq_true rfl) (Or.inr rfl) (Ci.imp h (fun r8 mem9 h => ?_))
      refine w_if_eq rfl (by decide) (pc' := 50) rfl h.1 (fun c10 => ?_) (fun c10 => ?_)
      · have h := h.2.1 c10
        refine zW.go 1 55 [(2, 35), (2, ((p : Nat) : Int)), (2, ((o : Nat) : Int)), (0, x3), (0, x4), (0, x5), z6] [(0, 0)] _ rfl ?_
        exact h z6
      · have h := h.2.2 c10
        refine zW.go 2 55 [(2, 35), (2, ((p : Nat) : Int)), (2, ((o : Nat) : Int)), (0, x3), (0, x4), (0, x5), z6] [(0, 1)] _ rfl ?_
        exact h z6
set_option maxRecDepth 4000 in
theorem s_seer_findFrom_55 {X : zX} {d : Nat} {rf mem : zF} {Q : zF → Prop} (hR : zall rf zRK = true) {p : Nat} (hp : zPln rf p) {o : Nat} (ho : zScn rf o) {x3 : Int} {x4 : Int} {x5 : Int} {s0 : Int} (h : (inI s0) ∧ ((s0 = 0 → L_seer_findFrom_20 X d rf Q mem p o x3 x4 (x5 + 1)) ∧ (¬ s0 = 0 → (inI (mem 35 6)) ∧ ((64 ≤ (mem 35 6) → L_seer_findFrom_20 X d rf Q mem p o x3 x4 (x5 + 1)) ∧ (¬ 64 ≤ (mem 35 6) → (0 ≤ (mem 35 6) ∧ (mem 35 6) < 64) ∧ (L_seer_findFrom_20 X d rf Q (zup (zup mem 51 ((mem 35 6)).toNat x5) 35 6 ((mem 35 6) + 1)) p o x3 x4 (x5 + 1))))))) : L_seer_findFrom_55 X d rf Q mem p o x3 x4 x5 s0 := by
  intro z6
  refine zW.go 2 59 [(2, 35), (2, ((p : Nat) : Int)), (2, ((o : Nat) : Int)), (0, x3), (0, x4), (0, x5), (0, s0)] [(0, s0)] _ rfl ?_
  refine w_if_eq rfl (by decide) (pc' := 62) rfl h.1 (fun c11 => ?_) (fun c11 => ?_)
  · have h := h.2.1 c11
    refine zW.go 2 20 [(2, 35), (2, ((p : Nat) : Int)), (2, ((o : Nat) : Int)), (0, x3), (0, x4), (0, (x5 + 1)), (0, s0)] [] _ rfl ?_
    exact h (0, s0)
  · have h := h.2.2 c11
    refine zW.go 1 63 [(2, 35), (2, ((p : Nat) : Int)), (2, ((o : Nat) : Int)), (0, x3), (0, x4), (0, x5), (0, s0)] [(2, 35)] _ rfl ?_
    refine w_getI (q := 35) rfl (by decide) (pc' := 66) rfl ⟨by decide, rfl⟩ rfl (by decide) ?_
    refine zW.go 1 67 [(2, 35), (2, ((p : Nat) : Int)), (2, ((o : Nat) : Int)), (0, x3), (0, x4), (0, x5), (0, s0)] [(2, 35), (0, (mem 35 6))] _ rfl ?_
    refine w_getL (q := 35) (v := 51) rfl (by decide) (pc' := 70) rfl ⟨by decide, rfl⟩ rfl rfl (zall_at hR (by decide)) ?_
    refine w_alen (q := 51) rfl (by decide) (pc' := 71) rfl ⟨by decide, rfl⟩ rfl (by decide) ?_
    refine w_ic_ge rfl (by decide) (pc' := 74) rfl ⟨h.1, by decide⟩ (fun c12 => ?_) (fun c12 => ?_)
    · have h := h.2.1 c12
      refine zW.go 2 20 [(2, 35), (2, ((p : Nat) : Int)), (2, ((o : Nat) : Int)), (0, x3), (0, x4), (0, (x5 + 1)), (0, s0)] [] _ rfl ?_
      exact h (0, s0)
    · have h := h.2.2 c12
      refine zW.go 1 75 [(2, 35), (2, ((p : Nat) : Int)), (2, ((o : Nat) : Int)), (0, x3), (0, x4), (0, x5), (0, s0)] [(2, 35)] _ rfl ?_
      refine w_getL (q := 35) (v := 51) rfl (by decide) (pc' := 78) rfl ⟨by decide, rfl⟩ rfl rfl (zall_at hR (by decide)) ?_
      refine zW.go 1 79 [(2, 35), (2, ((p : Nat) : Int)), (2, ((o : Nat) : Int)), (0, x3), (0, x4), (0, x5), (0, s0)] [(2, 35), (2, 51)] _ rfl ?_
      refine w_getI (q := 35) rfl (by decide) (pc' := 82) rfl ⟨by decide, rfl⟩ rfl (by decide) ?_
      refine zW.go 1 84 [(2, 35), (2, ((p : Nat) : Int)), (2, ((o : Nat) : Int)), (0, x3), (0, x4), (0, x5), (0, s0)] [(0, x5), (0, (mem 35 6)), (2, 51)] _ rfl ?_
      obtain ⟨g, h⟩ := h
      refine w_iast (q := 51) rfl (by decide) (pc' := 85) rfl ⟨by decide, rfl⟩ rfl g rfl ?_
      refine zW.go 2 87 [(2, 35), (2, ((p : Nat) : Int)), (2, ((o : Nat) : Int)), (0, x3), (0, x4), (0, x5), (0, s0)] [(2, 35), (2, 35)] _ rfl ?_
      refine w_getI (q := 35) rfl (by decide) (pc' := 90) rfl ⟨by decide, rfl⟩ rfl (by decide) ?_
      refine zW.go 2 92 [(2, 35), (2, ((p : Nat) : Int)), (2, ((o : Nat) : Int)), (0, x3), (0, x4), (0, x5), (0, s0)] [(0, ((mem 35 6) + 1)), (2, 35)] _ rfl ?_
      refine w_putI (q := 35) rfl (by decide) (pc' := 95) rfl ⟨by decide, rfl⟩ rfl (by decide) ?_
      refine zW.go 2 20 [(2, 35), (2, ((p : Nat) : Int)), (2, ((o : Nat) : Int)), (0, x3), (0, x4), (0, (x5 + 1)), (0, s0)] [] _ rfl ?_
      exact h (0, s0)
set_option maxRecDepth 4000 in
theorem s_seer_findFrom {X : zX} {d : Nat} {rf mem : zF} {Q : zF → Prop} (hR : zall rf zRK = true) {p : Nat} (hp : zPln rf p) {o : Nat} (ho : zScn rf o) {x3 : Int} (h : Ci X d 117 [(2, 35)] rf mem (fun r1 mem2 => Cv X d 100 [(2, 35), (2, ((p : Nat) : Int)), (2, ((o : Nat) : Int))] rf (zup mem2 35 6 0) (fun mem3 => L_seer_findFrom_20 X d rf Q mem3 p o x3 r1 0))) : Cv X (d + 1) 115 [(2, 35), (2, ((p : Nat) : Int)), (2, ((o : Nat) : Int)), (0, x3)] rf mem Q := by
  show zW X (d + 1) 115 0 [(2, 35), (2, ((p : Nat) : Int)), (2, ((o : Nat) : Int)), (0, x3), (9, 0), (9, 0), (9, 0)] [] (zty, rf, mem) (qv rf Q)
  refine zW.go 1 1 [(2, 35), (2, ((p : Nat) : Int)), (2, ((o : Nat) : Int)), (0, x3), (9, 0), (9, 0), (9, 0)] [(2, 35)] _ rfl ?_
  refine w_calli (as := [(2, 35)]) [] 4 rfl rfl rfl rfl (Nat.le_of_ble_eq_true rfl) (Nat.le_of_ble_eq_true rfl) (Nat.le_of_ble_eq_true rfl) (Or.inr rfl) (Ci.imp h (fun r1 mem2 h => ?_))
  refine zW.go 3 8 [(2, 35), (2, ((p : Nat) : Int)), (2, ((o : Nat) : Int)), (0, x3), (0, r1), (9, 0), (9, 0)] [(0, 0), (2, 35)] _ rfl ?_
  refine w_putI (q := 35) rfl (by decide) (pc' := 11) rfl ⟨by decide, rfl⟩ rfl (by decide) ?_
  refine zW.go 3 14 [(2, 35), (2, ((p : Nat) : Int)), (2, ((o : Nat) : Int)), (0, x3), (0, r1), (9, 0), (9, 0)] [(2, ((o : Nat) : Int)), (2, ((p : Nat) : Int)), (2, 35)] _ rfl ?_
  refine w_callv (as := [(2, 35), (2, ((p : Nat) : Int)), (2, ((o : Nat) : Int))]) [] 17 rfl rfl rfl rfl (Nat.le_of_ble_eq_true rfl) (Nat.le_of_ble_eq_true rfl) (Nat.le_of_ble_eq_true rfl) (Or.inr rfl) (Cv.imp h (fun mem3 h => ?_))
  refine zW.go 2 20 [(2, 35), (2, ((p : Nat) : Int)), (2, ((o : Nat) : Int)), (0, x3), (0, r1), (0, 0), (9, 0)] [] _ rfl ?_
  exact h (9, 0)
set_option maxRecDepth 4000 in
theorem s_seer_fromAt {X : zX} {d : Nat} {rf mem : zF} {Q : Int → zF → Prop} (hR : zall rf zRK = true) {x1 : Int} (h : (inI x1) ∧ ((x1 < 0 → Q (-1) mem) ∧ (¬ x1 < 0 → (inI x1 ∧ inI (mem 35 6)) ∧ (((mem 35 6) ≤ x1 → Q (-1) mem) ∧ (¬ (mem 35 6) ≤ x1 → (inI x1) ∧ ((64 ≤ x1 → Q (-1) mem) ∧ (¬ 64 ≤ x1 → (0 ≤ x1 ∧ x1 < 64) ∧ (Q (mem 51 (x1).toNat) mem)))))))) : Ci X d 116 [(2, 35), (0, x1)] rf mem Q := by
  show zW X d 116 0 [(2, 35), (0, x1)] [] (zty, rf, mem) (qi rf Q)
  refine zW.go 1 1 [(2, 35), (0, x1)] [(0, x1)] _ rfl ?_
  refine w_if_lt rfl (by decide) (pc' := 4) rfl h.1 (fun c1 => ?_) (fun c1 => ?_)
  · have h := h.2.1 c1
    refine zW.go 1 31 [(2, 35), (0, x1)] [(0, (-1))] _ rfl ?_
    exact w_reti rfl rfl h
  · have h := h.2.2 c1
    refine zW.go 2 6 [(2, 35), (0, x1)] [(2, 35), (0, x1)] _ rfl ?_
    refine w_getI (q := 35) rfl (by decide) (pc' := 9) rfl ⟨by decide, rfl⟩ rfl (by decide) ?_
    refine w_ic_ge rfl (by decide) (pc' := 12) rfl h.1 (fun c2 => ?_) (fun c2 => ?_)
    · have h := h.2.1 c2
      refine zW.go 1 31 [(2, 35), (0, x1)] [(0, (-1))] _ rfl ?_
      exact w_reti rfl rfl h
    · have h := h.2.2 c2
      refine zW.go 2 14 [(2, 35), (0, x1)] [(2, 35), (0, x1)] _ rfl ?_
      refine w_getL (q := 35) (v := 51) rfl (by decide) (pc' := 17) rfl ⟨by decide, rfl⟩ rfl rfl (zall_at hR (by decide)) ?_
      refine w_alen (q := 51) rfl (by decide) (pc' := 18) rfl ⟨by decide, rfl⟩ rfl (by decide) ?_
      refine w_ic_ge rfl (by decide) (pc' := 21) rfl ⟨h.1, by decide⟩ (fun c3 => ?_) (fun c3 => ?_)
      · have h := h.2.1 c3
        refine zW.go 1 31 [(2, 35), (0, x1)] [(0, (-1))] _ rfl ?_
        exact w_reti rfl rfl h
      · have h := h.2.2 c3
        refine zW.go 1 22 [(2, 35), (0, x1)] [(2, 35)] _ rfl ?_
        refine w_getL (q := 35) (v := 51) rfl (by decide) (pc' := 25) rfl ⟨by decide, rfl⟩ rfl rfl (zall_at hR (by decide)) ?_
        refine zW.go 1 26 [(2, 35), (0, x1)] [(0, x1), (2, 51)] _ rfl ?_
        obtain ⟨g, h⟩ := h
        refine w_iald (q := 51) rfl (by decide) (pc' := 27) rfl ⟨by decide, rfl⟩ rfl g rfl ?_
        refine zW.go 1 31 [(2, 35), (0, x1)] [(0, (mem 51 (x1).toNat))] _ rfl ?_
        exact w_reti rfl rfl h
def L_seer_lastFelt_4 (X : zX) (d : Nat) (rf : zF) (Q : Int → zF → Prop) (mem : zF) (x1 : Int) (x2 : Int) : Prop := zW X (d + 1) 117 4 [(2, 35), (0, x1), (0, x2)] [] (zty, rf, mem) (qi rf Q)
set_option maxRecDepth 4000 in
theorem s_seer_lastFelt_4 {X : zX} {d : Nat} {rf mem : zF} {Q : Int → zF → Prop} (hR : zall rf zRK = true) {x1 : Int} {x2 : Int} (h : (inI x2 ∧ inI (mem 35 7)) ∧ (((mem 35 7) ≤ x2 → Q x1 mem) ∧ (¬ (mem 35 7) ≤ x2 → (inI x2) ∧ ((16 ≤ x2 → Q x1 mem) ∧ (¬ 16 ≤ x2 → (0 ≤ (4 * x2) ∧ (4 * x2) < 64) ∧ (Ci X d 320 [(0, x1), (0, (mem 48 ((4 * x2)).toNat))] rf mem (fun r3 mem4 => L_seer_lastFelt_4 X d rf Q mem4 r3 (x2 + 1)))))))) : L_seer_lastFelt_4 X d rf Q mem x1 x2 := by
  refine zW.go 2 6 [(2, 35), (0, x1), (0, x2)] [(2, 35), (0, x2)] _ rfl ?_
  refine w_getI (q := 35) rfl (by decide) (pc' := 9) rfl ⟨by decide, rfl⟩ rfl (by decide) ?_
  refine w_ic_ge rfl (by decide) (pc' := 12) rfl h.1 (fun c1 => ?_) (fun c1 => ?_)
  · have h := h.2.1 c1
    refine zW.go 1 38 [(2, 35), (0, x1), (0, x2)] [(0, x1)] _ rfl ?_
    exact w_reti rfl rfl h
  · have h := h.2.2 c1
    refine zW.go 2 15 [(2, 35), (0, x1), (0, x2)] [(0, 16), (0, x2)] _ rfl ?_
    refine w_ic_ge rfl (by decide) (pc' := 18) rfl ⟨h.1, by decide⟩ (fun c2 => ?_) (fun c2 => ?_)
    · have h := h.2.1 c2
      refine zW.go 1 38 [(2, 35), (0, x1), (0, x2)] [(0, x1)] _ rfl ?_
      exact w_reti rfl rfl h
    · have h := h.2.2 c2
      refine zW.go 2 20 [(2, 35), (0, x1), (0, x2)] [(2, 35), (0, x1)] _ rfl ?_
      refine w_getL (q := 35) (v := 48) rfl (by decide) (pc' := 23) rfl ⟨by decide, rfl⟩ rfl rfl (zall_at hR (by decide)) ?_
      refine zW.go 3 26 [(2, 35), (0, x1), (0, x2)] [(0, (4 * x2)), (2, 48), (0, x1)] _ rfl ?_
      obtain ⟨g, h⟩ := h
      refine w_iald (q := 48) rfl (by decide) (pc' := 27) rfl ⟨by decide, rfl⟩ rfl g rfl ?_
      refine w_calli (as := [(0, x1), (0, (mem 48 ((4 * x2)).toNat))]) [] 30 rfl rfl rfl rfl (Nat.le_of_ble_eq_true rfl) (Nat.le_of_ble_eq_true rfl) (Nat.le_of_ble_eq_true rfl) (Or.inl rfl) (Ci.imp h (fun r3 mem4 h => ?_))
      refine zW.go 3 4 [(2, 35), (0, r3), (0, (x2 + 1))] [] _ rfl ?_
      exact h
set_option maxRecDepth 4000 in
theorem s_seer_lastFelt {X : zX} {d : Nat} {rf mem : zF} {Q : Int → zF → Prop} (hR : zall rf zRK = true) (h : L_seer_lastFelt_4 X d rf Q mem 0 0) : Ci X (d + 1) 117 [(2, 35)] rf mem Q := by
  show zW X (d + 1) 117 0 [(2, 35), (9, 0), (9, 0)] [] (zty, rf, mem) (qi rf Q)
  refine zW.go 4 4 [(2, 35), (0, 0), (0, 0)] [] _ rfl ?_
  exact h
def L_seer_follow_52 (X : zX) (d : Nat) (rf : zF) (Q : Int → zF → Prop) (mem : zF) (p : Nat) (o : Nat) (x3 : Int) (x5 : Int) (x6 : Int) (x7 : Int) : Prop := ∀ z2 : zV, ∀ z4 : zV, ∀ z8 : zV, zW X (d + 1) 118 52 [(2, 35), (2, ((p : Nat) : Int)), z2, (0, x3), z4, (0, x5), (0, x6), (0, x7), z8] [] (zty, rf, mem) (qi rf Q)
def L_seer_follow_94 (X : zX) (d : Nat) (rf : zF) (Q : Int → zF → Prop) (mem : zF) (p : Nat) (o : Nat) (x3 : Int) (x5 : Int) (x6 : Int) (x7 : Int) (s0 : Int) : Prop := ∀ z2 : zV, ∀ z4 : zV, ∀ z8 : zV, zW X (d + 1) 118 94 [(2, 35), (2, ((p : Nat) : Int)), z2, (0, x3), z4, (0, x5), (0, x6), (0, x7), z8] [(0, s0)] (zty, rf, mem) (qi rf Q)
def L_seer_follow_120 (X : zX) (d : Nat) (rf : zF) (Q : Int → zF → Prop) (mem : zF) (p : Nat) (o : Nat) (x3 : Int) (x5 : Int) (x6 : Int) (x7 : Int) : Prop := ∀ z2 : zV, ∀ z4 : zV, ∀ z8 : zV, zW X (d + 1) 118 120 [(2, 35), (2, ((p : Nat) : Int)), z2, (0, x3), z4, (0, x5), (0, x6), (0, x7), z8] [] (zty, rf, mem) (qi rf Q)
set_option maxRecDepth 4000 in
theorem s_seer_follow_52 {X : zX} {d : Nat} {rf mem : zF} {Q : Int → zF → Prop} (hR : zall rf zRK = true) {p : Nat} (hp : zPln rf p) {o : Nat} (ho : zScn rf o) {x3 : Int} {x5 : Int} {x6 : Int} {x7 : Int} (h : (inI x7 ∧ inI x5) ∧ ((x5 < x7 → Q 1 mem) ∧ (¬ x5 < x7 → (inI x7) ∧ ((31 ≤ x7 → Q 1 mem) ∧ (¬ 31 ≤ x7 → (inI x7 ∧ inI x6) ∧ ((x7 ≤ x6 → L_seer_follow_94 X d rf Q mem p o x3 x5 x6 x7 0) ∧ (¬ x7 ≤ x6 → (0 ≤ x3 ∧ x3 < 6) ∧ ((inI (mem 41 (x3).toNat)) ∧ ((¬ (mem 41 (x3).toNat) = (-1) → L_seer_follow_94 X d rf Q mem p o x3 x5 x6 x7 0) ∧ ((mem 41 (x3).toNat) = (-1) → L_seer_follow_94 X d rf Q mem p o x3 x5 x6 x7 1)))))))))) : L_seer_follow_52 X d rf Q mem p o x3 x5 x6 x7 := by
  intro z2 z4 z8
  refine zW.go 2 56 [(2, 35), (2, ((p : Nat) : Int)), z2, (0, x3), z4, (0, x5), (0, x6), (0, x7), z8] [(0, x5), (0, x7)] _ rfl ?_
  refine w_ic_gt rfl (by decide) (pc' := 59) rfl h.1 (fun c8 => ?_) (fun c8 => ?_)
  · have h := h.2.1 c8
    refine zW.go 1 155 [(2, 35), (2, ((p : Nat) : Int)), z2, (0, x3), z4, (0, x5), (0, x6), (0, x7), z8] [(0, 1)] _ rfl ?_
    exact w_retz rfl rfl (by decide) h
  · have h := h.2.2 c8
    refine zW.go 2 62 [(2, 35), (2, ((p : Nat) : Int)), z2, (0, x3), z4, (0, x5), (0, x6), (0, x7), z8] [(2, 35), (0, x7)] _ rfl ?_
    refine w_getL (q := 35) (v := 49) rfl (by decide) (pc' := 65) rfl ⟨by decide, rfl⟩ rfl rfl (zall_at hR (by decide)) ?_
    refine w_alen (q := 49) rfl (by decide) (pc' := 66) rfl ⟨by decide, rfl⟩ rfl (by decide) ?_
    refine w_ic_ge rfl (by decide) (pc' := 69) rfl ⟨h.1, by decide⟩ (fun c9 => ?_) (fun c9 => ?_)
    · have h := h.2.1 c9
      refine zW.go 1 155 [(2, 35), (2, ((p : Nat) : Int)), z2, (0, x3), z4, (0, x5), (0, x6), (0, x7), z8] [(0, 1)] _ rfl ?_
      exact w_retz rfl rfl (by decide) h
    · have h := h.2.2 c9
      refine zW.go 2 73 [(2, 35), (2, ((p : Nat) : Int)), z2, (0, x3), z4, (0, x5), (0, x6), (0, x7), z8] [(0, x6), (0, x7)] _ rfl ?_
      refine w_ic_le rfl (by decide) (pc' := 76) rfl h.1 (fun c10 => ?_) (fun c10 => ?_)
      · have h := h.2.1 c10
        refine zW.go 1 94 [(2, 35), (2, ((p : Nat) : Int)), z2, (0, x3), z4, (0, x5), (0, x6), (0, x7), z8] [(0, 0)] _ rfl ?_
        exact h z2 z4 z8
      · have h := h.2.2 c10
        refine zW.go 1 77 [(2, 35), (2, ((p : Nat) : Int)), z2, (0, x3), z4, (0, x5), (0, x6), (0, x7), z8] [(2, 35)] _ rfl ?_
        refine w_getL (q := 35) (v := 39) rfl (by decide) (pc' := 80) rfl ⟨by decide, rfl⟩ rfl rfl (zall_at hR (by decide)) ?_
        refine w_getL (q := 39) (v := 41) rfl (by decide) (pc' := 83) rfl ⟨by decide, rfl⟩ rfl rfl (zall_at hR (by decide)) ?_
        refine zW.go 1 84 [(2, 35), (2, ((p : Nat) : Int)), z2, (0, x3), z4, (0, x5), (0, x6), (0, x7), z8] [(0, x3), (2, 41)] _ rfl ?_
        obtain ⟨g, h⟩ := h
        refine w_iald (q := 41) rfl (by decide) (pc' := 85) rfl ⟨by decide, rfl⟩ rfl g rfl ?_
        refine zW.go 1 86 [(2, 35), (2, ((p : Nat) : Int)), z2, (0, x3), z4, (0, x5), (0, x6), (0, x7), z8] [(0, (-1)), (0, (mem 41 (x3).toNat))] _ rfl ?_
        refine w_ic_ne rfl (by decide) (pc' := 89) rfl ⟨h.1, by decide⟩ (fun c11 => ?_) (fun c11 => ?_)
        · have h := h.2.1 c11
          refine zW.go 1 94 [(2, 35), (2, ((p : Nat) : Int)), z2, (0, x3), z4, (0, x5), (0, x6), (0, x7), z8] [(0, 0)] _ rfl ?_
          exact h z2 z4 z8
        · have h := h.2.2 c11
          refine zW.go 2 94 [(2, 35), (2, ((p : Nat) : Int)), z2, (0, x3), z4, (0, x5), (0, x6), (0, x7), z8] [(0, 1)] _ rfl ?_
          exact h z2 z4 z8
set_option maxRecDepth 4000 in
theorem s_seer_follow_94 {X : zX} {d : Nat} {rf mem : zF} {Q : Int → zF → Prop} (hR : zall rf zRK = true) {p : Nat} (hp : zPln rf p) {o : Nat} (ho : zScn rf o) {x3 : Int} {x5 : Int} {x6 : Int} {x7 : Int} {s0 : Int} (h : (inI x7) ∧ ((x7 ≤ 0 → L_seer_follow_120 X d rf Q mem p o x3 x5 x6 x7) ∧ (¬ x7 ≤ 0 → (inI s0) ∧ ((¬ s0 = 0 → L_seer_follow_120 X d rf Q mem p o x3 x5 x6 x7) ∧ (s0 = 0 → Ci X d 144 [(2, 36), (2, ((p : Nat) : Int)), (2, 39), (0, (-1))] rf mem (fun r14 mem15 => L_seer_follow_120 X d rf Q mem15 p o x3 x5 x6 x7)))))) : L_seer_follow_94 X d rf Q mem p o x3 x5 x6 x7 s0 := by
  intro z2 z4 z8
  refine zW.go 2 98 [(2, 35), (2, ((p : Nat) : Int)), z2, (0, x3), z4, (0, x5), (0, x6), (0, x7), (0, s0)] [(0, x7)] _ rfl ?_
  refine w_if_le rfl (by decide) (pc' := 101) rfl h.1 (fun c12 => ?_) (fun c12 => ?_)
  · have h := h.2.1 c12
    exact h z2 z4 (0, s0)
  · have h := h.2.2 c12
    refine zW.go 1 103 [(2, 35), (2, ((p : Nat) : Int)), z2, (0, x3), z4, (0, x5), (0, x6), (0, x7), (0, s0)] [(0, s0)] _ rfl ?_
    refine w_if_ne rfl (by decide) (pc' := 106) rfl h.1 (fun c13 => ?_) (fun c13 => ?_)
    · have h := h.2.1 c13
      exact h z2 z4 (0, s0)
    · have h := h.2.2 c13
      refine zW.go 1 107 [(2, 35), (2, ((p : Nat) : Int)), z2, (0, x3), z4, (0, x5), (0, x6), (0, x7), (0, s0)] [(2, 35)] _ rfl ?_
      refine w_getL (q := 35) (v := 36) rfl (by decide) (pc' := 110) rfl ⟨by decide, rfl⟩ rfl rfl (zall_at hR (by decide)) ?_
      refine zW.go 2 112 [(2, 35), (2, ((p : Nat) : Int)), z2, (0, x3), z4, (0, x5), (0, x6), (0, x7), (0, s0)] [(2, 35), (2, ((p : Nat) : Int)), (2, 36)] _ rfl ?_
      refine w_getL (q := 35) (v := 39) rfl (by decide) (pc' := 115) rfl ⟨by decide, rfl⟩ rfl rfl (zall_at hR (by decide)) ?_
      refine zW.go 1 116 [(2, 35), (2, ((p : Nat) : Int)), z2, (0, x3), z4, (0, x5), (0, x6), (0, x7), (0, s0)] [(0, (-1)), (2, 39), (2, ((p : Nat) : Int)), (2, 36)] _ rfl ?_
      refine w_calli (as := [(2, 36), (2, ((p : Nat) : Int)), (2, 39), (0, (-1))]) [] 119 rfl rfl rfl rfl (Nat.le_of_ble_eq_true rfl) (Nat.le_of_ble_eq_true rfl) (Nat.le_of_ble_eq_true rfl) (Or.inr rfl) (Ci.imp h (fun r14 mem15 h => ?_))
      refine zW.go 1 120 [(2, 35), (2, ((p : Nat) : Int)), z2, (0, x3), z4, (0, x5), (0, x6), (0, x7), (0, s0)] [] _ rfl ?_
      exact h z2 z4 (0, s0)
set_option maxRecDepth 4000 in
theorem s_seer_follow_120 {X : zX} {d : Nat} {rf mem : zF} {Q : Int → zF → Prop} (hR : zall rf zRK = true) {p : Nat} (hp : zPln rf p) {o : Nat} (ho : zScn rf o) {x3 : Int} {x5 : Int} {x6 : Int} {x7 : Int} (h : Ci X d 119 [(2, 35), (2, ((p : Nat) : Int)), (0, x7)] rf mem (fun r16 mem17 => (inI r16) ∧ ((¬ r16 = 0 → (0 ≤ x3 ∧ x3 < 6) ∧ ((0 ≤ x7 ∧ x7 < 31) ∧ (L_seer_follow_52 X d rf Q (zup mem17 49 (x7).toNat (mem17 41 (x3).toNat)) p o x3 x5 x6 (x7 + 1)))) ∧ (r16 = 0 → Q 0 mem17)))) : L_seer_follow_120 X d rf Q mem p o x3 x5 x6 x7 := by
  intro z2 z4 z8
  refine zW.go 3 124 [(2, 35), (2, ((p : Nat) : Int)), z2, (0, x3), z4, (0, x5), (0, x6), (0, x7), z8] [(0, x7), (2, ((p : Nat) : Int)), (2, 35)] _ rfl ?_
  refine w_calli (as := [(2, 35), (2, ((p : Nat) : Int)), (0, x7)]) [] 127 rfl rfl rfl rfl (Nat.le_of_ble_eq_true rfl) (Nat.le_of_ble_eq_true rfl) (Nat.le_of_ble_eq_true rfl) (Or.inr rfl) (Ci.imp h (fun r16 mem17 h => ?_))
  refine w_if_ne rfl (by decide) (pc' := 130) rfl h.1 (fun c18 => ?_) (fun c18 => ?_)
  · have h := h.2.1 c18
    refine zW.go 1 133 [(2, 35), (2, ((p : Nat) : Int)), z2, (0, x3), z4, (0, x5), (0, x6), (0, x7), z8] [(2, 35)] _ rfl ?_
    refine w_getL (q := 35) (v := 49) rfl (by decide) (pc' := 136) rfl ⟨by decide, rfl⟩ rfl rfl (zall_at hR (by decide)) ?_
    refine zW.go 2 139 [(2, 35), (2, ((p : Nat) : Int)), z2, (0, x3), z4, (0, x5), (0, x6), (0, x7), z8] [(2, 35), (0, x7), (2, 49)] _ rfl ?_
    refine w_getL (q := 35) (v := 39) rfl (by decide) (pc' := 142) rfl ⟨by decide, rfl⟩ rfl rfl (zall_at hR (by decide)) ?_
    refine w_getL (q := 39) (v := 41) rfl (by decide) (pc' := 145) rfl ⟨by decide, rfl⟩ rfl rfl (zall_at hR (by decide)) ?_
    refine zW.go 1 146 [(2, 35), (2, ((p : Nat) : Int)), z2, (0, x3), z4, (0, x5), (0, x6), (0, x7), z8] [(0, x3), (2, 41), (0, x7), (2, 49)] _ rfl ?_
    obtain ⟨g, h⟩ := h
    refine w_iald (q := 41) rfl (by decide) (pc' := 147) rfl ⟨by decide, rfl⟩ rfl g rfl ?_
    obtain ⟨g, h⟩ := h
    refine w_iast (q := 49) rfl (by decide) (pc' := 148) rfl ⟨by decide, rfl⟩ rfl g rfl ?_
    refine zW.go 2 52 [(2, 35), (2, ((p : Nat) : Int)), z2, (0, x3), z4, (0, x5), (0, x6), (0, (x7 + 1)), z8] [] _ rfl ?_
    exact h z2 z4 z8
  · have h := h.2.2 c18
    refine zW.go 1 131 [(2, 35), (2, ((p : Nat) : Int)), z2, (0, x3), z4, (0, x5), (0, x6), (0, x7), z8] [(0, 0)] _ rfl ?_
    exact w_retz rfl rfl (by decide) h
set_option maxRecDepth 4000 in
theorem s_seer_follow {X : zX} {d : Nat} {rf mem : zF} {Q : Int → zF → Prop} (hR : zall rf zRK = true) {p : Nat} (hp : zPln rf p) {o : Nat} (ho : zScn rf o) {x3 : Int} {x4 : Int} {x5 : Int} (h : Ci X d 117 [(2, 35)] rf mem (fun r1 mem2 => Ci X d 60 [(2, ((p : Nat) : Int)), (0, 2), (0, x3)] rf mem2 (fun r3 mem4 => (inI r3) ∧ ((r3 = 0 → Q 0 mem4) ∧ (¬ r3 = 0 → (inI ((mem4 o 0) + r1)) ∧ ((((mem4 o 0) + r1) ≤ 999 → Cv X d 86 [(2, 39), (2, ((o : Nat) : Int))] rf mem4 (fun mem7 => (0 ≤ x3 ∧ x3 < 6) ∧ (L_seer_follow_52 X d rf Q (zup mem7 41 (x3).toNat x4) p o x3 x5 r1 0))) ∧ (¬ ((mem4 o 0) + r1) ≤ 999 → Q 0 mem4))))))) : Ci X (d + 1) 118 [(2, 35), (2, ((p : Nat) : Int)), (2, ((o : Nat) : Int)), (0, x3), (0, x4), (0, x5)] rf mem Q := by
  show zW X (d + 1) 118 0 [(2, 35), (2, ((p : Nat) : Int)), (2, ((o : Nat) : Int)), (0, x3), (0, x4), (0, x5), (9, 0), (9, 0), (9, 0)] [] (zty, rf, mem) (qi rf Q)
  refine zW.go 1 1 [(2, 35), (2, ((p : Nat) : Int)), (2, ((o : Nat) : Int)), (0, x3), (0, x4), (0, x5), (9, 0), (9, 0), (9, 0)] [(2, 35)] _ rfl ?_
  refine w_calli (as := [(2, 35)]) [] 4 rfl rfl rfl rfl (Nat.le_of_ble_eq_true rfl) (Nat.le_of_ble_eq_true rfl) (Nat.le_of_ble_eq_true rfl) (Or.inr rfl) (Ci.imp h (fun r1 mem2 h => ?_))
  refine zW.go 4 9 [(2, 35), (2, ((p : Nat) : Int)), (2, ((o : Nat) : Int)), (0, x3), (0, x4), (0, x5), (0, r1), (9, 0), (9, 0)] [(0, x3), (0, 2), (2, ((p : Nat) : Int))] _ rfl ?_
  refine w_calli (as := [(2, ((p : Nat) : Int)), (0, 2), (0, x3)]) [] 12 rfl rfl rfl rfl (Nat.le_of_ble_eq_true rfl) (Nat.le_of_ble_eq_true rfl) (Nat.le_of_ble_eq_true rfl) (Or.inr (zrcv_o (zPln_t0 hp))) (Ci.imp h (fun r3 mem4 h => ?_))
  refine w_if_eq rfl (by decide) (pc' := 15) rfl h.1 (fun c5 => ?_) (fun c5 => ?_)
  · have h := h.2.1 c5
    refine zW.go 1 29 [(2, 35), (2, ((p : Nat) : Int)), (2, ((o : Nat) : Int)), (0, x3), (0, x4), (0, x5), (0, r1), (9, 0), (9, 0)] [(0, 0)] _ rfl ?_
    exact w_retz rfl rfl (by decide) h
  · have h := h.2.2 c5
    refine zW.go 1 16 [(2, 35), (2, ((p : Nat) : Int)), (2, ((o : Nat) : Int)), (0, x3), (0, x4), (0, x5), (0, r1), (9, 0), (9, 0)] [(2, ((o : Nat) : Int))] _ rfl ?_
    refine w_getI (q := o) rfl (by decide) (pc' := 19) rfl ⟨Int.natCast_nonneg _, rfl⟩ (zScn_t0 ho) (by decide) ?_
    refine zW.go 3 25 [(2, 35), (2, ((p : Nat) : Int)), (2, ((o : Nat) : Int)), (0, x3), (0, x4), (0, x5), (0, r1), (9, 0), (9, 0)] [(0, 999), (0, ((mem4 o 0) + r1))] _ rfl ?_
    refine w_ic_le rfl (by decide) (pc' := 28) rfl ⟨h.1, by decide⟩ (fun c6 => ?_) (fun c6 => ?_)
    · have h := h.2.1 c6
      refine zW.go 1 31 [(2, 35), (2, ((p : Nat) : Int)), (2, ((o : Nat) : Int)), (0, x3), (0, x4), (0, x5), (0, r1), (9, 0), (9, 0)] [(2, 35)] _ rfl ?_
      refine w_getL (q := 35) (v := 39) rfl (by decide) (pc' := 34) rfl ⟨by decide, rfl⟩ rfl rfl (zall_at hR (by decide)) ?_
      refine zW.go 1 35 [(2, 35), (2, ((p : Nat) : Int)), (2, ((o : Nat) : Int)), (0, x3), (0, x4), (0, x5), (0, r1), (9, 0), (9, 0)] [(2, ((o : Nat) : Int)), (2, 39)] _ rfl ?_
      refine w_callv (as := [(2, 39), (2, ((o : Nat) : Int))]) [] 38 rfl rfl rfl rfl (Nat.le_of_ble_eq_true rfl) (Nat.le_of_ble_eq_true rfl) (Nat.le_of_ble_eq_true rfl) (Or.inr rfl) (Cv.imp h (fun mem7 h => ?_))
      refine zW.go 1 39 [(2, 35), (2, ((p : Nat) : Int)), (2, ((o : Nat) : Int)), (0, x3), (0, x4), (0, x5), (0, r1), (9, 0), (9, 0)] [(2, 35)] _ rfl ?_
      refine w_getL (q := 35) (v := 39) rfl (by decide) (pc' := 42) rfl ⟨by decide, rfl⟩ rfl rfl (zall_at hR (by decide)) ?_
      refine w_getL (q := 39) (v := 41) rfl (by decide) (pc' := 45) rfl ⟨by decide, rfl⟩ rfl rfl (zall_at hR (by decide)) ?_
      refine zW.go 2 48 [(2, 35), (2, ((p : Nat) : Int)), (2, ((o : Nat) : Int)), (0, x3), (0, x4), (0, x5), (0, r1), (9, 0), (9, 0)] [(0, x4), (0, x3), (2, 41)] _ rfl ?_
      obtain ⟨g, h⟩ := h
      refine w_iast (q := 41) rfl (by decide) (pc' := 49) rfl ⟨by decide, rfl⟩ rfl g rfl ?_
      refine zW.go 2 52 [(2, 35), (2, ((p : Nat) : Int)), (2, ((o : Nat) : Int)), (0, x3), (0, x4), (0, x5), (0, r1), (0, 0), (9, 0)] [] _ rfl ?_
      exact h (2, ((o : Nat) : Int)) (0, x4) (9, 0)
    · have h := h.2.2 c6
      refine zW.go 1 29 [(2, 35), (2, ((p : Nat) : Int)), (2, ((o : Nat) : Int)), (0, x3), (0, x4), (0, x5), (0, r1), (9, 0), (9, 0)] [(0, 0)] _ rfl ?_
      exact w_retz rfl rfl (by decide) h
def L_seer_isAsFelt_2 (X : zX) (d : Nat) (rf : zF) (Q : Int → zF → Prop) (mem : zF) (p : Nat) (x2 : Int) (x3 : Int) : Prop := ∀ z4 : zV, ∀ z5 : zV, ∀ z6 : zV, zW X (d + 1) 119 2 [(2, 35), (2, ((p : Nat) : Int)), (0, x2), (0, x3), z4, z5, z6] [] (zty, rf, mem) (qi rf Q)
set_option maxRecDepth 4000 in
theorem s_seer_isAsFelt_2 {X : zX} {d : Nat} {rf mem : zF} {Q : Int → zF → Prop} (hR : zall rf zRK = true) {p : Nat} (hp : zPln rf p) {x2 : Int} {x3 : Int} (h : (inI x3 ∧ inI (mem 35 7)) ∧ (((mem 35 7) ≤ x3 → Q 1 mem) ∧ (¬ (mem 35 7) ≤ x3 → (inI x3) ∧ ((16 ≤ x3 → Q 1 mem) ∧ (¬ 16 ≤ x3 → (0 ≤ ((4 * x3) + 1) ∧ ((4 * x3) + 1) < 64) ∧ ((0 ≤ ((4 * x3) + 2) ∧ ((4 * x3) + 2) < 64) ∧ ((0 ≤ ((4 * x3) + 3) ∧ ((4 * x3) + 3) < 64) ∧ (Ci X d 69 [(2, ((p : Nat) : Int)), (0, (mem 48 (((4 * x3) + 2)).toNat)), (0, (mem 48 (((4 * x3) + 3)).toNat))] rf mem (fun r3 mem4 => (0 ≤ (4 * x3) ∧ (4 * x3) < 64) ∧ ((inI (mem4 48 ((4 * x3)).toNat) ∧ inI x2) ∧ ((¬ (mem4 48 ((4 * x3)).toNat) = x2 → L_seer_isAsFelt_2 X d rf Q mem4 p x2 (x3 + 1)) ∧ ((mem4 48 ((4 * x3)).toNat) = x2 → Ci X d 60 [(2, ((p : Nat) : Int)), (0, 2), (0, (mem 48 (((4 * x3) + 1)).toNat))] rf mem4 (fun r6 mem7 => (inI r6) ∧ ((r6 = 0 → L_seer_isAsFelt_2 X d rf Q mem7 p x2 (x3 + 1)) ∧ (¬ r6 = 0 → (0 ≤ (mem 48 (((4 * x3) + 1)).toNat) ∧ (mem 48 (((4 * x3) + 1)).toNat) < 6) ∧ ((inI (mem7 41 ((mem 48 (((4 * x3) + 1)).toNat)).toNat) ∧ inI r3) ∧ (((mem7 41 ((mem 48 (((4 * x3) + 1)).toNat)).toNat) = r3 → L_seer_isAsFelt_2 X d rf Q mem7 p x2 (x3 + 1)) ∧ (¬ (mem7 41 ((mem 48 (((4 * x3) + 1)).toNat)).toNat) = r3 → Q 0 mem7)))))))))))))))))) : L_seer_isAsFelt_2 X d rf Q mem p x2 x3 := by
  intro z4 z5 z6
  refine zW.go 2 4 [(2, 35), (2, ((p : Nat) : Int)), (0, x2), (0, x3), z4, z5, z6] [(2, 35), (0, x3)] _ rfl ?_
  refine w_getI (q := 35) rfl (by decide) (pc' := 7) rfl ⟨by decide, rfl⟩ rfl (by decide) ?_
  refine w_ic_ge rfl (by decide) (pc' := 10) rfl h.1 (fun c1 => ?_) (fun c1 => ?_)
  · have h := h.2.1 c1
    refine zW.go 1 101 [(2, 35), (2, ((p : Nat) : Int)), (0, x2), (0, x3), z4, z5, z6] [(0, 1)] _ rfl ?_
    exact w_retz rfl rfl (by decide) h
  · have h := h.2.2 c1
    refine zW.go 2 13 [(2, 35), (2, ((p : Nat) : Int)), (0, x2), (0, x3), z4, z5, z6] [(0, 16), (0, x3)] _ rfl ?_
    refine w_ic_ge rfl (by decide) (pc' := 16) rfl ⟨h.1, by decide⟩ (fun c2 => ?_) (fun c2 => ?_)
    · have h := h.2.1 c2
      refine zW.go 1 101 [(2, 35), (2, ((p : Nat) : Int)), (0, x2), (0, x3), z4, z5, z6] [(0, 1)] _ rfl ?_
      exact w_retz rfl rfl (by decide) h
    · have h := h.2.2 c2
      refine zW.go 5 22 [(2, 35), (2, ((p : Nat) : Int)), (0, x2), (0, x3), (0, (4 * x3)), z5, z6] [(2, 35)] _ rfl ?_
      refine w_getL (q := 35) (v := 48) rfl (by decide) (pc' := 25) rfl ⟨by decide, rfl⟩ rfl rfl (zall_at hR (by decide)) ?_
      refine zW.go 3 29 [(2, 35), (2, ((p : Nat) : Int)), (0, x2), (0, x3), (0, (4 * x3)), z5, z6] [(0, ((4 * x3) + 1)), (2, 48)] _ rfl ?_
      obtain ⟨g, h⟩ := h
      refine w_iald (q := 48) rfl (by decide) (pc' := 30) rfl ⟨by decide, rfl⟩ rfl g rfl ?_
      refine zW.go 3 34 [(2, 35), (2, ((p : Nat) : Int)), (0, x2), (0, x3), (0, (4 * x3)), (0, (mem 48 (((4 * x3) + 1)).toNat)), z6] [(2, 35), (2, ((p : Nat) : Int))] _ rfl ?_
      refine w_getL (q := 35) (v := 48) rfl (by decide) (pc' := 37) rfl ⟨by decide, rfl⟩ rfl rfl (zall_at hR (by decide)) ?_
      refine zW.go 3 41 [(2, 35), (2, ((p : Nat) : Int)), (0, x2), (0, x3), (0, (4 * x3)), (0, (mem 48 (((4 * x3) + 1)).toNat)), z6] [(0, ((4 * x3) + 2)), (2, 48), (2, ((p : Nat) : Int))] _ rfl ?_
      obtain ⟨g, h⟩ := h
      refine w_iald (q := 48) rfl (by decide) (pc' := 42) rfl ⟨by decide, rfl⟩ rfl g rfl ?_
      refine zW.go 1 43 [(2, 35), (2, ((p : Nat) : Int)), (0, x2), (0, x3), (0, (4 * x3)), (0, (mem 48 (((4 * x3) + 1)).toNat)), z6] [(2, 35), (0, (mem 48 (((4 * x3) + 2)).toNat)), (2, ((p : Nat) : Int))] _ rfl ?_
      refine w_getL (q := 35) (v := 48) rfl (by decide) (pc' := 46) rfl ⟨by decide, rfl⟩ rfl rfl (zall_at hR (by decide)) ?_
      refine zW.go 3 50 [(2, 35), (2, ((p : Nat) : Int)), (0, x2), (0, x3), (0, (4 * x3)), (0, (mem 48 (((4 * x3) + 1)).toNat)), z6] [(0, ((4 * x3) + 3)), (2, 48), (0, (mem 48 (((4 * x3) + 2)).toNat)), (2, ((p : Nat) : Int))] _ rfl ?_
      obtain ⟨g, h⟩ := h
      refine w_iald (q := 48) rfl (by decide) (pc' := 51) rfl ⟨by decide, rfl⟩ rfl g rfl ?_
      refine w_calli (as := [(2, ((p : Nat) : Int)), (0, (mem 48 (((4 * x3) + 2)).toNat)), (0, (mem 48 (((4 * x3) + 3)).toNat))]) [] 54 rfl rfl rfl rfl (Nat.le_of_ble_eq_true rfl) (Nat.le_of_ble_eq_true rfl) (Nat.le_of_ble_eq_true rfl) (Or.inr (zrcv_o (zPln_t0 hp))) (Ci.imp h (fun r3 mem4 h => ?_))
      refine zW.go 2 57 [(2, 35), (2, ((p : Nat) : Int)), (0, x2), (0, x3), (0, (4 * x3)), (0, (mem 48 (((4 * x3) + 1)).toNat)), (0, r3)] [(2, 35)] _ rfl ?_
      refine w_getL (q := 35) (v := 48) rfl (by decide) (pc' := 60) rfl ⟨by decide, rfl⟩ rfl rfl (zall_at hR (by decide)) ?_
      refine zW.go 1 62 [(2, 35), (2, ((p : Nat) : Int)), (0, x2), (0, x3), (0, (4 * x3)), (0, (mem 48 (((4 * x3) + 1)).toNat)), (0, r3)] [(0, (4 * x3)), (2, 48)] _ rfl ?_
      obtain ⟨g, h⟩ := h
      refine w_iald (q := 48) rfl (by decide) (pc' := 63) rfl ⟨by decide, rfl⟩ rfl g rfl ?_
      refine zW.go 1 64 [(2, 35), (2, ((p : Nat) : Int)), (0, x2), (0, x3), (0, (4 * x3)), (0, (mem 48 (((4 * x3) + 1)).toNat)), (0, r3)] [(0, x2), (0, (mem4 48 ((4 * x3)).toNat))] _ rfl ?_
      refine w_ic_ne rfl (by decide) (pc' := 67) rfl h.1 (fun c5 => ?_) (fun c5 => ?_)
      · have h := h.2.1 c5
        refine zW.go 2 2 [(2, 35), (2, ((p : Nat) : Int)), (0, x2), (0, (x3 + 1)), (0, (4 * x3)), (0, (mem 48 (((4 * x3) + 1)).toNat)), (0, r3)] [] _ rfl ?_
        exact h (0, (4 * x3)) (0, (mem 48 (((4 * x3) + 1)).toNat)) (0, r3)
      · have h := h.2.2 c5
        refine zW.go 3 71 [(2, 35), (2, ((p : Nat) : Int)), (0, x2), (0, x3), (0, (4 * x3)), (0, (mem 48 (((4 * x3) + 1)).toNat)), (0, r3)] [(0, (mem 48 (((4 * x3) + 1)).toNat)), (0, 2), (2, ((p : Nat) : Int))] _ rfl ?_
        refine w_calli (as := [(2, ((p : Nat) : Int)), (0, 2), (0, (mem 48 (((4 * x3) + 1)).toNat))]) [] 74 rfl rfl rfl rfl (Nat.le_of_ble_eq_true rfl) (Nat.le_of_ble_eq_true rfl) (Nat.le_of_ble_eq_true rfl) (Or.inr (zrcv_o (zPln_t0 hp))) (Ci.imp h (fun r6 mem7 h => ?_))
        refine w_if_eq rfl (by decide) (pc' := 77) rfl h.1 (fun c8 => ?_) (fun c8 => ?_)
        · have h := h.2.1 c8
          refine zW.go 2 2 [(2, 35), (2, ((p : Nat) : Int)), (0, x2), (0, (x3 + 1)), (0, (4 * x3)), (0, (mem 48 (((4 * x3) + 1)).toNat)), (0, r3)] [] _ rfl ?_
          exact h (0, (4 * x3)) (0, (mem 48 (((4 * x3) + 1)).toNat)) (0, r3)
        · have h := h.2.2 c8
          refine zW.go 1 78 [(2, 35), (2, ((p : Nat) : Int)), (0, x2), (0, x3), (0, (4 * x3)), (0, (mem 48 (((4 * x3) + 1)).toNat)), (0, r3)] [(2, 35)] _ rfl ?_
          refine w_getL (q := 35) (v := 39) rfl (by decide) (pc' := 81) rfl ⟨by decide, rfl⟩ rfl rfl (zall_at hR (by decide)) ?_
          refine w_getL (q := 39) (v := 41) rfl (by decide) (pc' := 84) rfl ⟨by decide, rfl⟩ rfl rfl (zall_at hR (by decide)) ?_
          refine zW.go 1 86 [(2, 35), (2, ((p : Nat) : Int)), (0, x2), (0, x3), (0, (4 * x3)), (0, (mem 48 (((4 * x3) + 1)).toNat)), (0, r3)] [(0, (mem 48 (((4 * x3) + 1)).toNat)), (2, 41)] _ rfl ?_
          obtain ⟨g, h⟩ := h
          refine w_iald (q := 41) rfl (by decide) (pc' := 87) rfl ⟨by decide, rfl⟩ rfl g rfl ?_
          refine zW.go 1 89 [(2, 35), (2, ((p : Nat) : Int)), (0, x2), (0, x3), (0, (4 * x3)), (0, (mem 48 (((4 * x3) + 1)).toNat)), (0, r3)] [(0, r3), (0, (mem7 41 ((mem 48 (((4 * x3) + 1)).toNat)).toNat))] _ rfl ?_
          refine w_ic_eq rfl (by decide) (pc' := 92) rfl h.1 (fun c9 => ?_) (fun c9 => ?_)
          · have h := h.2.1 c9
            refine zW.go 2 2 [(2, 35), (2, ((p : Nat) : Int)), (0, x2), (0, (x3 + 1)), (0, (4 * x3)), (0, (mem 48 (((4 * x3) + 1)).toNat)), (0, r3)] [] _ rfl ?_
            exact h (0, (4 * x3)) (0, (mem 48 (((4 * x3) + 1)).toNat)) (0, r3)
          · have h := h.2.2 c9
            refine zW.go 1 93 [(2, 35), (2, ((p : Nat) : Int)), (0, x2), (0, x3), (0, (4 * x3)), (0, (mem 48 (((4 * x3) + 1)).toNat)), (0, r3)] [(0, 0)] _ rfl ?_
            exact w_retz rfl rfl (by decide) h
set_option maxRecDepth 4000 in
theorem s_seer_isAsFelt {X : zX} {d : Nat} {rf mem : zF} {Q : Int → zF → Prop} (hR : zall rf zRK = true) {p : Nat} (hp : zPln rf p) {x2 : Int} (h : L_seer_isAsFelt_2 X d rf Q mem p x2 0) : Ci X (d + 1) 119 [(2, 35), (2, ((p : Nat) : Int)), (0, x2)] rf mem Q := by
  show zW X (d + 1) 119 0 [(2, 35), (2, ((p : Nat) : Int)), (0, x2), (9, 0), (9, 0), (9, 0), (9, 0)] [] (zty, rf, mem) (qi rf Q)
  refine zW.go 2 2 [(2, 35), (2, ((p : Nat) : Int)), (0, x2), (0, 0), (9, 0), (9, 0), (9, 0)] [] _ rfl ?_
  exact h (9, 0) (9, 0) (9, 0)
def L_seer_findTelling_35 (X : zX) (d : Nat) (rf : zF) (Q : Int → zF → Prop) (mem : zF) (p : Nat) (o : Nat) (x3 : Int) (x4 : Int) (x5 : Int) (x6 : Int) : Prop := ∀ z7 : zV, zW X (d + 1) 120 35 [(2, 35), (2, ((p : Nat) : Int)), (2, ((o : Nat) : Int)), (0, x3), (0, x4), (0, x5), (0, x6), z7] [] (zty, rf, mem) (qi rf Q)
def L_seer_findTelling_96 (X : zX) (d : Nat) (rf : zF) (Q : Int → zF → Prop) (mem : zF) (p : Nat) (o : Nat) (x4 : Int) (x5 : Int) (x6 : Int) : Prop := ∀ z1 : zV, ∀ z2 : zV, ∀ z3 : zV, ∀ z7 : zV, zW X (d + 1) 120 96 [(2, 35), z1, z2, z3, (0, x4), (0, x5), (0, x6), z7] [] (zty, rf, mem) (qi rf Q)
def L_seer_findTelling_143 (X : zX) (d : Nat) (rf : zF) (Q : Int → zF → Prop) (mem : zF) (p : Nat) (o : Nat) : Prop := ∀ z1 : zV, ∀ z2 : zV, ∀ z3 : zV, ∀ z4 : zV, ∀ z5 : zV, ∀ z6 : zV, ∀ z7 : zV, zW X (d + 1) 120 143 [(2, 35), z1, z2, z3, z4, z5, z6, z7] [] (zty, rf, mem) (qi rf Q)
set_option maxRecDepth 4000 in
theorem s_seer_findTelling_35 {X : zX} {d : Nat} {rf mem : zF} {Q : Int → zF → Prop} (hR : zall rf zRK = true) {p : Nat} (hp : zPln rf p) {o : Nat} (ho : zScn rf o) {x3 : Int} {x4 : Int} {x5 : Int} {x6 : Int} (h : (inI x6) ∧ ((64 ≤ x6 → L_seer_findTelling_96 X d rf Q (zup (zup mem 35 10 (-1)) 35 11 (x5 + 1)) p o x4 x5 1) ∧ (¬ 64 ≤ x6 → Ci X d 70 [(2, ((p : Nat) : Int)), (0, x6)] rf mem (fun r6 mem7 => (inI r6) ∧ ((r6 = 0 → L_seer_findTelling_35 X d rf Q mem7 p o x3 x4 x5 (x6 + 1)) ∧ (¬ r6 = 0 → Ci X d 118 [(2, 35), (2, ((p : Nat) : Int)), (2, ((o : Nat) : Int)), (0, x3), (0, x6), (0, x4)] rf mem7 (fun r9 mem10 => (inI r9) ∧ ((r9 = 0 → L_seer_findTelling_35 X d rf Q mem10 p o x3 x4 x5 (x6 + 1)) ∧ (¬ r9 = 0 → Cv X d 121 [(2, 35), (0, x4)] rf mem10 (fun mem12 => L_seer_findTelling_35 X d rf Q mem12 p o x3 x4 (x5 + 1) (x6 + 1))))))))))) : L_seer_findTelling_35 X d rf Q mem p o x3 x4 x5 x6 := by
  intro z7
  refine zW.go 2 39 [(2, 35), (2, ((p : Nat) : Int)), (2, ((o : Nat) : Int)), (0, x3), (0, x4), (0, x5), (0, x6), z7] [(0, 64), (0, x6)] _ rfl ?_
  refine w_ic_ge rfl (by decide) (pc' := 42) rfl ⟨h.1, by decide⟩ (fun c5 => ?_) (fun c5 => ?_)
  · have h := h.2.1 c5
    refine zW.go 2 82 [(2, 35), (2, ((p : Nat) : Int)), (2, ((o : Nat) : Int)), (0, x3), (0, x4), (0, x5), (0, x6), z7] [(0, (-1)), (2, 35)] _ rfl ?_
    refine w_putI (q := 35) rfl (by decide) (pc' := 85) rfl ⟨by decide, rfl⟩ rfl (by decide) ?_
    refine zW.go 4 90 [(2, 35), (2, ((p : Nat) : Int)), (2, ((o : Nat) : Int)), (0, x3), (0, x4), (0, x5), (0, x6), z7] [(0, (x5 + 1)), (2, 35)] _ rfl ?_
    refine w_putI (q := 35) rfl (by decide) (pc' := 93) rfl ⟨by decide, rfl⟩ rfl (by decide) ?_
    refine zW.go 2 96 [(2, 35), (2, ((p : Nat) : Int)), (2, ((o : Nat) : Int)), (0, x3), (0, x4), (0, x5), (0, 1), z7] [] _ rfl ?_
    exact h (2, ((p : Nat) : Int)) (2, ((o : Nat) : Int)) (0, x3) z7
  · have h := h.2.2 c5
    refine zW.go 2 45 [(2, 35), (2, ((p : Nat) : Int)), (2, ((o : Nat) : Int)), (0, x3), (0, x4), (0, x5), (0, x6), z7] [(0, x6), (2, ((p : Nat) : Int))] _ rfl ?_
    refine w_calli (as := [(2, ((p : Nat) : Int)), (0, x6)]) [] 48 rfl rfl rfl rfl (Nat.le_of_ble_eq_true rfl) (Nat.le_of_ble_eq_true rfl) (Nat.le_of_ble_eq_true rfl) (Or.inr (zrcv_o (zPln_t0 hp))) (Ci.imp h (fun r6 mem7 h => ?_))
    refine w_if_eq rfl (by decide) (pc' := 51) rfl h.1 (fun c8 => ?_) (fun c8 => ?_)
    · have h := h.2.1 c8
      refine zW.go 2 35 [(2, 35), (2, ((p : Nat) : Int)), (2, ((o : Nat) : Int)), (0, x3), (0, x4), (0, x5), (0, (x6 + 1)), z7] [] _ rfl ?_
      exact h z7
    · have h := h.2.2 c8
      refine zW.go 6 59 [(2, 35), (2, ((p : Nat) : Int)), (2, ((o : Nat) : Int)), (0, x3), (0, x4), (0, x5), (0, x6), z7] [(0, x4), (0, x6), (0, x3), (2, ((o : Nat) : Int)), (2, ((p : Nat) : Int)), (2, 35)] _ rfl ?_
      refine w_calli (as := [(2, 35), (2, ((p : Nat) : Int)), (2, ((o : Nat) : Int)), (0, x3), (0, x6), (0, x4)]) [] 62 rfl rfl rfl rfl (Nat.le_of_ble_eq_true rfl) (Nat.le_of_ble_eq_true rfl) (Nat.le_of_ble_eq_true rfl) (Or.inr rfl) (Ci.imp h (fun r9 mem10 h => ?_))
      refine w_if_eq rfl (by decide) (pc' := 65) rfl h.1 (fun c11 => ?_) (fun c11 => ?_)
      · have h := h.2.1 c11
        refine zW.go 2 35 [(2, 35), (2, ((p : Nat) : Int)), (2, ((o : Nat) : Int)), (0, x3), (0, x4), (0, x5), (0, (x6 + 1)), z7] [] _ rfl ?_
        exact h z7
      · have h := h.2.2 c11
        refine zW.go 3 71 [(2, 35), (2, ((p : Nat) : Int)), (2, ((o : Nat) : Int)), (0, x3), (0, x4), (0, (x5 + 1)), (0, x6), z7] [(0, x4), (2, 35)] _ rfl ?_
        refine w_callv (as := [(2, 35), (0, x4)]) [] 74 rfl rfl rfl rfl (Nat.le_of_ble_eq_true rfl) (Nat.le_of_ble_eq_true rfl) (Nat.le_of_ble_eq_true rfl) (Or.inr rfl) (Cv.imp h (fun mem12 h => ?_))
        refine zW.go 2 35 [(2, 35), (2, ((p : Nat) : Int)), (2, ((o : Nat) : Int)), (0, x3), (0, x4), (0, (x5 + 1)), (0, (x6 + 1)), z7] [] _ rfl ?_
        exact h z7
set_option maxRecDepth 4000 in
theorem s_seer_findTelling_96 {X : zX} {d : Nat} {rf mem : zF} {Q : Int → zF → Prop} (hR : zall rf zRK = true) {p : Nat} (hp : zPln rf p) {o : Nat} (ho : zScn rf o) {x4 : Int} {x5 : Int} {x6 : Int} (h : (inI x6 ∧ inI x4) ∧ ((x4 < x6 → L_seer_findTelling_143 X d rf Q mem p o) ∧ (¬ x4 < x6 → (inI x5) ∧ ((x5 ≤ 0 → L_seer_findTelling_143 X d rf Q mem p o) ∧ (¬ x5 ≤ 0 → Ci X d 122 [(2, 35), (0, x6)] rf mem (fun r15 mem16 => (inI r15 ∧ inI (mem16 35 11)) ∧ (((mem16 35 11) ≤ r15 → L_seer_findTelling_96 X d rf Q mem16 p o x4 x5 (x6 + 1)) ∧ (¬ (mem16 35 11) ≤ r15 → L_seer_findTelling_96 X d rf Q (zup (zup mem16 35 10 x6) 35 11 r15) p o x4 x5 (x6 + 1))))))))) : L_seer_findTelling_96 X d rf Q mem p o x4 x5 x6 := by
  intro z1 z2 z3 z7
  refine zW.go 2 100 [(2, 35), z1, z2, z3, (0, x4), (0, x5), (0, x6), z7] [(0, x4), (0, x6)] _ rfl ?_
  refine w_ic_gt rfl (by decide) (pc' := 103) rfl h.1 (fun c13 => ?_) (fun c13 => ?_)
  · have h := h.2.1 c13
    exact h z1 z2 z3 (0, x4) (0, x5) (0, x6) z7
  · have h := h.2.2 c13
    refine zW.go 1 105 [(2, 35), z1, z2, z3, (0, x4), (0, x5), (0, x6), z7] [(0, x5)] _ rfl ?_
    refine w_if_le rfl (by decide) (pc' := 108) rfl h.1 (fun c14 => ?_) (fun c14 => ?_)
    · have h := h.2.1 c14
      exact h z1 z2 z3 (0, x4) (0, x5) (0, x6) z7
    · have h := h.2.2 c14
      refine zW.go 2 111 [(2, 35), z1, z2, z3, (0, x4), (0, x5), (0, x6), z7] [(0, x6), (2, 35)] _ rfl ?_
      refine w_calli (as := [(2, 35), (0, x6)]) [] 114 rfl rfl rfl rfl (Nat.le_of_ble_eq_true rfl) (Nat.le_of_ble_eq_true rfl) (Nat.le_of_ble_eq_true rfl) (Or.inr rfl) (Ci.imp h (fun r15 mem16 h => ?_))
      refine zW.go 3 119 [(2, 35), z1, z2, z3, (0, x4), (0, x5), (0, x6), (0, r15)] [(2, 35), (0, r15)] _ rfl ?_
      refine w_getI (q := 35) rfl (by decide) (pc' := 122) rfl ⟨by decide, rfl⟩ rfl (by decide) ?_
      refine w_ic_ge rfl (by decide) (pc' := 125) rfl h.1 (fun c17 => ?_) (fun c17 => ?_)
      · have h := h.2.1 c17
        refine zW.go 2 96 [(2, 35), z1, z2, z3, (0, x4), (0, x5), (0, (x6 + 1)), (0, r15)] [] _ rfl ?_
        exact h z1 z2 z3 (0, r15)
      · have h := h.2.2 c17
        refine zW.go 2 128 [(2, 35), z1, z2, z3, (0, x4), (0, x5), (0, x6), (0, r15)] [(0, x6), (2, 35)] _ rfl ?_
        refine w_putI (q := 35) rfl (by decide) (pc' := 131) rfl ⟨by decide, rfl⟩ rfl (by decide) ?_
        refine zW.go 2 134 [(2, 35), z1, z2, z3, (0, x4), (0, x5), (0, x6), (0, r15)] [(0, r15), (2, 35)] _ rfl ?_
        refine w_putI (q := 35) rfl (by decide) (pc' := 137) rfl ⟨by decide, rfl⟩ rfl (by decide) ?_
        refine zW.go 2 96 [(2, 35), z1, z2, z3, (0, x4), (0, x5), (0, (x6 + 1)), (0, r15)] [] _ rfl ?_
        exact h z1 z2 z3 (0, r15)
set_option maxRecDepth 4000 in
theorem s_seer_findTelling_143 {X : zX} {d : Nat} {rf mem : zF} {Q : Int → zF → Prop} (hR : zall rf zRK = true) {p : Nat} (hp : zPln rf p) {o : Nat} (ho : zScn rf o) (h : (inI (mem 35 10)) ∧ (((mem 35 10) = (-1) → Q 0 mem) ∧ (¬ (mem 35 10) = (-1) → Q 1 mem))) : L_seer_findTelling_143 X d rf Q mem p o := by
  intro z1 z2 z3 z4 z5 z6 z7
  refine zW.go 1 144 [(2, 35), z1, z2, z3, z4, z5, z6, z7] [(2, 35)] _ rfl ?_
  refine w_getI (q := 35) rfl (by decide) (pc' := 147) rfl ⟨by decide, rfl⟩ rfl (by decide) ?_
  refine zW.go 1 148 [(2, 35), z1, z2, z3, z4, z5, z6, z7] [(0, (-1)), (0, (mem 35 10))] _ rfl ?_
  refine w_ic_eq rfl (by decide) (pc' := 151) rfl ⟨h.1, by decide⟩ (fun c18 => ?_) (fun c18 => ?_)
  · have h := h.2.1 c18
    refine zW.go 1 156 [(2, 35), z1, z2, z3, z4, z5, z6, z7] [(0, 0)] _ rfl ?_
    exact w_retz rfl rfl (by decide) h
  · have h := h.2.2 c18
    refine zW.go 2 156 [(2, 35), z1, z2, z3, z4, z5, z6, z7] [(0, 1)] _ rfl ?_
    exact w_retz rfl rfl (by decide) h
set_option maxRecDepth 4000 in
theorem s_seer_findTelling {X : zX} {d : Nat} {rf mem : zF} {Q : Int → zF → Prop} (hR : zall rf zRK = true) {p : Nat} (hp : zPln rf p) {o : Nat} (ho : zScn rf o) {x3 : Int} (h : Ci X d 321 [(0, 30), (0, (999 - (mem o 0)))] rf mem (fun r1 mem2 => Cv X d 328 [(2, 50), (0, 0)] rf mem2 (fun mem3 => Cv X d 100 [(2, 35), (2, ((p : Nat) : Int)), (2, ((o : Nat) : Int))] rf mem3 (fun mem4 => L_seer_findTelling_35 X d rf Q mem4 p o x3 r1 0 0)))) : Ci X (d + 1) 120 [(2, 35), (2, ((p : Nat) : Int)), (2, ((o : Nat) : Int)), (0, x3)] rf mem Q := by
  show zW X (d + 1) 120 0 [(2, 35), (2, ((p : Nat) : Int)), (2, ((o : Nat) : Int)), (0, x3), (9, 0), (9, 0), (9, 0), (9, 0)] [] (zty, rf, mem) (qi rf Q)
  refine zW.go 3 6 [(2, 35), (2, ((p : Nat) : Int)), (2, ((o : Nat) : Int)), (0, x3), (9, 0), (9, 0), (9, 0), (9, 0)] [(2, ((o : Nat) : Int)), (0, 999), (0, 30)] _ rfl ?_
  refine w_getI (q := o) rfl (by decide) (pc' := 9) rfl ⟨Int.natCast_nonneg _, rfl⟩ (zScn_t0 ho) (by decide) ?_
  refine zW.go 1 10 [(2, 35), (2, ((p : Nat) : Int)), (2, ((o : Nat) : Int)), (0, x3), (9, 0), (9, 0), (9, 0), (9, 0)] [(0, (999 - (mem o 0))), (0, 30)] _ rfl ?_
  refine w_calli (as := [(0, 30), (0, (999 - (mem o 0)))]) [] 13 rfl rfl rfl rfl (Nat.le_of_ble_eq_true rfl) (Nat.le_of_ble_eq_true rfl) (Nat.le_of_ble_eq_true rfl) (Or.inl rfl) (Ci.imp h (fun r1 mem2 h => ?_))
  refine zW.go 4 19 [(2, 35), (2, ((p : Nat) : Int)), (2, ((o : Nat) : Int)), (0, x3), (0, r1), (0, 0), (9, 0), (9, 0)] [(2, 35)] _ rfl ?_
  refine w_getL (q := 35) (v := 50) rfl (by decide) (pc' := 22) rfl ⟨by decide, rfl⟩ rfl rfl (zall_at hR (by decide)) ?_
  refine zW.go 1 23 [(2, 35), (2, ((p : Nat) : Int)), (2, ((o : Nat) : Int)), (0, x3), (0, r1), (0, 0), (9, 0), (9, 0)] [(0, 0), (2, 50)] _ rfl ?_
  refine w_callv (as := [(2, 50), (0, 0)]) [] 26 rfl rfl rfl rfl (Nat.le_of_ble_eq_true rfl) (Nat.le_of_ble_eq_true rfl) (Nat.le_of_ble_eq_true rfl) (Or.inl rfl) (Cv.imp h (fun mem3 h => ?_))
  refine zW.go 3 29 [(2, 35), (2, ((p : Nat) : Int)), (2, ((o : Nat) : Int)), (0, x3), (0, r1), (0, 0), (9, 0), (9, 0)] [(2, ((o : Nat) : Int)), (2, ((p : Nat) : Int)), (2, 35)] _ rfl ?_
  refine w_callv (as := [(2, 35), (2, ((p : Nat) : Int)), (2, ((o : Nat) : Int))]) [] 32 rfl rfl rfl rfl (Nat.le_of_ble_eq_true rfl) (Nat.le_of_ble_eq_true rfl) (Nat.le_of_ble_eq_true rfl) (Or.inr rfl) (Cv.imp h (fun mem4 h => ?_))
  refine zW.go 2 35 [(2, 35), (2, ((p : Nat) : Int)), (2, ((o : Nat) : Int)), (0, x3), (0, r1), (0, 0), (0, 0), (9, 0)] [] _ rfl ?_
  exact h (9, 0)
def L_seer_countPath_2 (X : zX) (d : Nat) (rf : zF) (Q : zF → Prop) (mem : zF) (x1 : Int) (x2 : Int) : Prop := ∀ z3 : zV, zW X d 121 2 [(2, 35), (0, x1), (0, x2), z3] [] (zty, rf, mem) (qv rf Q)
def L_seer_countPath_37 (X : zX) (d : Nat) (rf : zF) (Q : zF → Prop) (mem : zF) (x1 : Int) (x2 : Int) (s0 : Int) : Prop := ∀ z3 : zV, zW X d 121 37 [(2, 35), (0, x1), (0, x2), z3] [(0, s0)] (zty, rf, mem) (qv rf Q)
set_option maxRecDepth 4000 in
theorem s_seer_countPath_2 {X : zX} {d : Nat} {rf mem : zF} {Q : zF → Prop} (hR : zall rf zRK = true) {x1 : Int} {x2 : Int} (h : (inI x2 ∧ inI x1) ∧ ((x1 < x2 → Q mem) ∧ (¬ x1 < x2 → (inI x2) ∧ ((31 ≤ x2 → Q mem) ∧ (¬ 31 ≤ x2 → (0 ≤ x2 ∧ x2 < 31) ∧ ((inI (mem 49 (x2).toNat)) ∧ ((¬ (mem 49 (x2).toNat) = (-1) → (0 ≤ x2 ∧ x2 < 31) ∧ (L_seer_countPath_37 X d rf Q mem x1 x2 (mem 49 (x2).toNat))) ∧ ((mem 49 (x2).toNat) = (-1) → L_seer_countPath_37 X d rf Q mem x1 x2 64)))))))) : L_seer_countPath_2 X d rf Q mem x1 x2 := by
  intro z3
  refine zW.go 2 4 [(2, 35), (0, x1), (0, x2), z3] [(0, x1), (0, x2)] _ rfl ?_
  refine w_ic_gt rfl (by decide) (pc' := 7) rfl h.1 (fun c1 => ?_) (fun c1 => ?_)
  · have h := h.2.1 c1
    exact w_retv rfl rfl h
  · have h := h.2.2 c1
    refine zW.go 2 9 [(2, 35), (0, x1), (0, x2), z3] [(2, 35), (0, x2)] _ rfl ?_
    refine w_getL (q := 35) (v := 49) rfl (by decide) (pc' := 12) rfl ⟨by decide, rfl⟩ rfl rfl (zall_at hR (by decide)) ?_
    refine w_alen (q := 49) rfl (by decide) (pc' := 13) rfl ⟨by decide, rfl⟩ rfl (by decide) ?_
    refine w_ic_ge rfl (by decide) (pc' := 16) rfl ⟨h.1, by decide⟩ (fun c2 => ?_) (fun c2 => ?_)
    · have h := h.2.1 c2
      exact w_retv rfl rfl h
    · have h := h.2.2 c2
      refine zW.go 1 17 [(2, 35), (0, x1), (0, x2), z3] [(2, 35)] _ rfl ?_
      refine w_getL (q := 35) (v := 49) rfl (by decide) (pc' := 20) rfl ⟨by decide, rfl⟩ rfl rfl (zall_at hR (by decide)) ?_
      refine zW.go 1 21 [(2, 35), (0, x1), (0, x2), z3] [(0, x2), (2, 49)] _ rfl ?_
      obtain ⟨g, h⟩ := h
      refine w_iald (q := 49) rfl (by decide) (pc' := 22) rfl ⟨by decide, rfl⟩ rfl g rfl ?_
      refine zW.go 1 23 [(2, 35), (0, x1), (0, x2), z3] [(0, (-1)), (0, (mem 49 (x2).toNat))] _ rfl ?_
      refine w_ic_ne rfl (by decide) (pc' := 26) rfl ⟨h.1, by decide⟩ (fun c3 => ?_) (fun c3 => ?_)
      · have h := h.2.1 c3
        refine zW.go 1 32 [(2, 35), (0, x1), (0, x2), z3] [(2, 35)] _ rfl ?_
        refine w_getL (q := 35) (v := 49) rfl (by decide) (pc' := 35) rfl ⟨by decide, rfl⟩ rfl rfl (zall_at hR (by decide)) ?_
        refine zW.go 1 36 [(2, 35), (0, x1), (0, x2), z3] [(0, x2), (2, 49)] _ rfl ?_
        obtain ⟨g, h⟩ := h
        refine w_iald (q := 49) rfl (by decide) (pc' := 37) rfl ⟨by decide, rfl⟩ rfl g rfl ?_
        exact h z3
      · have h := h.2.2 c3
        refine zW.go 2 37 [(2, 35), (0, x1), (0, x2), z3] [(0, 64)] _ rfl ?_
        exact h z3
set_option maxRecDepth 4000 in
theorem s_seer_countPath_37 {X : zX} {d : Nat} {rf mem : zF} {Q : zF → Prop} (hR : zall rf zRK = true) {x1 : Int} {x2 : Int} {s0 : Int} (h : (inI s0) ∧ ((s0 < 0 → L_seer_countPath_2 X d rf Q mem x1 (x2 + 1)) ∧ (¬ s0 < 0 → (inI s0) ∧ ((65 ≤ s0 → L_seer_countPath_2 X d rf Q mem x1 (x2 + 1)) ∧ (¬ 65 ≤ s0 → (0 ≤ ((65 * x2) + s0) ∧ ((65 * x2) + s0) < 2015) ∧ ((0 ≤ ((65 * x2) + s0) ∧ ((65 * x2) + s0) < 2015) ∧ (L_seer_countPath_2 X d rf Q (zup mem 50 (((65 * x2) + s0)).toNat ((mem 50 (((65 * x2) + s0)).toNat) + 1)) x1 (x2 + 1)))))))) : L_seer_countPath_37 X d rf Q mem x1 x2 s0 := by
  intro z3
  refine zW.go 2 39 [(2, 35), (0, x1), (0, x2), (0, s0)] [(0, s0)] _ rfl ?_
  refine w_if_lt rfl (by decide) (pc' := 42) rfl h.1 (fun c4 => ?_) (fun c4 => ?_)
  · have h := h.2.1 c4
    refine zW.go 2 2 [(2, 35), (0, x1), (0, (x2 + 1)), (0, s0)] [] _ rfl ?_
    exact h (0, s0)
  · have h := h.2.2 c4
    refine zW.go 2 45 [(2, 35), (0, x1), (0, x2), (0, s0)] [(0, 65), (0, s0)] _ rfl ?_
    refine w_ic_ge rfl (by decide) (pc' := 48) rfl ⟨h.1, by decide⟩ (fun c5 => ?_) (fun c5 => ?_)
    · have h := h.2.1 c5
      refine zW.go 2 2 [(2, 35), (0, x1), (0, (x2 + 1)), (0, s0)] [] _ rfl ?_
      exact h (0, s0)
    · have h := h.2.2 c5
      refine zW.go 1 49 [(2, 35), (0, x1), (0, x2), (0, s0)] [(2, 35)] _ rfl ?_
      refine w_getL (q := 35) (v := 50) rfl (by decide) (pc' := 52) rfl ⟨by decide, rfl⟩ rfl rfl (zall_at hR (by decide)) ?_
      refine zW.go 6 59 [(2, 35), (0, x1), (0, x2), (0, s0)] [(0, ((65 * x2) + s0)), (2, 50), (0, ((65 * x2) + s0)), (2, 50)] _ rfl ?_
      obtain ⟨g, h⟩ := h
      refine w_iald (q := 50) rfl (by decide) (pc' := 60) rfl ⟨by decide, rfl⟩ rfl g rfl ?_
      refine zW.go 2 62 [(2, 35), (0, x1), (0, x2), (0, s0)] [(0, ((mem 50 (((65 * x2) + s0)).toNat) + 1)), (0, ((65 * x2) + s0)), (2, 50)] _ rfl ?_
      obtain ⟨g, h⟩ := h
      refine w_iast (q := 50) rfl (by decide) (pc' := 63) rfl ⟨by decide, rfl⟩ rfl g rfl ?_
      refine zW.go 2 2 [(2, 35), (0, x1), (0, (x2 + 1)), (0, s0)] [] _ rfl ?_
      exact h (0, s0)
set_option maxRecDepth 4000 in
theorem s_seer_countPath {X : zX} {d : Nat} {rf mem : zF} {Q : zF → Prop} (hR : zall rf zRK = true) {x1 : Int} (h : L_seer_countPath_2 X d rf Q mem x1 1) : Cv X d 121 [(2, 35), (0, x1)] rf mem Q := by
  show zW X d 121 0 [(2, 35), (0, x1), (9, 0), (9, 0)] [] (zty, rf, mem) (qv rf Q)
  refine zW.go 2 2 [(2, 35), (0, x1), (0, 1), (9, 0)] [] _ rfl ?_
  exact h (9, 0)
def L_seer_largestGroup_7 (X : zX) (d : Nat) (rf : zF) (Q : Int → zF → Prop) (mem : zF) (x1 : Int) (x2 : Int) (x3 : Int) : Prop := zW X (d + 1) 122 7 [(2, 35), (0, x1), (0, x2), (0, x3)] [] (zty, rf, mem) (qi rf Q)
set_option maxRecDepth 4000 in
theorem s_seer_largestGroup_7 {X : zX} {d : Nat} {rf mem : zF} {Q : Int → zF → Prop} (hR : zall rf zRK = true) {x1 : Int} {x2 : Int} {x3 : Int} (h : (inI x3 ∧ inI (65 * (x1 + 1))) ∧ (((65 * (x1 + 1)) ≤ x3 → Q x2 mem) ∧ (¬ (65 * (x1 + 1)) ≤ x3 → (inI x3) ∧ ((x3 < 0 → Q x2 mem) ∧ (¬ x3 < 0 → (inI x3) ∧ ((2015 ≤ x3 → Q x2 mem) ∧ (¬ 2015 ≤ x3 → (0 ≤ x3 ∧ x3 < 2015) ∧ (Ci X d 320 [(0, x2), (0, (mem 50 (x3).toNat))] rf mem (fun r4 mem5 => L_seer_largestGroup_7 X d rf Q mem5 x1 r4 (x3 + 1)))))))))) : L_seer_largestGroup_7 X d rf Q mem x1 x2 x3 := by
  refine zW.go 6 14 [(2, 35), (0, x1), (0, x2), (0, x3)] [(0, (65 * (x1 + 1))), (0, x3)] _ rfl ?_
  refine w_ic_ge rfl (by decide) (pc' := 17) rfl h.1 (fun c1 => ?_) (fun c1 => ?_)
  · have h := h.2.1 c1
    refine zW.go 1 48 [(2, 35), (0, x1), (0, x2), (0, x3)] [(0, x2)] _ rfl ?_
    exact w_reti rfl rfl h
  · have h := h.2.2 c1
    refine zW.go 1 18 [(2, 35), (0, x1), (0, x2), (0, x3)] [(0, x3)] _ rfl ?_
    refine w_if_lt rfl (by decide) (pc' := 21) rfl h.1 (fun c2 => ?_) (fun c2 => ?_)
    · have h := h.2.1 c2
      refine zW.go 1 48 [(2, 35), (0, x1), (0, x2), (0, x3)] [(0, x2)] _ rfl ?_
      exact w_reti rfl rfl h
    · have h := h.2.2 c2
      refine zW.go 2 23 [(2, 35), (0, x1), (0, x2), (0, x3)] [(2, 35), (0, x3)] _ rfl ?_
      refine w_getL (q := 35) (v := 50) rfl (by decide) (pc' := 26) rfl ⟨by decide, rfl⟩ rfl rfl (zall_at hR (by decide)) ?_
      refine w_alen (q := 50) rfl (by decide) (pc' := 27) rfl ⟨by decide, rfl⟩ rfl (by decide) ?_
      refine w_ic_ge rfl (by decide) (pc' := 30) rfl ⟨h.1, by decide⟩ (fun c3 => ?_) (fun c3 => ?_)
      · have h := h.2.1 c3
        refine zW.go 1 48 [(2, 35), (0, x1), (0, x2), (0, x3)] [(0, x2)] _ rfl ?_
        exact w_reti rfl rfl h
      · have h := h.2.2 c3
        refine zW.go 2 32 [(2, 35), (0, x1), (0, x2), (0, x3)] [(2, 35), (0, x2)] _ rfl ?_
        refine w_getL (q := 35) (v := 50) rfl (by decide) (pc' := 35) rfl ⟨by decide, rfl⟩ rfl rfl (zall_at hR (by decide)) ?_
        refine zW.go 1 36 [(2, 35), (0, x1), (0, x2), (0, x3)] [(0, x3), (2, 50), (0, x2)] _ rfl ?_
        obtain ⟨g, h⟩ := h
        refine w_iald (q := 50) rfl (by decide) (pc' := 37) rfl ⟨by decide, rfl⟩ rfl g rfl ?_
        refine w_calli (as := [(0, x2), (0, (mem 50 (x3).toNat))]) [] 40 rfl rfl rfl rfl (Nat.le_of_ble_eq_true rfl) (Nat.le_of_ble_eq_true rfl) (Nat.le_of_ble_eq_true rfl) (Or.inl rfl) (Ci.imp h (fun r4 mem5 h => ?_))
        refine zW.go 3 7 [(2, 35), (0, x1), (0, r4), (0, (x3 + 1))] [] _ rfl ?_
        exact h
set_option maxRecDepth 4000 in
theorem s_seer_largestGroup {X : zX} {d : Nat} {rf mem : zF} {Q : Int → zF → Prop} (hR : zall rf zRK = true) {x1 : Int} (h : L_seer_largestGroup_7 X d rf Q mem x1 0 (65 * x1)) : Ci X (d + 1) 122 [(2, 35), (0, x1)] rf mem Q := by
  show zW X (d + 1) 122 0 [(2, 35), (0, x1), (9, 0), (9, 0)] [] (zty, rf, mem) (qi rf Q)
  refine zW.go 6 7 [(2, 35), (0, x1), (0, 0), (0, (65 * x1))] [] _ rfl ?_
  exact h
def L_tape_add_3 (X : zX) (d : Nat) (rf : zF) (Q : zF → Prop) (mem : zF) (x1 : Int) (x2 : Int) : Prop := zW X d 124 3 [(2, 1), (0, x1), (0, x2)] [] (zty, rf, mem) (qv rf Q)
set_option maxRecDepth 4000 in
theorem s_tape_add_3 {X : zX} {d : Nat} {rf mem : zF} {Q : zF → Prop} (hR : zall rf zRK = true) {x1 : Int} {x2 : Int} (h : (inI x2) ∧ ((x2 < 0 → Q mem) ∧ (¬ x2 < 0 → (inI (mem 1 1)) ∧ (((mem 1 1) < 0 → L_tape_add_3 X d rf Q mem x1 (x2 + (-8))) ∧ (¬ (mem 1 1) < 0 → (inI (mem 1 1)) ∧ ((1600 ≤ (mem 1 1) → L_tape_add_3 X d rf Q mem x1 (x2 + (-8))) ∧ (¬ 1600 ≤ (mem 1 1) → (0 ≤ (mem 1 1) ∧ (mem 1 1) < 1600) ∧ ((-128 ≤ (zi2b (zshr x1 x2)) ∧ (zi2b (zshr x1 x2)) < 128) ∧ (L_tape_add_3 X d rf Q (zup (zup mem 2 ((mem 1 1)).toNat (zi2b (zshr x1 x2))) 1 1 ((mem 1 1) + 1)) x1 (x2 + (-8))))))))))) : L_tape_add_3 X d rf Q mem x1 x2 := by
  refine zW.go 1 4 [(2, 1), (0, x1), (0, x2)] [(0, x2)] _ rfl ?_
  refine w_if_lt rfl (by decide) (pc' := 7) rfl h.1 (fun c1 => ?_) (fun c1 => ?_)
  · have h := h.2.1 c1
    exact w_retv rfl rfl h
  · have h := h.2.2 c1
    refine zW.go 1 8 [(2, 1), (0, x1), (0, x2)] [(2, 1)] _ rfl ?_
    refine w_getI (q := 1) rfl (by decide) (pc' := 11) rfl ⟨by decide, rfl⟩ rfl (by decide) ?_
    refine w_if_lt rfl (by decide) (pc' := 14) rfl h.1 (fun c2 => ?_) (fun c2 => ?_)
    · have h := h.2.1 c2
      refine zW.go 2 3 [(2, 1), (0, x1), (0, (x2 + (-8)))] [] _ rfl ?_
      exact h
    · have h := h.2.2 c2
      refine zW.go 1 15 [(2, 1), (0, x1), (0, x2)] [(2, 1)] _ rfl ?_
      refine w_getI (q := 1) rfl (by decide) (pc' := 18) rfl ⟨by decide, rfl⟩ rfl (by decide) ?_
      refine zW.go 1 19 [(2, 1), (0, x1), (0, x2)] [(2, 1), (0, (mem 1 1))] _ rfl ?_
      refine w_getL (q := 1) (v := 2) rfl (by decide) (pc' := 22) rfl ⟨by decide, rfl⟩ rfl rfl (zall_at hR (by decide)) ?_
      refine w_alen (q := 2) rfl (by decide) (pc' := 23) rfl ⟨by decide, rfl⟩ rfl (by decide) ?_
      refine w_ic_ge rfl (by decide) (pc' := 26) rfl ⟨h.1, by decide⟩ (fun c3 => ?_) (fun c3 => ?_)
      · have h := h.2.1 c3
        refine zW.go 2 3 [(2, 1), (0, x1), (0, (x2 + (-8)))] [] _ rfl ?_
        exact h
      · have h := h.2.2 c3
        refine zW.go 1 27 [(2, 1), (0, x1), (0, x2)] [(2, 1)] _ rfl ?_
        refine w_getL (q := 1) (v := 2) rfl (by decide) (pc' := 30) rfl ⟨by decide, rfl⟩ rfl rfl (zall_at hR (by decide)) ?_
        refine zW.go 1 31 [(2, 1), (0, x1), (0, x2)] [(2, 1), (2, 2)] _ rfl ?_
        refine w_getI (q := 1) rfl (by decide) (pc' := 34) rfl ⟨by decide, rfl⟩ rfl (by decide) ?_
        refine zW.go 4 38 [(2, 1), (0, x1), (0, x2)] [(0, (zi2b (zshr x1 x2))), (0, (mem 1 1)), (2, 2)] _ rfl ?_
        obtain ⟨g, h⟩ := h
        obtain ⟨g2, h⟩ := h
        refine w_bast (q := 2) rfl (by decide) (pc' := 39) rfl ⟨by decide, rfl⟩ rfl g rfl rfl g2 ?_
        refine zW.go 2 41 [(2, 1), (0, x1), (0, x2)] [(2, 1), (2, 1)] _ rfl ?_
        refine w_getI (q := 1) rfl (by decide) (pc' := 44) rfl ⟨by decide, rfl⟩ rfl (by decide) ?_
        refine zW.go 2 46 [(2, 1), (0, x1), (0, x2)] [(0, ((mem 1 1) + 1)), (2, 1)] _ rfl ?_
        refine w_putI (q := 1) rfl (by decide) (pc' := 49) rfl ⟨by decide, rfl⟩ rfl (by decide) ?_
        refine zW.go 2 3 [(2, 1), (0, x1), (0, (x2 + (-8)))] [] _ rfl ?_
        exact h
set_option maxRecDepth 4000 in
theorem s_tape_add {X : zX} {d : Nat} {rf mem : zF} {Q : zF → Prop} (hR : zall rf zRK = true) {x1 : Int} (h : L_tape_add_3 X d rf Q mem x1 24) : Cv X d 124 [(2, 1), (0, x1)] rf mem Q := by
  show zW X d 124 0 [(2, 1), (0, x1), (9, 0)] [] (zty, rf, mem) (qv rf Q)
  refine zW.go 2 3 [(2, 1), (0, x1), (0, 24)] [] _ rfl ?_
  exact h
set_option maxRecDepth 4000 in
theorem s_tape_at {X : zX} {d : Nat} {rf mem : zF} {Q : Int → zF → Prop} (hR : zall rf zRK = true) {x1 : Int} (h : (inI x1) ∧ ((x1 < 0 → Q (-1) mem) ∧ (¬ x1 < 0 → (inI x1 ∧ inI (mem 1 1)) ∧ (((mem 1 1) ≤ x1 → Q (-1) mem) ∧ (¬ (mem 1 1) ≤ x1 → (inI x1) ∧ ((1600 ≤ x1 → Q (-1) mem) ∧ (¬ 1600 ≤ x1 → (0 ≤ x1 ∧ x1 < 1600) ∧ (Q (zand (mem 2 (x1).toNat) 255) mem)))))))) : Ci X d 125 [(2, 1), (0, x1)] rf mem Q := by
  show zW X d 125 0 [(2, 1), (0, x1)] [] (zty, rf, mem) (qi rf Q)
  refine zW.go 1 1 [(2, 1), (0, x1)] [(0, x1)] _ rfl ?_
  refine w_if_lt rfl (by decide) (pc' := 4) rfl h.1 (fun c1 => ?_) (fun c1 => ?_)
  · have h := h.2.1 c1
    refine zW.go 1 35 [(2, 1), (0, x1)] [(0, (-1))] _ rfl ?_
    exact w_reti rfl rfl h
  · have h := h.2.2 c1
    refine zW.go 2 6 [(2, 1), (0, x1)] [(2, 1), (0, x1)] _ rfl ?_
    refine w_getI (q := 1) rfl (by decide) (pc' := 9) rfl ⟨by decide, rfl⟩ rfl (by decide) ?_
    refine w_ic_ge rfl (by decide) (pc' := 12) rfl h.1 (fun c2 => ?_) (fun c2 => ?_)
    · have h := h.2.1 c2
      refine zW.go 1 35 [(2, 1), (0, x1)] [(0, (-1))] _ rfl ?_
      exact w_reti rfl rfl h
    · have h := h.2.2 c2
      refine zW.go 2 14 [(2, 1), (0, x1)] [(2, 1), (0, x1)] _ rfl ?_
      refine w_getL (q := 1) (v := 2) rfl (by decide) (pc' := 17) rfl ⟨by decide, rfl⟩ rfl rfl (zall_at hR (by decide)) ?_
      refine w_alen (q := 2) rfl (by decide) (pc' := 18) rfl ⟨by decide, rfl⟩ rfl (by decide) ?_
      refine w_ic_ge rfl (by decide) (pc' := 21) rfl ⟨h.1, by decide⟩ (fun c3 => ?_) (fun c3 => ?_)
      · have h := h.2.1 c3
        refine zW.go 1 35 [(2, 1), (0, x1)] [(0, (-1))] _ rfl ?_
        exact w_reti rfl rfl h
      · have h := h.2.2 c3
        refine zW.go 1 22 [(2, 1), (0, x1)] [(2, 1)] _ rfl ?_
        refine w_getL (q := 1) (v := 2) rfl (by decide) (pc' := 25) rfl ⟨by decide, rfl⟩ rfl rfl (zall_at hR (by decide)) ?_
        refine zW.go 1 26 [(2, 1), (0, x1)] [(0, x1), (2, 2)] _ rfl ?_
        obtain ⟨g, h⟩ := h
        refine w_bald (q := 2) rfl (by decide) (pc' := 27) rfl ⟨by decide, rfl⟩ rfl g rfl ?_
        refine zW.go 3 35 [(2, 1), (0, x1)] [(0, (zand (mem 2 (x1).toNat) 255))] _ rfl ?_
        exact w_reti rfl rfl h
def L_tokens_cut_26 (X : zX) (d : Nat) (rf : zF) (Q : zF → Prop) (mem : zF) (x2 : Int) (x3 : Int) (x4 : Int) : Prop := ∀ z5 : zV, ∀ z6 : zV, zW X (d + 1) 127 26 [(2, 4), (2, 1), (0, x2), (0, x3), (0, x4), z5, z6] [] (zty, rf, mem) (qv rf Q)
def L_tokens_cut_74 (X : zX) (d : Nat) (rf : zF) (Q : zF → Prop) (mem : zF) (x2 : Int) (x4 : Int) : Prop := ∀ z3 : zV, ∀ z5 : zV, ∀ z6 : zV, zW X (d + 1) 127 74 [(2, 4), (2, 1), (0, x2), z3, (0, x4), z5, z6] [] (zty, rf, mem) (qv rf Q)
set_option maxRecDepth 4000 in
theorem s_tokens_cut_26 {X : zX} {d : Nat} {rf mem : zF} {Q : zF → Prop} (hR : zall rf zRK = true) {x2 : Int} {x3 : Int} {x4 : Int} (h : (inI x4) ∧ ((1600 ≤ x4 → Cv X d 132 [(2, 4)] rf (zup mem 4 6 (-1)) (fun mem2 => Q mem2)) ∧ (¬ 1600 ≤ x4 → (inI (mem 4 7) ∧ inI (mem 4 4)) ∧ (((mem 4 4) ≤ (mem 4 7) → Cv X d 132 [(2, 4)] rf (zup mem 4 6 (-1)) (fun mem4 => Q mem4)) ∧ (¬ (mem 4 4) ≤ (mem 4 7) → (inI x2) ∧ ((x2 = (-1) → Cv X d 132 [(2, 4)] rf (zup mem 4 6 (-1)) (fun mem6 => Q mem6)) ∧ (¬ x2 = (-1) → Ci X d 125 [(2, 1), (0, (mem 4 7))] rf mem (fun r7 mem8 => (inI r7) ∧ ((r7 = 10 → L_tokens_cut_74 X d rf Q mem8 x2 x4) ∧ (¬ r7 = 10 → (inI r7) ∧ ((¬ r7 = 32 → Ci X d 128 [(2, 4), (2, 1), (0, r7), (0, x3)] rf mem8 (fun r11 mem12 => Cv X d 131 [(2, 4), (0, r11), (0, (mem8 4 7))] rf mem12 (fun mem13 => (inI r11) ∧ ((r11 < 10000 → L_tokens_cut_26 X d rf Q mem13 r11 1 (x4 + 1)) ∧ (¬ r11 < 10000 → (inI r11) ∧ ((r11 < 20000 → L_tokens_cut_26 X d rf Q mem13 r11 0 (x4 + 1)) ∧ (¬ r11 < 20000 → L_tokens_cut_26 X d rf Q mem13 r11 1 (x4 + 1)))))))) ∧ (r7 = 32 → L_tokens_cut_74 X d rf Q mem8 x2 x4)))))))))))) : L_tokens_cut_26 X d rf Q mem x2 x3 x4 := by
  intro z5 z6
  refine zW.go 2 31 [(2, 4), (2, 1), (0, x2), (0, x3), (0, x4), z5, z6] [(0, 1600), (0, x4)] _ rfl ?_
  refine w_ic_ge rfl (by decide) (pc' := 34) rfl ⟨h.1, by decide⟩ (fun c1 => ?_) (fun c1 => ?_)
  · have h := h.2.1 c1
    refine zW.go 2 139 [(2, 4), (2, 1), (0, x2), (0, x3), (0, x4), z5, z6] [(0, (-1)), (2, 4)] _ rfl ?_
    refine w_putI (q := 4) rfl (by decide) (pc' := 142) rfl ⟨by decide, rfl⟩ rfl (by decide) ?_
    refine zW.go 1 143 [(2, 4), (2, 1), (0, x2), (0, x3), (0, x4), z5, z6] [(2, 4)] _ rfl ?_
    refine w_callv (as := [(2, 4)]) [] 146 rfl rfl rfl rfl (Nat.le_of_ble_eq_true rfl) (Nat.le_of_ble_eq_true rfl) (Nat.le_of_ble_eq_true rfl) (Or.inr rfl) (Cv.imp h (fun mem2 h => ?_))
    exact w_retv rfl rfl h
  · have h := h.2.2 c1
    refine zW.go 1 35 [(2, 4), (2, 1), (0, x2), (0, x3), (0, x4), z5, z6] [(2, 4)] _ rfl ?_
    refine w_getI (q := 4) rfl (by decide) (pc' := 38) rfl ⟨by decide, rfl⟩ rfl (by decide) ?_
    refine zW.go 1 39 [(2, 4), (2, 1), (0, x2), (0, x3), (0, x4), z5, z6] [(2, 4), (0, (mem 4 7))] _ rfl ?_
    refine w_getI (q := 4) rfl (by decide) (pc' := 42) rfl ⟨by decide, rfl⟩ rfl (by decide) ?_
    refine w_ic_ge rfl (by decide) (pc' := 45) rfl h.1 (fun c3 => ?_) (fun c3 => ?_)
    · have h := h.2.1 c3
      refine zW.go 2 139 [(2, 4), (2, 1), (0, x2), (0, x3), (0, x4), z5, z6] [(0, (-1)), (2, 4)] _ rfl ?_
      refine w_putI (q := 4) rfl (by decide) (pc' := 142) rfl ⟨by decide, rfl⟩ rfl (by decide) ?_
      refine zW.go 1 143 [(2, 4), (2, 1), (0, x2), (0, x3), (0, x4), z5, z6] [(2, 4)] _ rfl ?_
      refine w_callv (as := [(2, 4)]) [] 146 rfl rfl rfl rfl (Nat.le_of_ble_eq_true rfl) (Nat.le_of_ble_eq_true rfl) (Nat.le_of_ble_eq_true rfl) (Or.inr rfl) (Cv.imp h (fun mem4 h => ?_))
      exact w_retv rfl rfl h
    · have h := h.2.2 c3
      refine zW.go 2 47 [(2, 4), (2, 1), (0, x2), (0, x3), (0, x4), z5, z6] [(0, (-1)), (0, x2)] _ rfl ?_
      refine w_ic_eq rfl (by decide) (pc' := 50) rfl ⟨h.1, by decide⟩ (fun c5 => ?_) (fun c5 => ?_)
      · have h := h.2.1 c5
        refine zW.go 2 139 [(2, 4), (2, 1), (0, x2), (0, x3), (0, x4), z5, z6] [(0, (-1)), (2, 4)] _ rfl ?_
        refine w_putI (q := 4) rfl (by decide) (pc' := 142) rfl ⟨by decide, rfl⟩ rfl (by decide) ?_
        refine zW.go 1 143 [(2, 4), (2, 1), (0, x2), (0, x3), (0, x4), z5, z6] [(2, 4)] _ rfl ?_
        refine w_callv (as := [(2, 4)]) [] 146 rfl rfl rfl rfl (Nat.le_of_ble_eq_true rfl) (Nat.le_of_ble_eq_true rfl) (Nat.le_of_ble_eq_true rfl) (Or.inr rfl) (Cv.imp h (fun mem6 h => ?_))
        exact w_retv rfl rfl h
      · have h := h.2.2 c5
        refine zW.go 2 52 [(2, 4), (2, 1), (0, x2), (0, x3), (0, x4), z5, z6] [(2, 4), (2, 1)] _ rfl ?_
        refine w_getI (q := 4) rfl (by decide) (pc' := 55) rfl ⟨by decide, rfl⟩ rfl (by decide) ?_
        refine w_calli (as := [(2, 1), (0, (mem 4 7))]) [] 58 rfl rfl rfl rfl (Nat.le_of_ble_eq_true rfl) (Nat.le_of_ble_eq_true rfl) (Nat.le_of_ble_eq_true rfl) (Or.inr rfl) (Ci.imp h (fun r7 mem8 h => ?_))
        refine zW.go 3 64 [(2, 4), (2, 1), (0, x2), (0, x3), (0, x4), (0, r7), z6] [(0, 10), (0, r7)] _ rfl ?_
        refine w_ic_eq rfl (by decide) (pc' := 67) rfl ⟨h.1, by decide⟩ (fun c9 => ?_) (fun c9 => ?_)
        · have h := h.2.1 c9
          exact h (0, x3) (0, r7) z6
        · have h := h.2.2 c9
          refine zW.go 2 71 [(2, 4), (2, 1), (0, x2), (0, x3), (0, x4), (0, r7), z6] [(0, 32), (0, r7)] _ rfl ?_
          refine w_ic_ne rfl (by decide) (pc' := 74) rfl ⟨h.1, by decide⟩ (fun c10 => ?_) (fun c10 => ?_)
          · have h := h.2.1 c10
            refine zW.go 1 90 [(2, 4), (2, 1), (0, x2), (0, x3), (0, x4), (0, r7), z6] [(2, 4)] _ rfl ?_
            refine w_getI (q := 4) rfl (by decide) (pc' := 93) rfl ⟨by decide, rfl⟩ rfl (by decide) ?_
            refine zW.go 5 100 [(2, 4), (2, 1), (0, x2), (0, x3), (0, x4), (0, r7), (0, (mem8 4 7))] [(0, x3), (0, r7), (2, 1), (2, 4)] _ rfl ?_
            refine w_calli (as := [(2, 4), (2, 1), (0, r7), (0, x3)]) [] 103 rfl rfl rfl rfl (Nat.le_of_ble_eq_true rfl) (Nat.le_of_ble_eq_true rfl) (Nat.le_of_ble_eq_true rfl) (Or.inr rfl) (Ci.imp h (fun r11 mem12 h => ?_))
            refine zW.go 4 108 [(2, 4), (2, 1), (0, r11), (0, x3), (0, x4), (0, r7), (0, (mem8 4 7))] [(0, (mem8 4 7)), (0, r11), (2, 4)] _ rfl ?_
            refine w_callv (as := [(2, 4), (0, r11), (0, (mem8 4 7))]) [] 111 rfl rfl rfl rfl (Nat.le_of_ble_eq_true rfl) (Nat.le_of_ble_eq_true rfl) (Nat.le_of_ble_eq_true rfl) (Or.inr rfl) (Cv.imp h (fun mem13 h => ?_))
            refine zW.go 2 115 [(2, 4), (2, 1), (0, r11), (0, x3), (0, x4), (0, r7), (0, (mem8 4 7))] [(0, 10000), (0, r11)] _ rfl ?_
            refine w_ic_lt rfl (by decide) (pc' := 118) rfl ⟨h.1, by decide⟩ (fun c14 => ?_) (fun c14 => ?_)
            · have h := h.2.1 c14
              refine zW.go 5 26 [(2, 4), (2, 1), (0, r11), (0, 1), (0, (x4 + 1)), (0, r7), (0, (mem8 4 7))] [] _ rfl ?_
              exact h (0, r7) (0, (mem8 4 7))
            · have h := h.2.2 c14
              refine zW.go 2 122 [(2, 4), (2, 1), (0, r11), (0, x3), (0, x4), (0, r7), (0, (mem8 4 7))] [(0, 20000), (0, r11)] _ rfl ?_
              refine w_ic_lt rfl (by decide) (pc' := 125) rfl ⟨h.1, by decide⟩ (fun c15 => ?_) (fun c15 => ?_)
              · have h := h.2.1 c15
                refine zW.go 4 26 [(2, 4), (2, 1), (0, r11), (0, 0), (0, (x4 + 1)), (0, r7), (0, (mem8 4 7))] [] _ rfl ?_
                exact h (0, r7) (0, (mem8 4 7))
              · have h := h.2.2 c15
                refine zW.go 5 26 [(2, 4), (2, 1), (0, r11), (0, 1), (0, (x4 + 1)), (0, r7), (0, (mem8 4 7))] [] _ rfl ?_
                exact h (0, r7) (0, (mem8 4 7))
          · have h := h.2.2 c10
            exact h (0, x3) (0, r7) z6
set_option maxRecDepth 4000 in
theorem s_tokens_cut_74 {X : zX} {d : Nat} {rf mem : zF} {Q : zF → Prop} (hR : zall rf zRK = true) {x2 : Int} {x4 : Int} (h : L_tokens_cut_26 X d rf Q (zup mem 4 7 ((mem 4 7) + 1)) x2 0 (x4 + 1)) : L_tokens_cut_74 X d rf Q mem x2 x4 := by
  intro z3 z5 z6
  refine zW.go 2 76 [(2, 4), (2, 1), (0, x2), z3, (0, x4), z5, z6] [(2, 4), (2, 4)] _ rfl ?_
  refine w_getI (q := 4) rfl (by decide) (pc' := 79) rfl ⟨by decide, rfl⟩ rfl (by decide) ?_
  refine zW.go 2 81 [(2, 4), (2, 1), (0, x2), z3, (0, x4), z5, z6] [(0, ((mem 4 7) + 1)), (2, 4)] _ rfl ?_
  refine w_putI (q := 4) rfl (by decide) (pc' := 84) rfl ⟨by decide, rfl⟩ rfl (by decide) ?_
  refine zW.go 5 26 [(2, 4), (2, 1), (0, x2), (0, 0), (0, (x4 + 1)), z5, z6] [] _ rfl ?_
  exact h z5 z6
set_option maxRecDepth 4000 in
theorem s_tokens_cut {X : zX} {d : Nat} {rf mem : zF} {Q : zF → Prop} (hR : zall rf zRK = true) (h : L_tokens_cut_26 X d rf Q (zup (zup (zup mem 4 3 0) 4 4 (mem 1 1)) 4 7 0) (-2) 0 0) : Cv X (d + 1) 127 [(2, 4), (2, 1)] rf mem Q := by
  show zW X (d + 1) 127 0 [(2, 4), (2, 1), (9, 0), (9, 0), (9, 0), (9, 0), (9, 0)] [] (zty, rf, mem) (qv rf Q)
  refine zW.go 2 2 [(2, 4), (2, 1), (9, 0), (9, 0), (9, 0), (9, 0), (9, 0)] [(0, 0), (2, 4)] _ rfl ?_
  refine w_putI (q := 4) rfl (by decide) (pc' := 5) rfl ⟨by decide, rfl⟩ rfl (by decide) ?_
  refine zW.go 2 7 [(2, 4), (2, 1), (9, 0), (9, 0), (9, 0), (9, 0), (9, 0)] [(2, 1), (2, 4)] _ rfl ?_
  refine w_getI (q := 1) rfl (by decide) (pc' := 10) rfl ⟨by decide, rfl⟩ rfl (by decide) ?_
  refine w_putI (q := 4) rfl (by decide) (pc' := 13) rfl ⟨by decide, rfl⟩ rfl (by decide) ?_
  refine zW.go 2 15 [(2, 4), (2, 1), (9, 0), (9, 0), (9, 0), (9, 0), (9, 0)] [(0, 0), (2, 4)] _ rfl ?_
  refine w_putI (q := 4) rfl (by decide) (pc' := 18) rfl ⟨by decide, rfl⟩ rfl (by decide) ?_
  refine zW.go 6 26 [(2, 4), (2, 1), (0, (-2)), (0, 0), (0, 0), (9, 0), (9, 0)] [] _ rfl ?_
  exact h (9, 0) (9, 0)
def L_tokens_cutOne_32 (X : zX) (d : Nat) (rf : zF) (Q : Int → zF → Prop) (mem : zF) (x2 : Int) (x4 : Int) : Prop := ∀ z3 : zV, zW X (d + 1) 128 32 [(2, 4), (2, 1), (0, x2), z3, (0, x4)] [] (zty, rf, mem) (qi rf Q)
set_option maxRecDepth 4000 in
theorem s_tokens_cutOne_32 {X : zX} {d : Nat} {rf mem : zF} {Q : Int → zF → Prop} (hR : zall rf zRK = true) {x2 : Int} {x4 : Int} (h : (inI x4) ∧ ((x4 = 0 → Ci X d 139 [(0, x2)] rf mem (fun r9 mem10 => (inI r9) ∧ ((r9 = 0 → Q (10000 + x2) (zup mem10 4 7 ((mem10 4 7) + 1))) ∧ (¬ r9 = 0 → Ci X d 130 [(2, 4), (2, 1)] rf mem10 (fun r12 mem13 => Q r12 mem13))))) ∧ (¬ x4 = 0 → Ci X d 129 [(2, 4), (2, 1)] rf mem (fun r14 mem15 => Q r14 mem15)))) : L_tokens_cutOne_32 X d rf Q mem x2 x4 := by
  intro z3
  refine zW.go 1 34 [(2, 4), (2, 1), (0, x2), z3, (0, x4)] [(0, x4)] _ rfl ?_
  refine w_if_eq rfl (by decide) (pc' := 37) rfl h.1 (fun c8 => ?_) (fun c8 => ?_)
  · have h := h.2.1 c8
    refine zW.go 1 44 [(2, 4), (2, 1), (0, x2), z3, (0, x4)] [(0, x2)] _ rfl ?_
    refine w_calli (as := [(0, x2)]) [] 47 rfl rfl rfl rfl (Nat.le_of_ble_eq_true rfl) (Nat.le_of_ble_eq_true rfl) (Nat.le_of_ble_eq_true rfl) (Or.inl rfl) (Ci.imp h (fun r9 mem10 h => ?_))
    refine w_if_eq rfl (by decide) (pc' := 50) rfl h.1 (fun c11 => ?_) (fun c11 => ?_)
    · have h := h.2.1 c11
      refine zW.go 2 58 [(2, 4), (2, 1), (0, x2), z3, (0, x4)] [(2, 4), (2, 4)] _ rfl ?_
      refine w_getI (q := 4) rfl (by decide) (pc' := 61) rfl ⟨by decide, rfl⟩ rfl (by decide) ?_
      refine zW.go 2 63 [(2, 4), (2, 1), (0, x2), z3, (0, x4)] [(0, ((mem10 4 7) + 1)), (2, 4)] _ rfl ?_
      refine w_putI (q := 4) rfl (by decide) (pc' := 66) rfl ⟨by decide, rfl⟩ rfl (by decide) ?_
      refine zW.go 3 71 [(2, 4), (2, 1), (0, x2), z3, (0, x4)] [(0, (10000 + x2))] _ rfl ?_
      exact w_reti rfl rfl h
    · have h := h.2.2 c11
      refine zW.go 2 52 [(2, 4), (2, 1), (0, x2), z3, (0, x4)] [(2, 1), (2, 4)] _ rfl ?_
      refine w_calli (as := [(2, 4), (2, 1)]) [] 55 rfl rfl rfl rfl (Nat.le_of_ble_eq_true rfl) (Nat.le_of_ble_eq_true rfl) (Nat.le_of_ble_eq_true rfl) (Or.inr rfl) (Ci.imp h (fun r12 mem13 h => ?_))
      exact w_reti rfl rfl h
  · have h := h.2.2 c8
    refine zW.go 2 39 [(2, 4), (2, 1), (0, x2), z3, (0, x4)] [(2, 1), (2, 4)] _ rfl ?_
    refine w_calli (as := [(2, 4), (2, 1)]) [] 42 rfl rfl rfl rfl (Nat.le_of_ble_eq_true rfl) (Nat.le_of_ble_eq_true rfl) (Nat.le_of_ble_eq_true rfl) (Or.inr rfl) (Ci.imp h (fun r14 mem15 h => ?_))
    exact w_reti rfl rfl h
set_option maxRecDepth 4000 in
theorem s_tokens_cutOne {X : zX} {d : Nat} {rf mem : zF} {Q : Int → zF → Prop} (hR : zall rf zRK = true) {x2 : Int} {x3 : Int} (h : Ci X d 138 [(0, x2)] rf mem (fun r1 mem2 => (inI x3) ∧ ((x3 = 0 → L_tokens_cutOne_32 X d rf Q mem2 x2 r1) ∧ (¬ x3 = 0 → (inI r1) ∧ ((¬ r1 = 0 → Q (-1) (zup mem2 4 5 (mem2 4 7))) ∧ (r1 = 0 → Ci X d 139 [(0, x2)] rf mem2 (fun r5 mem6 => (inI r5) ∧ ((r5 = 0 → L_tokens_cutOne_32 X d rf Q mem6 x2 r1) ∧ (¬ r5 = 0 → Q (-1) (zup mem6 4 5 (mem6 4 7))))))))))) : Ci X (d + 1) 128 [(2, 4), (2, 1), (0, x2), (0, x3)] rf mem Q := by
  show zW X (d + 1) 128 0 [(2, 4), (2, 1), (0, x2), (0, x3), (9, 0)] [] (zty, rf, mem) (qi rf Q)
  refine zW.go 1 1 [(2, 4), (2, 1), (0, x2), (0, x3), (9, 0)] [(0, x2)] _ rfl ?_
  refine w_calli (as := [(0, x2)]) [] 4 rfl rfl rfl rfl (Nat.le_of_ble_eq_true rfl) (Nat.le_of_ble_eq_true rfl) (Nat.le_of_ble_eq_true rfl) (Or.inl rfl) (Ci.imp h (fun r1 mem2 h => ?_))
  refine zW.go 2 7 [(2, 4), (2, 1), (0, x2), (0, x3), (0, r1)] [(0, x3)] _ rfl ?_
  refine w_if_eq rfl (by decide) (pc' := 10) rfl h.1 (fun c3 => ?_) (fun c3 => ?_)
  · have h := h.2.1 c3
    exact h (0, x3)
  · have h := h.2.2 c3
    refine zW.go 1 12 [(2, 4), (2, 1), (0, x2), (0, x3), (0, r1)] [(0, r1)] _ rfl ?_
    refine w_if_ne rfl (by decide) (pc' := 15) rfl h.1 (fun c4 => ?_) (fun c4 => ?_)
    · have h := h.2.1 c4
      refine zW.go 2 24 [(2, 4), (2, 1), (0, x2), (0, x3), (0, r1)] [(2, 4), (2, 4)] _ rfl ?_
      refine w_getI (q := 4) rfl (by decide) (pc' := 27) rfl ⟨by decide, rfl⟩ rfl (by decide) ?_
      refine w_putI (q := 4) rfl (by decide) (pc' := 30) rfl ⟨by decide, rfl⟩ rfl (by decide) ?_
      refine zW.go 1 31 [(2, 4), (2, 1), (0, x2), (0, x3), (0, r1)] [(0, (-1))] _ rfl ?_
      exact w_reti rfl rfl h
    · have h := h.2.2 c4
      refine zW.go 1 16 [(2, 4), (2, 1), (0, x2), (0, x3), (0, r1)] [(0, x2)] _ rfl ?_
      refine w_calli (as := [(0, x2)]) [] 19 rfl rfl rfl rfl (Nat.le_of_ble_eq_true rfl) (Nat.le_of_ble_eq_true rfl) (Nat.le_of_ble_eq_true rfl) (Or.inl rfl) (Ci.imp h (fun r5 mem6 h => ?_))
      refine w_if_eq rfl (by decide) (pc' := 22) rfl h.1 (fun c7 => ?_) (fun c7 => ?_)
      · have h := h.2.1 c7
        exact h (0, x3)
      · have h := h.2.2 c7
        refine zW.go 2 24 [(2, 4), (2, 1), (0, x2), (0, x3), (0, r1)] [(2, 4), (2, 4)] _ rfl ?_
        refine w_getI (q := 4) rfl (by decide) (pc' := 27) rfl ⟨by decide, rfl⟩ rfl (by decide) ?_
        refine w_putI (q := 4) rfl (by decide) (pc' := 30) rfl ⟨by decide, rfl⟩ rfl (by decide) ?_
        refine zW.go 1 31 [(2, 4), (2, 1), (0, x2), (0, x3), (0, r1)] [(0, (-1))] _ rfl ?_
        exact w_reti rfl rfl h
def L_tokens_cutWord_4 (X : zX) (d : Nat) (rf : zF) (Q : Int → zF → Prop) (mem : zF) (x2 : Int) (x3 : Int) : Prop := zW X (d + 1) 129 4 [(2, 4), (2, 1), (0, x2), (0, x3)] [] (zty, rf, mem) (qi rf Q)
def L_tokens_cutWord_55 (X : zX) (d : Nat) (rf : zF) (Q : Int → zF → Prop) (mem : zF) (x2 : Int) : Prop := ∀ z3 : zV, zW X (d + 1) 129 55 [(2, 4), (2, 1), (0, x2), z3] [] (zty, rf, mem) (qi rf Q)
def L_tokens_cutWord_81 (X : zX) (d : Nat) (rf : zF) (Q : Int → zF → Prop) (mem : zF) (x2 : Int) (x3 : Int) : Prop := ∀ z1 : zV, zW X (d + 1) 129 81 [(2, 4), z1, (0, x2), (0, x3)] [] (zty, rf, mem) (qi rf Q)
set_option maxRecDepth 4000 in
theorem s_tokens_cutWord_4 {X : zX} {d : Nat} {rf mem : zF} {Q : Int → zF → Prop} (hR : zall rf zRK = true) {x2 : Int} {x3 : Int} (h : (inI x3) ∧ ((6 ≤ x3 → L_tokens_cutWord_55 X d rf Q mem x2) ∧ (¬ 6 ≤ x3 → Ci X d 125 [(2, 1), (0, (mem 4 7))] rf mem (fun r2 mem3 => Ci X d 138 [(0, r2)] rf mem3 (fun r4 mem5 => (inI r4) ∧ ((r4 = 0 → L_tokens_cutWord_55 X d rf Q mem5 x2) ∧ (¬ r4 = 0 → Ci X d 125 [(2, 1), (0, (mem5 4 7))] rf mem5 (fun r7 mem8 => Ci X d 137 [(0, r7), (0, x3)] rf mem8 (fun r9 mem10 => L_tokens_cutWord_4 X d rf Q (zup mem10 4 7 ((mem10 4 7) + 1)) (zor x2 r9) (x3 + 1)))))))))) : L_tokens_cutWord_4 X d rf Q mem x2 x3 := by
  refine zW.go 2 7 [(2, 4), (2, 1), (0, x2), (0, x3)] [(0, 6), (0, x3)] _ rfl ?_
  refine w_ic_ge rfl (by decide) (pc' := 10) rfl ⟨h.1, by decide⟩ (fun c1 => ?_) (fun c1 => ?_)
  · have h := h.2.1 c1
    exact h (0, x3)
  · have h := h.2.2 c1
    refine zW.go 2 12 [(2, 4), (2, 1), (0, x2), (0, x3)] [(2, 4), (2, 1)] _ rfl ?_
    refine w_getI (q := 4) rfl (by decide) (pc' := 15) rfl ⟨by decide, rfl⟩ rfl (by decide) ?_
    refine w_calli (as := [(2, 1), (0, (mem 4 7))]) [] 18 rfl rfl rfl rfl (Nat.le_of_ble_eq_true rfl) (Nat.le_of_ble_eq_true rfl) (Nat.le_of_ble_eq_true rfl) (Or.inr rfl) (Ci.imp h (fun r2 mem3 h => ?_))
    refine w_calli (as := [(0, r2)]) [] 21 rfl rfl rfl rfl (Nat.le_of_ble_eq_true rfl) (Nat.le_of_ble_eq_true rfl) (Nat.le_of_ble_eq_true rfl) (Or.inl rfl) (Ci.imp h (fun r4 mem5 h => ?_))
    refine w_if_eq rfl (by decide) (pc' := 24) rfl h.1 (fun c6 => ?_) (fun c6 => ?_)
    · have h := h.2.1 c6
      exact h (0, x3)
    · have h := h.2.2 c6
      refine zW.go 3 27 [(2, 4), (2, 1), (0, x2), (0, x3)] [(2, 4), (2, 1), (0, x2)] _ rfl ?_
      refine w_getI (q := 4) rfl (by decide) (pc' := 30) rfl ⟨by decide, rfl⟩ rfl (by decide) ?_
      refine w_calli (as := [(2, 1), (0, (mem5 4 7))]) [(0, x2)] 33 rfl rfl rfl rfl (Nat.le_of_ble_eq_true rfl) (Nat.le_of_ble_eq_true rfl) (Nat.le_of_ble_eq_true rfl) (Or.inr rfl) (Ci.imp h (fun r7 mem8 h => ?_))
      refine zW.go 1 34 [(2, 4), (2, 1), (0, x2), (0, x3)] [(0, x3), (0, r7), (0, x2)] _ rfl ?_
      refine w_calli (as := [(0, r7), (0, x3)]) [(0, x2)] 37 rfl rfl rfl rfl (Nat.le_of_ble_eq_true rfl) (Nat.le_of_ble_eq_true rfl) (Nat.le_of_ble_eq_true rfl) (Or.inl rfl) (Ci.imp h (fun r9 mem10 h => ?_))
      refine zW.go 4 41 [(2, 4), (2, 1), (0, (zor x2 r9)), (0, x3)] [(2, 4), (2, 4)] _ rfl ?_
      refine w_getI (q := 4) rfl (by decide) (pc' := 44) rfl ⟨by decide, rfl⟩ rfl (by decide) ?_
      refine zW.go 2 46 [(2, 4), (2, 1), (0, (zor x2 r9)), (0, x3)] [(0, ((mem10 4 7) + 1)), (2, 4)] _ rfl ?_
      refine w_putI (q := 4) rfl (by decide) (pc' := 49) rfl ⟨by decide, rfl⟩ rfl (by decide) ?_
      refine zW.go 2 4 [(2, 4), (2, 1), (0, (zor x2 r9)), (0, (x3 + 1))] [] _ rfl ?_
      exact h
set_option maxRecDepth 4000 in
theorem s_tokens_cutWord_55 {X : zX} {d : Nat} {rf mem : zF} {Q : Int → zF → Prop} (hR : zall rf zRK = true) {x2 : Int} (h : Ci X d 125 [(2, 1), (0, (mem 4 7))] rf mem (fun r11 mem12 => Ci X d 138 [(0, r11)] rf mem12 (fun r13 mem14 => (inI r13) ∧ ((r13 = 0 → L_tokens_cutWord_81 X d rf Q mem14 x2 0) ∧ (¬ r13 = 0 → Q (-1) (zup mem14 4 5 (mem14 4 7))))))) : L_tokens_cutWord_55 X d rf Q mem x2 := by
  intro z3
  refine zW.go 2 57 [(2, 4), (2, 1), (0, x2), z3] [(2, 4), (2, 1)] _ rfl ?_
  refine w_getI (q := 4) rfl (by decide) (pc' := 60) rfl ⟨by decide, rfl⟩ rfl (by decide) ?_
  refine w_calli (as := [(2, 1), (0, (mem 4 7))]) [] 63 rfl rfl rfl rfl (Nat.le_of_ble_eq_true rfl) (Nat.le_of_ble_eq_true rfl) (Nat.le_of_ble_eq_true rfl) (Or.inr rfl) (Ci.imp h (fun r11 mem12 h => ?_))
  refine w_calli (as := [(0, r11)]) [] 66 rfl rfl rfl rfl (Nat.le_of_ble_eq_true rfl) (Nat.le_of_ble_eq_true rfl) (Nat.le_of_ble_eq_true rfl) (Or.inl rfl) (Ci.imp h (fun r13 mem14 h => ?_))
  refine w_if_eq rfl (by decide) (pc' := 69) rfl h.1 (fun c15 => ?_) (fun c15 => ?_)
  · have h := h.2.1 c15
    refine zW.go 2 81 [(2, 4), (2, 1), (0, x2), (0, 0)] [] _ rfl ?_
    exact h (2, 1)
  · have h := h.2.2 c15
    refine zW.go 2 71 [(2, 4), (2, 1), (0, x2), z3] [(2, 4), (2, 4)] _ rfl ?_
    refine w_getI (q := 4) rfl (by decide) (pc' := 74) rfl ⟨by decide, rfl⟩ rfl (by decide) ?_
    refine w_putI (q := 4) rfl (by decide) (pc' := 77) rfl ⟨by decide, rfl⟩ rfl (by decide) ?_
    refine zW.go 1 78 [(2, 4), (2, 1), (0, x2), z3] [(0, (-1))] _ rfl ?_
    exact w_reti rfl rfl h
set_option maxRecDepth 4000 in
theorem s_tokens_cutWord_81 {X : zX} {d : Nat} {rf mem : zF} {Q : Int → zF → Prop} (hR : zall rf zRK = true) {x2 : Int} {x3 : Int} (h : (inI x3) ∧ ((27 ≤ x3 → Q (1073741824 + x2) mem) ∧ (¬ 27 ≤ x3 → (0 ≤ x3 ∧ x3 < 27) ∧ ((inI (mem 5 (x3).toNat) ∧ inI x2) ∧ ((¬ (mem 5 (x3).toNat) = x2 → L_tokens_cutWord_81 X d rf Q mem x2 (x3 + 1)) ∧ ((mem 5 (x3).toNat) = x2 → Q (20000 + x3) mem)))))) : L_tokens_cutWord_81 X d rf Q mem x2 x3 := by
  intro z1
  refine zW.go 2 84 [(2, 4), z1, (0, x2), (0, x3)] [(0, 27), (0, x3)] _ rfl ?_
  refine w_ic_ge rfl (by decide) (pc' := 87) rfl ⟨h.1, by decide⟩ (fun c16 => ?_) (fun c16 => ?_)
  · have h := h.2.1 c16
    refine zW.go 3 113 [(2, 4), z1, (0, x2), (0, x3)] [(0, (1073741824 + x2))] _ rfl ?_
    exact w_reti rfl rfl h
  · have h := h.2.2 c16
    refine zW.go 1 88 [(2, 4), z1, (0, x2), (0, x3)] [(2, 4)] _ rfl ?_
    refine w_getL (q := 4) (v := 5) rfl (by decide) (pc' := 91) rfl ⟨by decide, rfl⟩ rfl rfl (zall_at hR (by decide)) ?_
    refine zW.go 1 92 [(2, 4), z1, (0, x2), (0, x3)] [(0, x3), (2, 5)] _ rfl ?_
    obtain ⟨g, h⟩ := h
    refine w_iald (q := 5) rfl (by decide) (pc' := 93) rfl ⟨by decide, rfl⟩ rfl g rfl ?_
    refine zW.go 1 94 [(2, 4), z1, (0, x2), (0, x3)] [(0, x2), (0, (mem 5 (x3).toNat))] _ rfl ?_
    refine w_ic_ne rfl (by decide) (pc' := 97) rfl h.1 (fun c17 => ?_) (fun c17 => ?_)
    · have h := h.2.1 c17
      refine zW.go 2 81 [(2, 4), z1, (0, x2), (0, (x3 + 1))] [] _ rfl ?_
      exact h z1
    · have h := h.2.2 c17
      refine zW.go 3 102 [(2, 4), z1, (0, x2), (0, x3)] [(0, (20000 + x3))] _ rfl ?_
      exact w_reti rfl rfl h
set_option maxRecDepth 4000 in
theorem s_tokens_cutWord {X : zX} {d : Nat} {rf mem : zF} {Q : Int → zF → Prop} (hR : zall rf zRK = true) (h : L_tokens_cutWord_4 X d rf Q mem 0 0) : Ci X (d + 1) 129 [(2, 4), (2, 1)] rf mem Q := by
  show zW X (d + 1) 129 0 [(2, 4), (2, 1), (9, 0), (9, 0)] [] (zty, rf, mem) (qi rf Q)
  refine zW.go 4 4 [(2, 4), (2, 1), (0, 0), (0, 0)] [] _ rfl ?_
  exact h
def L_tokens_cutNumber_4 (X : zX) (d : Nat) (rf : zF) (Q : Int → zF → Prop) (mem : zF) (x2 : Int) (x3 : Int) : Prop := zW X (d + 1) 130 4 [(2, 4), (2, 1), (0, x2), (0, x3)] [] (zty, rf, mem) (qi rf Q)
def L_tokens_cutNumber_56 (X : zX) (d : Nat) (rf : zF) (Q : Int → zF → Prop) (mem : zF) (x2 : Int) : Prop := ∀ z3 : zV, zW X (d + 1) 130 56 [(2, 4), (2, 1), (0, x2), z3] [] (zty, rf, mem) (qi rf Q)
set_option maxRecDepth 4000 in
theorem s_tokens_cutNumber_4 {X : zX} {d : Nat} {rf mem : zF} {Q : Int → zF → Prop} (hR : zall rf zRK = true) {x2 : Int} {x3 : Int} (h : (inI x3) ∧ ((4 ≤ x3 → L_tokens_cutNumber_56 X d rf Q mem x2) ∧ (¬ 4 ≤ x3 → Ci X d 125 [(2, 1), (0, (mem 4 7))] rf mem (fun r2 mem3 => Ci X d 139 [(0, r2)] rf mem3 (fun r4 mem5 => (inI r4) ∧ ((r4 = 0 → L_tokens_cutNumber_56 X d rf Q mem5 x2) ∧ (¬ r4 = 0 → Ci X d 125 [(2, 1), (0, (mem5 4 7))] rf mem5 (fun r7 mem8 => L_tokens_cutNumber_4 X d rf Q (zup mem8 4 7 ((mem8 4 7) + 1)) (((10 * x2) + r7) - 48) (x3 + 1))))))))) : L_tokens_cutNumber_4 X d rf Q mem x2 x3 := by
  refine zW.go 2 6 [(2, 4), (2, 1), (0, x2), (0, x3)] [(0, 4), (0, x3)] _ rfl ?_
  refine w_ic_ge rfl (by decide) (pc' := 9) rfl ⟨h.1, by decide⟩ (fun c1 => ?_) (fun c1 => ?_)
  · have h := h.2.1 c1
    exact h (0, x3)
  · have h := h.2.2 c1
    refine zW.go 2 11 [(2, 4), (2, 1), (0, x2), (0, x3)] [(2, 4), (2, 1)] _ rfl ?_
    refine w_getI (q := 4) rfl (by decide) (pc' := 14) rfl ⟨by decide, rfl⟩ rfl (by decide) ?_
    refine w_calli (as := [(2, 1), (0, (mem 4 7))]) [] 17 rfl rfl rfl rfl (Nat.le_of_ble_eq_true rfl) (Nat.le_of_ble_eq_true rfl) (Nat.le_of_ble_eq_true rfl) (Or.inr rfl) (Ci.imp h (fun r2 mem3 h => ?_))
    refine w_calli (as := [(0, r2)]) [] 20 rfl rfl rfl rfl (Nat.le_of_ble_eq_true rfl) (Nat.le_of_ble_eq_true rfl) (Nat.le_of_ble_eq_true rfl) (Or.inl rfl) (Ci.imp h (fun r4 mem5 h => ?_))
    refine w_if_eq rfl (by decide) (pc' := 23) rfl h.1 (fun c6 => ?_) (fun c6 => ?_)
    · have h := h.2.1 c6
      exact h (0, x3)
    · have h := h.2.2 c6
      refine zW.go 5 29 [(2, 4), (2, 1), (0, x2), (0, x3)] [(2, 4), (2, 1), (0, (10 * x2))] _ rfl ?_
      refine w_getI (q := 4) rfl (by decide) (pc' := 32) rfl ⟨by decide, rfl⟩ rfl (by decide) ?_
      refine w_calli (as := [(2, 1), (0, (mem5 4 7))]) [(0, (10 * x2))] 35 rfl rfl rfl rfl (Nat.le_of_ble_eq_true rfl) (Nat.le_of_ble_eq_true rfl) (Nat.le_of_ble_eq_true rfl) (Or.inr rfl) (Ci.imp h (fun r7 mem8 h => ?_))
      refine zW.go 6 42 [(2, 4), (2, 1), (0, (((10 * x2) + r7) - 48)), (0, x3)] [(2, 4), (2, 4)] _ rfl ?_
      refine w_getI (q := 4) rfl (by decide) (pc' := 45) rfl ⟨by decide, rfl⟩ rfl (by decide) ?_
      refine zW.go 2 47 [(2, 4), (2, 1), (0, (((10 * x2) + r7) - 48)), (0, x3)] [(0, ((mem8 4 7) + 1)), (2, 4)] _ rfl ?_
      refine w_putI (q := 4) rfl (by decide) (pc' := 50) rfl ⟨by decide, rfl⟩ rfl (by decide) ?_
      refine zW.go 2 4 [(2, 4), (2, 1), (0, (((10 * x2) + r7) - 48)), (0, (x3 + 1))] [] _ rfl ?_
      exact h
set_option maxRecDepth 4000 in
theorem s_tokens_cutNumber_56 {X : zX} {d : Nat} {rf mem : zF} {Q : Int → zF → Prop} (hR : zall rf zRK = true) {x2 : Int} (h : Ci X d 125 [(2, 1), (0, (mem 4 7))] rf mem (fun r9 mem10 => Ci X d 139 [(0, r9)] rf mem10 (fun r11 mem12 => (inI r11) ∧ ((r11 = 0 → Q x2 mem12) ∧ (¬ r11 = 0 → Q (-1) (zup mem12 4 5 (mem12 4 7))))))) : L_tokens_cutNumber_56 X d rf Q mem x2 := by
  intro z3
  refine zW.go 2 58 [(2, 4), (2, 1), (0, x2), z3] [(2, 4), (2, 1)] _ rfl ?_
  refine w_getI (q := 4) rfl (by decide) (pc' := 61) rfl ⟨by decide, rfl⟩ rfl (by decide) ?_
  refine w_calli (as := [(2, 1), (0, (mem 4 7))]) [] 64 rfl rfl rfl rfl (Nat.le_of_ble_eq_true rfl) (Nat.le_of_ble_eq_true rfl) (Nat.le_of_ble_eq_true rfl) (Or.inr rfl) (Ci.imp h (fun r9 mem10 h => ?_))
  refine w_calli (as := [(0, r9)]) [] 67 rfl rfl rfl rfl (Nat.le_of_ble_eq_true rfl) (Nat.le_of_ble_eq_true rfl) (Nat.le_of_ble_eq_true rfl) (Or.inl rfl) (Ci.imp h (fun r11 mem12 h => ?_))
  refine w_if_eq rfl (by decide) (pc' := 70) rfl h.1 (fun c13 => ?_) (fun c13 => ?_)
  · have h := h.2.1 c13
    refine zW.go 1 81 [(2, 4), (2, 1), (0, x2), z3] [(0, x2)] _ rfl ?_
    exact w_reti rfl rfl h
  · have h := h.2.2 c13
    refine zW.go 2 72 [(2, 4), (2, 1), (0, x2), z3] [(2, 4), (2, 4)] _ rfl ?_
    refine w_getI (q := 4) rfl (by decide) (pc' := 75) rfl ⟨by decide, rfl⟩ rfl (by decide) ?_
    refine w_putI (q := 4) rfl (by decide) (pc' := 78) rfl ⟨by decide, rfl⟩ rfl (by decide) ?_
    refine zW.go 1 79 [(2, 4), (2, 1), (0, x2), z3] [(0, (-1))] _ rfl ?_
    exact w_reti rfl rfl h
set_option maxRecDepth 4000 in
theorem s_tokens_cutNumber {X : zX} {d : Nat} {rf mem : zF} {Q : Int → zF → Prop} (hR : zall rf zRK = true) (h : L_tokens_cutNumber_4 X d rf Q mem 0 0) : Ci X (d + 1) 130 [(2, 4), (2, 1)] rf mem Q := by
  show zW X (d + 1) 130 0 [(2, 4), (2, 1), (9, 0), (9, 0)] [] (zty, rf, mem) (qi rf Q)
  refine zW.go 4 4 [(2, 4), (2, 1), (0, 0), (0, 0)] [] _ rfl ?_
  exact h
set_option maxRecDepth 4000 in
theorem s_tokens_keepToken {X : zX} {d : Nat} {rf mem : zF} {Q : zF → Prop} (hR : zall rf zRK = true) {x1 : Int} {x2 : Int} (h : (inI (mem 4 3)) ∧ (((mem 4 3) < 0 → Q mem) ∧ (¬ (mem 4 3) < 0 → (inI (mem 4 3)) ∧ ((1600 ≤ (mem 4 3) → Q mem) ∧ (¬ 1600 ≤ (mem 4 3) → (0 ≤ (mem 4 3) ∧ (mem 4 3) < 1600) ∧ ((0 ≤ (mem 4 3) ∧ (mem 4 3) < 1600) ∧ (Q (zup (zup (zup mem 6 ((mem 4 3)).toNat x1) 7 ((mem 4 3)).toNat x2) 4 3 ((mem 4 3) + 1))))))))) : Cv X d 131 [(2, 4), (0, x1), (0, x2)] rf mem Q := by
  show zW X d 131 0 [(2, 4), (0, x1), (0, x2)] [] (zty, rf, mem) (qv rf Q)
  refine zW.go 1 1 [(2, 4), (0, x1), (0, x2)] [(2, 4)] _ rfl ?_
  refine w_getI (q := 4) rfl (by decide) (pc' := 4) rfl ⟨by decide, rfl⟩ rfl (by decide) ?_
  refine w_if_lt rfl (by decide) (pc' := 7) rfl h.1 (fun c1 => ?_) (fun c1 => ?_)
  · have h := h.2.1 c1
    exact w_retv rfl rfl h
  · have h := h.2.2 c1
    refine zW.go 1 8 [(2, 4), (0, x1), (0, x2)] [(2, 4)] _ rfl ?_
    refine w_getI (q := 4) rfl (by decide) (pc' := 11) rfl ⟨by decide, rfl⟩ rfl (by decide) ?_
    refine zW.go 1 12 [(2, 4), (0, x1), (0, x2)] [(2, 4), (0, (mem 4 3))] _ rfl ?_
    refine w_getL (q := 4) (v := 6) rfl (by decide) (pc' := 15) rfl ⟨by decide, rfl⟩ rfl rfl (zall_at hR (by decide)) ?_
    refine w_alen (q := 6) rfl (by decide) (pc' := 16) rfl ⟨by decide, rfl⟩ rfl (by decide) ?_
    refine w_ic_ge rfl (by decide) (pc' := 19) rfl ⟨h.1, by decide⟩ (fun c2 => ?_) (fun c2 => ?_)
    · have h := h.2.1 c2
      exact w_retv rfl rfl h
    · have h := h.2.2 c2
      refine zW.go 1 20 [(2, 4), (0, x1), (0, x2)] [(2, 4)] _ rfl ?_
      refine w_getL (q := 4) (v := 6) rfl (by decide) (pc' := 23) rfl ⟨by decide, rfl⟩ rfl rfl (zall_at hR (by decide)) ?_
      refine zW.go 1 24 [(2, 4), (0, x1), (0, x2)] [(2, 4), (2, 6)] _ rfl ?_
      refine w_getI (q := 4) rfl (by decide) (pc' := 27) rfl ⟨by decide, rfl⟩ rfl (by decide) ?_
      refine zW.go 1 28 [(2, 4), (0, x1), (0, x2)] [(0, x1), (0, (mem 4 3)), (2, 6)] _ rfl ?_
      obtain ⟨g, h⟩ := h
      refine w_iast (q := 6) rfl (by decide) (pc' := 29) rfl ⟨by decide, rfl⟩ rfl g rfl ?_
      refine zW.go 1 30 [(2, 4), (0, x1), (0, x2)] [(2, 4)] _ rfl ?_
      refine w_getL (q := 4) (v := 7) rfl (by decide) (pc' := 33) rfl ⟨by decide, rfl⟩ rfl rfl (zall_at hR (by decide)) ?_
      refine zW.go 1 34 [(2, 4), (0, x1), (0, x2)] [(2, 4), (2, 7)] _ rfl ?_
      refine w_getI (q := 4) rfl (by decide) (pc' := 37) rfl ⟨by decide, rfl⟩ rfl (by decide) ?_
      refine zW.go 1 38 [(2, 4), (0, x1), (0, x2)] [(0, x2), (0, (mem 4 3)), (2, 7)] _ rfl ?_
      obtain ⟨g, h⟩ := h
      refine w_iast (q := 7) rfl (by decide) (pc' := 39) rfl ⟨by decide, rfl⟩ rfl g rfl ?_
      refine zW.go 2 41 [(2, 4), (0, x1), (0, x2)] [(2, 4), (2, 4)] _ rfl ?_
      refine w_getI (q := 4) rfl (by decide) (pc' := 44) rfl ⟨by decide, rfl⟩ rfl (by decide) ?_
      refine zW.go 2 46 [(2, 4), (0, x1), (0, x2)] [(0, ((mem 4 3) + 1)), (2, 4)] _ rfl ?_
      refine w_putI (q := 4) rfl (by decide) (pc' := 49) rfl ⟨by decide, rfl⟩ rfl (by decide) ?_
      exact w_retv rfl rfl h
def L_tokens_next_21 (X : zX) (d : Nat) (rf : zF) (Q : zF → Prop) (mem : zF) : Prop := ∀ z1 : zV, zW X d 132 21 [(2, 4), z1] [] (zty, rf, mem) (qv rf Q)
def L_tokens_next_56 (X : zX) (d : Nat) (rf : zF) (Q : zF → Prop) (mem : zF) (s0 : Int) : Prop := ∀ z1 : zV, zW X d 132 56 [(2, 4), z1] [(0, s0)] (zty, rf, mem) (qv rf Q)
def L_tokens_next_76 (X : zX) (d : Nat) (rf : zF) (Q : zF → Prop) (mem : zF) (x1 : Int) (s1 : Int) : Prop := zW X d 132 76 [(2, 4), (0, x1)] [(0, s1), (2, 4)] (zty, rf, mem) (qv rf Q)
def L_tokens_next_100 (X : zX) (d : Nat) (rf : zF) (Q : zF → Prop) (mem : zF) (s1 : Int) : Prop := ∀ z1 : zV, zW X d 132 100 [(2, 4), z1] [(0, s1), (2, 4)] (zty, rf, mem) (qv rf Q)
set_option maxRecDepth 4000 in
theorem s_tokens_next_21 {X : zX} {d : Nat} {rf mem : zF} {Q : zF → Prop} (hR : zall rf zRK = true) (h : (inI (mem 4 6)) ∧ (((mem 4 6) < 0 → L_tokens_next_56 X d rf Q mem 0) ∧ (¬ (mem 4 6) < 0 → (inI (mem 4 6) ∧ inI (mem 4 3)) ∧ (((mem 4 3) ≤ (mem 4 6) → L_tokens_next_56 X d rf Q mem 0) ∧ (¬ (mem 4 3) ≤ (mem 4 6) → (inI (mem 4 6)) ∧ ((1600 ≤ (mem 4 6) → L_tokens_next_56 X d rf Q mem 0) ∧ (¬ 1600 ≤ (mem 4 6) → L_tokens_next_56 X d rf Q mem 1))))))) : L_tokens_next_21 X d rf Q mem := by
  intro z1
  refine zW.go 1 22 [(2, 4), z1] [(2, 4)] _ rfl ?_
  refine w_getI (q := 4) rfl (by decide) (pc' := 25) rfl ⟨by decide, rfl⟩ rfl (by decide) ?_
  refine w_if_lt rfl (by decide) (pc' := 28) rfl h.1 (fun c2 => ?_) (fun c2 => ?_)
  · have h := h.2.1 c2
    refine zW.go 1 56 [(2, 4), z1] [(0, 0)] _ rfl ?_
    exact h z1
  · have h := h.2.2 c2
    refine zW.go 1 29 [(2, 4), z1] [(2, 4)] _ rfl ?_
    refine w_getI (q := 4) rfl (by decide) (pc' := 32) rfl ⟨by decide, rfl⟩ rfl (by decide) ?_
    refine zW.go 1 33 [(2, 4), z1] [(2, 4), (0, (mem 4 6))] _ rfl ?_
    refine w_getI (q := 4) rfl (by decide) (pc' := 36) rfl ⟨by decide, rfl⟩ rfl (by decide) ?_
    refine w_ic_ge rfl (by decide) (pc' := 39) rfl h.1 (fun c3 => ?_) (fun c3 => ?_)
    · have h := h.2.1 c3
      refine zW.go 1 56 [(2, 4), z1] [(0, 0)] _ rfl ?_
      exact h z1
    · have h := h.2.2 c3
      refine zW.go 1 40 [(2, 4), z1] [(2, 4)] _ rfl ?_
      refine w_getI (q := 4) rfl (by decide) (pc' := 43) rfl ⟨by decide, rfl⟩ rfl (by decide) ?_
      refine zW.go 1 44 [(2, 4), z1] [(2, 4), (0, (mem 4 6))] _ rfl ?_
      refine w_getL (q := 4) (v := 6) rfl (by decide) (pc' := 47) rfl ⟨by decide, rfl⟩ rfl rfl (zall_at hR (by decide)) ?_
      refine w_alen (q := 6) rfl (by decide) (pc' := 48) rfl ⟨by decide, rfl⟩ rfl (by decide) ?_
      refine w_ic_ge rfl (by decide) (pc' := 51) rfl ⟨h.1, by decide⟩ (fun c4 => ?_) (fun c4 => ?_)
      · have h := h.2.1 c4
        refine zW.go 1 56 [(2, 4), z1] [(0, 0)] _ rfl ?_
        exact h z1
      · have h := h.2.2 c4
        refine zW.go 2 56 [(2, 4), z1] [(0, 1)] _ rfl ?_
        exact h z1
set_option maxRecDepth 4000 in
theorem s_tokens_next_56 {X : zX} {d : Nat} {rf mem : zF} {Q : zF → Prop} (hR : zall rf zRK = true) {s0 : Int} (h : (inI s0) ∧ ((s0 = 0 → L_tokens_next_76 X d rf Q mem s0 (-2)) ∧ (¬ s0 = 0 → (0 ≤ (mem 4 6) ∧ (mem 4 6) < 1600) ∧ (L_tokens_next_76 X d rf Q mem s0 (mem 6 ((mem 4 6)).toNat))))) : L_tokens_next_56 X d rf Q mem s0 := by
  intro z1
  refine zW.go 3 59 [(2, 4), (0, s0)] [(0, s0), (2, 4)] _ rfl ?_
  refine w_if_eq rfl (by decide) (pc' := 62) rfl h.1 (fun c5 => ?_) (fun c5 => ?_)
  · have h := h.2.1 c5
    refine zW.go 1 76 [(2, 4), (0, s0)] [(0, (-2)), (2, 4)] _ rfl ?_
    exact h
  · have h := h.2.2 c5
    refine zW.go 1 63 [(2, 4), (0, s0)] [(2, 4), (2, 4)] _ rfl ?_
    refine w_getL (q := 4) (v := 6) rfl (by decide) (pc' := 66) rfl ⟨by decide, rfl⟩ rfl rfl (zall_at hR (by decide)) ?_
    refine zW.go 1 67 [(2, 4), (0, s0)] [(2, 4), (2, 6), (2, 4)] _ rfl ?_
    refine w_getI (q := 4) rfl (by decide) (pc' := 70) rfl ⟨by decide, rfl⟩ rfl (by decide) ?_
    obtain ⟨g, h⟩ := h
    refine w_iald (q := 6) rfl (by decide) (pc' := 71) rfl ⟨by decide, rfl⟩ rfl g rfl ?_
    refine zW.go 1 76 [(2, 4), (0, s0)] [(0, (mem 6 ((mem 4 6)).toNat)), (2, 4)] _ rfl ?_
    exact h
set_option maxRecDepth 4000 in
theorem s_tokens_next_76 {X : zX} {d : Nat} {rf mem : zF} {Q : zF → Prop} (hR : zall rf zRK = true) {x1 : Int} {s1 : Int} (h : (inI x1) ∧ ((x1 = 0 → L_tokens_next_100 X d rf Q (zup mem 4 8 s1) (mem 4 4)) ∧ (¬ x1 = 0 → (0 ≤ (mem 4 6) ∧ (mem 4 6) < 1600) ∧ (L_tokens_next_100 X d rf Q (zup mem 4 8 s1) (mem 7 ((mem 4 6)).toNat))))) : L_tokens_next_76 X d rf Q mem x1 s1 := by
  refine w_putI (q := 4) rfl (by decide) (pc' := 79) rfl ⟨by decide, rfl⟩ rfl (by decide) ?_
  refine zW.go 2 81 [(2, 4), (0, x1)] [(0, x1), (2, 4)] _ rfl ?_
  refine w_if_eq rfl (by decide) (pc' := 84) rfl h.1 (fun c6 => ?_) (fun c6 => ?_)
  · have h := h.2.1 c6
    refine zW.go 1 97 [(2, 4), (0, x1)] [(2, 4), (2, 4)] _ rfl ?_
    refine w_getI (q := 4) rfl (by decide) (pc' := 100) rfl ⟨by decide, rfl⟩ rfl (by decide) ?_
    exact h (0, x1)
  · have h := h.2.2 c6
    refine zW.go 1 85 [(2, 4), (0, x1)] [(2, 4), (2, 4)] _ rfl ?_
    refine w_getL (q := 4) (v := 7) rfl (by decide) (pc' := 88) rfl ⟨by decide, rfl⟩ rfl rfl (zall_at hR (by decide)) ?_
    refine zW.go 1 89 [(2, 4), (0, x1)] [(2, 4), (2, 7), (2, 4)] _ rfl ?_
    refine w_getI (q := 4) rfl (by decide) (pc' := 92) rfl ⟨by decide, rfl⟩ rfl (by decide) ?_
    obtain ⟨g, h⟩ := h
    refine w_iald (q := 7) rfl (by decide) (pc' := 93) rfl ⟨by decide, rfl⟩ rfl g rfl ?_
    refine zW.go 1 100 [(2, 4), (0, x1)] [(0, (mem 7 ((mem 4 6)).toNat)), (2, 4)] _ rfl ?_
    exact h (0, x1)
set_option maxRecDepth 4000 in
theorem s_tokens_next_100 {X : zX} {d : Nat} {rf mem : zF} {Q : zF → Prop} (hR : zall rf zRK = true) {s1 : Int} (h : (inI (mem 4 8)) ∧ ((¬ (mem 4 8) = (-1) → Q (zup (zup mem 4 9 s1) 4 10 s1)) ∧ ((mem 4 8) = (-1) → Q (zup (zup mem 4 9 s1) 4 10 (mem 4 5))))) : L_tokens_next_100 X d rf Q mem s1 := by
  intro z1
  refine w_putI (q := 4) rfl (by decide) (pc' := 103) rfl ⟨by decide, rfl⟩ rfl (by decide) ?_
  refine zW.go 2 105 [(2, 4), z1] [(2, 4), (2, 4)] _ rfl ?_
  refine w_getI (q := 4) rfl (by decide) (pc' := 108) rfl ⟨by decide, rfl⟩ rfl (by decide) ?_
  refine zW.go 1 109 [(2, 4), z1] [(0, (-1)), (0, (mem 4 8)), (2, 4)] _ rfl ?_
  refine w_ic_ne rfl (by decide) (pc' := 112) rfl ⟨h.1, by decide⟩ (fun c7 => ?_) (fun c7 => ?_)
  · have h := h.2.1 c7
    refine zW.go 1 120 [(2, 4), z1] [(2, 4), (2, 4)] _ rfl ?_
    refine w_getI (q := 4) rfl (by decide) (pc' := 123) rfl ⟨by decide, rfl⟩ rfl (by decide) ?_
    refine w_putI (q := 4) rfl (by decide) (pc' := 126) rfl ⟨by decide, rfl⟩ rfl (by decide) ?_
    exact w_retv rfl rfl h
  · have h := h.2.2 c7
    refine zW.go 1 113 [(2, 4), z1] [(2, 4), (2, 4)] _ rfl ?_
    refine w_getI (q := 4) rfl (by decide) (pc' := 116) rfl ⟨by decide, rfl⟩ rfl (by decide) ?_
    refine zW.go 1 123 [(2, 4), z1] [(0, (mem 4 5)), (2, 4)] _ rfl ?_
    refine w_putI (q := 4) rfl (by decide) (pc' := 126) rfl ⟨by decide, rfl⟩ rfl (by decide) ?_
    exact w_retv rfl rfl h
set_option maxRecDepth 4000 in
theorem s_tokens_next {X : zX} {d : Nat} {rf mem : zF} {Q : zF → Prop} (hR : zall rf zRK = true) (h : (inI (mem 4 6) ∧ inI (mem 4 3)) ∧ (((mem 4 3) ≤ (mem 4 6) → L_tokens_next_21 X d rf Q mem) ∧ (¬ (mem 4 3) ≤ (mem 4 6) → L_tokens_next_21 X d rf Q (zup mem 4 6 ((mem 4 6) + 1))))) : Cv X d 132 [(2, 4)] rf mem Q := by
  show zW X d 132 0 [(2, 4), (9, 0)] [] (zty, rf, mem) (qv rf Q)
  refine zW.go 1 1 [(2, 4), (9, 0)] [(2, 4)] _ rfl ?_
  refine w_getI (q := 4) rfl (by decide) (pc' := 4) rfl ⟨by decide, rfl⟩ rfl (by decide) ?_
  refine zW.go 1 5 [(2, 4), (9, 0)] [(2, 4), (0, (mem 4 6))] _ rfl ?_
  refine w_getI (q := 4) rfl (by decide) (pc' := 8) rfl ⟨by decide, rfl⟩ rfl (by decide) ?_
  refine w_ic_ge rfl (by decide) (pc' := 11) rfl h.1 (fun c1 => ?_) (fun c1 => ?_)
  · have h := h.2.1 c1
    exact h (9, 0)
  · have h := h.2.2 c1
    refine zW.go 2 13 [(2, 4), (9, 0)] [(2, 4), (2, 4)] _ rfl ?_
    refine w_getI (q := 4) rfl (by decide) (pc' := 16) rfl ⟨by decide, rfl⟩ rfl (by decide) ?_
    refine zW.go 2 18 [(2, 4), (9, 0)] [(0, ((mem 4 6) + 1)), (2, 4)] _ rfl ?_
    refine w_putI (q := 4) rfl (by decide) (pc' := 21) rfl ⟨by decide, rfl⟩ rfl (by decide) ?_
    exact h (9, 0)
set_option maxRecDepth 4000 in
theorem s_tokens_isSign {X : zX} {d : Nat} {rf mem : zF} {Q : Int → zF → Prop} (hR : zall rf zRK = true) {x1 : Int} (h : (inI (mem 4 8) ∧ inI (10000 + x1)) ∧ ((¬ (mem 4 8) = (10000 + x1) → Q 0 mem) ∧ ((mem 4 8) = (10000 + x1) → Q 1 mem))) : Ci X d 133 [(2, 4), (0, x1)] rf mem Q := by
  show zW X d 133 0 [(2, 4), (0, x1)] [] (zty, rf, mem) (qi rf Q)
  refine zW.go 1 1 [(2, 4), (0, x1)] [(2, 4)] _ rfl ?_
  refine w_getI (q := 4) rfl (by decide) (pc' := 4) rfl ⟨by decide, rfl⟩ rfl (by decide) ?_
  refine zW.go 3 9 [(2, 4), (0, x1)] [(0, (10000 + x1)), (0, (mem 4 8))] _ rfl ?_
  refine w_ic_ne rfl (by decide) (pc' := 12) rfl h.1 (fun c1 => ?_) (fun c1 => ?_)
  · have h := h.2.1 c1
    refine zW.go 1 17 [(2, 4), (0, x1)] [(0, 0)] _ rfl ?_
    exact w_retz rfl rfl (by decide) h
  · have h := h.2.2 c1
    refine zW.go 2 17 [(2, 4), (0, x1)] [(0, 1)] _ rfl ?_
    exact w_retz rfl rfl (by decide) h
set_option maxRecDepth 4000 in
theorem s_tokens_isNumber {X : zX} {d : Nat} {rf mem : zF} {Q : Int → zF → Prop} (hR : zall rf zRK = true) (h : (inI (mem 4 8)) ∧ (((mem 4 8) < 0 → Q 0 mem) ∧ (¬ (mem 4 8) < 0 → (inI (mem 4 8)) ∧ ((10000 ≤ (mem 4 8) → Q 0 mem) ∧ (¬ 10000 ≤ (mem 4 8) → Q 1 mem))))) : Ci X d 134 [(2, 4)] rf mem Q := by
  show zW X d 134 0 [(2, 4)] [] (zty, rf, mem) (qi rf Q)
  refine zW.go 1 1 [(2, 4)] [(2, 4)] _ rfl ?_
  refine w_getI (q := 4) rfl (by decide) (pc' := 4) rfl ⟨by decide, rfl⟩ rfl (by decide) ?_
  refine w_if_lt rfl (by decide) (pc' := 7) rfl h.1 (fun c1 => ?_) (fun c1 => ?_)
  · have h := h.2.1 c1
    refine zW.go 1 22 [(2, 4)] [(0, 0)] _ rfl ?_
    exact w_retz rfl rfl (by decide) h
  · have h := h.2.2 c1
    refine zW.go 1 8 [(2, 4)] [(2, 4)] _ rfl ?_
    refine w_getI (q := 4) rfl (by decide) (pc' := 11) rfl ⟨by decide, rfl⟩ rfl (by decide) ?_
    refine zW.go 1 14 [(2, 4)] [(0, 10000), (0, (mem 4 8))] _ rfl ?_
    refine w_ic_ge rfl (by decide) (pc' := 17) rfl ⟨h.1, by decide⟩ (fun c2 => ?_) (fun c2 => ?_)
    · have h := h.2.1 c2
      refine zW.go 1 22 [(2, 4)] [(0, 0)] _ rfl ?_
      exact w_retz rfl rfl (by decide) h
    · have h := h.2.2 c2
      refine zW.go 2 22 [(2, 4)] [(0, 1)] _ rfl ?_
      exact w_retz rfl rfl (by decide) h
set_option maxRecDepth 4000 in
theorem s_tokens_isName {X : zX} {d : Nat} {rf mem : zF} {Q : Int → zF → Prop} (hR : zall rf zRK = true) (h : (inI (mem 4 8)) ∧ (((mem 4 8) < 1073741824 → Q 0 mem) ∧ (¬ (mem 4 8) < 1073741824 → Q 1 mem))) : Ci X d 135 [(2, 4)] rf mem Q := by
  show zW X d 135 0 [(2, 4)] [] (zty, rf, mem) (qi rf Q)
  refine zW.go 1 1 [(2, 4)] [(2, 4)] _ rfl ?_
  refine w_getI (q := 4) rfl (by decide) (pc' := 4) rfl ⟨by decide, rfl⟩ rfl (by decide) ?_
  refine zW.go 1 6 [(2, 4)] [(0, 1073741824), (0, (mem 4 8))] _ rfl ?_
  refine w_ic_lt rfl (by decide) (pc' := 9) rfl ⟨h.1, by decide⟩ (fun c1 => ?_) (fun c1 => ?_)
  · have h := h.2.1 c1
    refine zW.go 1 14 [(2, 4)] [(0, 0)] _ rfl ?_
    exact w_retz rfl rfl (by decide) h
  · have h := h.2.2 c1
    refine zW.go 2 14 [(2, 4)] [(0, 1)] _ rfl ?_
    exact w_retz rfl rfl (by decide) h
set_option maxRecDepth 4000 in
theorem s_tokens_letters {X : zX} {d : Nat} {rf mem : zF} {Q : Int → zF → Prop} (hR : zall rf zRK = true) (h : Q ((mem 4 8) - 1073741824) mem) : Ci X d 136 [(2, 4)] rf mem Q := by
  show zW X d 136 0 [(2, 4)] [] (zty, rf, mem) (qi rf Q)
  refine zW.go 1 1 [(2, 4)] [(2, 4)] _ rfl ?_
  refine w_getI (q := 4) rfl (by decide) (pc' := 4) rfl ⟨by decide, rfl⟩ rfl (by decide) ?_
  refine zW.go 2 7 [(2, 4)] [(0, ((mem 4 8) - 1073741824))] _ rfl ?_
  exact w_reti rfl rfl h
set_option maxRecDepth 4000 in
theorem s_tokens_letterBits {X : zX} {d : Nat} {rf mem : zF} {Q : Int → zF → Prop} (hR : zall rf zRK = true) {x0 : Int} {x1 : Int} (h : Q (zshl ((x0 - 97) + 1) (5 * x1)) mem) : Ci X d 137 [(0, x0), (0, x1)] rf mem Q := by
  show zW X d 137 0 [(0, x0), (0, x1)] [] (zty, rf, mem) (qi rf Q)
  refine zW.go 9 10 [(0, x0), (0, x1)] [(0, (zshl ((x0 - 97) + 1) (5 * x1)))] _ rfl ?_
  exact w_reti rfl rfl h
set_option maxRecDepth 4000 in
theorem s_tokens_isLetter {X : zX} {d : Nat} {rf mem : zF} {Q : Int → zF → Prop} (hR : zall rf zRK = true) {x0 : Int} (h : (inI x0) ∧ ((x0 < 97 → Q 0 mem) ∧ (¬ x0 < 97 → (inI x0) ∧ ((122 < x0 → Q 0 mem) ∧ (¬ 122 < x0 → Q 1 mem))))) : Ci X d 138 [(0, x0)] rf mem Q := by
  show zW X d 138 0 [(0, x0)] [] (zty, rf, mem) (qi rf Q)
  refine zW.go 2 3 [(0, x0)] [(0, 97), (0, x0)] _ rfl ?_
  refine w_ic_lt rfl (by decide) (pc' := 6) rfl ⟨h.1, by decide⟩ (fun c1 => ?_) (fun c1 => ?_)
  · have h := h.2.1 c1
    refine zW.go 1 17 [(0, x0)] [(0, 0)] _ rfl ?_
    exact w_retz rfl rfl (by decide) h
  · have h := h.2.2 c1
    refine zW.go 2 9 [(0, x0)] [(0, 122), (0, x0)] _ rfl ?_
    refine w_ic_gt rfl (by decide) (pc' := 12) rfl ⟨h.1, by decide⟩ (fun c2 => ?_) (fun c2 => ?_)
    · have h := h.2.1 c2
      refine zW.go 1 17 [(0, x0)] [(0, 0)] _ rfl ?_
      exact w_retz rfl rfl (by decide) h
    · have h := h.2.2 c2
      refine zW.go 2 17 [(0, x0)] [(0, 1)] _ rfl ?_
      exact w_retz rfl rfl (by decide) h
set_option maxRecDepth 4000 in
theorem s_tokens_isDigit {X : zX} {d : Nat} {rf mem : zF} {Q : Int → zF → Prop} (hR : zall rf zRK = true) {x0 : Int} (h : (inI x0) ∧ ((x0 < 48 → Q 0 mem) ∧ (¬ x0 < 48 → (inI x0) ∧ ((57 < x0 → Q 0 mem) ∧ (¬ 57 < x0 → Q 1 mem))))) : Ci X d 139 [(0, x0)] rf mem Q := by
  show zW X d 139 0 [(0, x0)] [] (zty, rf, mem) (qi rf Q)
  refine zW.go 2 3 [(0, x0)] [(0, 48), (0, x0)] _ rfl ?_
  refine w_ic_lt rfl (by decide) (pc' := 6) rfl ⟨h.1, by decide⟩ (fun c1 => ?_) (fun c1 => ?_)
  · have h := h.2.1 c1
    refine zW.go 1 17 [(0, x0)] [(0, 0)] _ rfl ?_
    exact w_retz rfl rfl (by decide) h
  · have h := h.2.2 c1
    refine zW.go 2 9 [(0, x0)] [(0, 57), (0, x0)] _ rfl ?_
    refine w_ic_gt rfl (by decide) (pc' := 12) rfl ⟨h.1, by decide⟩ (fun c2 => ?_) (fun c2 => ?_)
    · have h := h.2.1 c2
      refine zW.go 1 17 [(0, x0)] [(0, 0)] _ rfl ?_
      exact w_retz rfl rfl (by decide) h
    · have h := h.2.2 c2
      refine zW.go 2 17 [(0, x0)] [(0, 1)] _ rfl ?_
      exact w_retz rfl rfl (by decide) h
def L_works_prepare_10 (X : zX) (d : Nat) (rf : zF) (Q : zF → Prop) (mem : zF) (w : Nat) (p : Nat) (o : Nat) (x3 : Int) : Prop := zW X (d + 1) 141 10 [(2, ((w : Nat) : Int)), (2, ((p : Nat) : Int)), (2, ((o : Nat) : Int)), (0, x3)] [] (zty, rf, mem) (qv rf Q)
set_option maxRecDepth 4000 in
theorem s_works_prepare_10 {X : zX} {d : Nat} {rf mem : zF} {Q : zF → Prop} (hR : zall rf zRK = true) {w : Nat} (hw : zWrk rf w) {p : Nat} (hp : zPln rf p) {o : Nat} (ho : zScn rf o) {x3 : Int} (h : Ci X d 61 [(2, ((p : Nat) : Int)), (0, 0)] rf mem (fun r2 mem3 => (inI x3 ∧ inI r2) ∧ ((r2 ≤ x3 → Q mem3) ∧ (¬ r2 ≤ x3 → (inI (zand (zshr (mem3 o 2) x3) 1)) ∧ ((¬ (zand (zshr (mem3 o 2) x3) 1) = 1 → L_works_prepare_10 X d rf Q mem3 w p o (x3 + 1)) ∧ ((zand (zshr (mem3 o 2) x3) 1) = 1 → Cv X d 142 [(2, ((w : Nat) : Int)), (2, ((p : Nat) : Int)), (0, x3)] rf mem3 (fun mem6 => L_works_prepare_10 X d rf Q mem6 w p o (x3 + 1)))))))) : L_works_prepare_10 X d rf Q mem w p o x3 := by
  refine zW.go 3 13 [(2, ((w : Nat) : Int)), (2, ((p : Nat) : Int)), (2, ((o : Nat) : Int)), (0, x3)] [(0, 0), (2, ((p : Nat) : Int)), (0, x3)] _ rfl ?_
  refine w_calli (as := [(2, ((p : Nat) : Int)), (0, 0)]) [(0, x3)] 16 rfl rfl rfl rfl (Nat.le_of_ble_eq_true rfl) (Nat.le_of_ble_eq_true rfl) (Nat.le_of_ble_eq_true rfl) (Or.inr (zrcv_o (zPln_t0 hp))) (Ci.imp h (fun r2 mem3 h => ?_))
  refine w_ic_ge rfl (by decide) (pc' := 19) rfl h.1 (fun c4 => ?_) (fun c4 => ?_)
  · have h := h.2.1 c4
    exact w_retv rfl rfl h
  · have h := h.2.2 c4
    refine zW.go 1 20 [(2, ((w : Nat) : Int)), (2, ((p : Nat) : Int)), (2, ((o : Nat) : Int)), (0, x3)] [(2, ((o : Nat) : Int))] _ rfl ?_
    refine w_getI (q := o) rfl (by decide) (pc' := 23) rfl ⟨Int.natCast_nonneg _, rfl⟩ (zScn_t0 ho) (by decide) ?_
    refine zW.go 5 28 [(2, ((w : Nat) : Int)), (2, ((p : Nat) : Int)), (2, ((o : Nat) : Int)), (0, x3)] [(0, 1), (0, (zand (zshr (mem3 o 2) x3) 1))] _ rfl ?_
    refine w_ic_ne rfl (by decide) (pc' := 31) rfl ⟨h.1, by decide⟩ (fun c5 => ?_) (fun c5 => ?_)
    · have h := h.2.1 c5
      refine zW.go 2 10 [(2, ((w : Nat) : Int)), (2, ((p : Nat) : Int)), (2, ((o : Nat) : Int)), (0, (x3 + 1))] [] _ rfl ?_
      exact h
    · have h := h.2.2 c5
      refine zW.go 3 34 [(2, ((w : Nat) : Int)), (2, ((p : Nat) : Int)), (2, ((o : Nat) : Int)), (0, x3)] [(0, x3), (2, ((p : Nat) : Int)), (2, ((w : Nat) : Int))] _ rfl ?_
      refine w_callv (as := [(2, ((w : Nat) : Int)), (2, ((p : Nat) : Int)), (0, x3)]) [] 37 rfl rfl rfl rfl (Nat.le_of_ble_eq_true rfl) (Nat.le_of_ble_eq_true rfl) (Nat.le_of_ble_eq_true rfl) (Or.inr (zrcv_o (zWrk_t0 hw))) (Cv.imp h (fun mem6 h => ?_))
      refine zW.go 2 10 [(2, ((w : Nat) : Int)), (2, ((p : Nat) : Int)), (2, ((o : Nat) : Int)), (0, (x3 + 1))] [] _ rfl ?_
      exact h
set_option maxRecDepth 4000 in
theorem s_works_prepare {X : zX} {d : Nat} {rf mem : zF} {Q : zF → Prop} (hR : zall rf zRK = true) {w : Nat} (hw : zWrk rf w) {p : Nat} (hp : zPln rf p) {o : Nat} (ho : zScn rf o) (h : Cv X d 328 [(2, ((w + 1 : Nat) : Int)), (0, (-1))] rf mem (fun mem1 => L_works_prepare_10 X d rf Q mem1 w p o 0)) : Cv X (d + 1) 141 [(2, ((w : Nat) : Int)), (2, ((p : Nat) : Int)), (2, ((o : Nat) : Int))] rf mem Q := by
  show zW X (d + 1) 141 0 [(2, ((w : Nat) : Int)), (2, ((p : Nat) : Int)), (2, ((o : Nat) : Int)), (9, 0)] [] (zty, rf, mem) (qv rf Q)
  refine zW.go 1 1 [(2, ((w : Nat) : Int)), (2, ((p : Nat) : Int)), (2, ((o : Nat) : Int)), (9, 0)] [(2, ((w : Nat) : Int))] _ rfl ?_
  refine w_getL (q := w) (v := ((w + 1 : Nat) : Int)) rfl (by decide) (pc' := 4) rfl ⟨Int.natCast_nonneg _, rfl⟩ (zWrk_t0 hw) rfl (zWrk_r0_0 hw) ?_
  refine zW.go 1 5 [(2, ((w : Nat) : Int)), (2, ((p : Nat) : Int)), (2, ((o : Nat) : Int)), (9, 0)] [(0, (-1)), (2, ((w + 1 : Nat) : Int))] _ rfl ?_
  refine w_callv (as := [(2, ((w + 1 : Nat) : Int)), (0, (-1))]) [] 8 rfl rfl rfl rfl (Nat.le_of_ble_eq_true rfl) (Nat.le_of_ble_eq_true rfl) (Nat.le_of_ble_eq_true rfl) (Or.inl rfl) (Cv.imp h (fun mem1 h => ?_))
  refine zW.go 2 10 [(2, ((w : Nat) : Int)), (2, ((p : Nat) : Int)), (2, ((o : Nat) : Int)), (0, 0)] [] _ rfl ?_
  exact h
def L_works_blow_10 (X : zX) (d : Nat) (rf : zF) (Q : zF → Prop) (mem : zF) (w : Nat) (p : Nat) (x2 : Int) (x3 : Int) (x4 : Int) : Prop := zW X (d + 1) 142 10 [(2, ((w : Nat) : Int)), (2, ((p : Nat) : Int)), (0, x2), (0, x3), (0, x4)] [] (zty, rf, mem) (qv rf Q)
def L_works_blow_53 (X : zX) (d : Nat) (rf : zF) (Q : zF → Prop) (mem : zF) (w : Nat) (p : Nat) (x2 : Int) (x3 : Int) (x4 : Int) : Prop := zW X (d + 1) 142 53 [(2, ((w : Nat) : Int)), (2, ((p : Nat) : Int)), (0, x2), (0, x3), (0, x4)] [] (zty, rf, mem) (qv rf Q)
set_option maxRecDepth 4000 in
theorem s_works_blow_10 {X : zX} {d : Nat} {rf mem : zF} {Q : zF → Prop} (hR : zall rf zRK = true) {w : Nat} (hw : zWrk rf w) {p : Nat} (hp : zPln rf p) {x2 : Int} {x3 : Int} {x4 : Int} (h : (0 ≤ x2 ∧ x2 < 6) ∧ ((inI x4 ∧ inI (mem (p + 5) (x2).toNat)) ∧ (((mem (p + 5) (x2).toNat) < x4 → Q mem) ∧ (¬ (mem (p + 5) (x2).toNat) < x4 → (inI x3) ∧ ((x3 < 0 → Q mem) ∧ (¬ x3 < 0 → (inI x3) ∧ ((64 ≤ x3 → Q mem) ∧ (¬ 64 ≤ x3 → (0 ≤ x3 ∧ x3 < 64) ∧ ((inI (mem (w + 1) (x3).toNat)) ∧ ((¬ (mem (w + 1) (x3).toNat) = (-1) → L_works_blow_53 X d rf Q mem w p x2 x3 x4) ∧ ((mem (w + 1) (x3).toNat) = (-1) → (0 ≤ x2 ∧ x2 < 6) ∧ ((0 ≤ x3 ∧ x3 < 64) ∧ (L_works_blow_53 X d rf Q (zup mem (w + 1) (x3).toNat (mem (p + 4) (x2).toNat)) w p x2 x3 x4))))))))))))) : L_works_blow_10 X d rf Q mem w p x2 x3 x4 := by
  refine zW.go 2 13 [(2, ((w : Nat) : Int)), (2, ((p : Nat) : Int)), (0, x2), (0, x3), (0, x4)] [(2, ((p : Nat) : Int)), (0, x4)] _ rfl ?_
  refine w_getL (q := p) (v := ((p + 5 : Nat) : Int)) rfl (by decide) (pc' := 16) rfl ⟨Int.natCast_nonneg _, rfl⟩ (zPln_t0 hp) rfl (zPln_r0_10 hp) ?_
  refine zW.go 1 17 [(2, ((w : Nat) : Int)), (2, ((p : Nat) : Int)), (0, x2), (0, x3), (0, x4)] [(0, x2), (2, ((p + 5 : Nat) : Int)), (0, x4)] _ rfl ?_
  obtain ⟨g, h⟩ := h
  refine w_iald (q := (p + 5)) rfl (by decide) (pc' := 18) rfl ⟨Int.natCast_nonneg _, rfl⟩ (zPln_t5 hp) g rfl ?_
  refine w_ic_gt rfl (by decide) (pc' := 21) rfl h.1 (fun c3 => ?_) (fun c3 => ?_)
  · have h := h.2.1 c3
    exact w_retv rfl rfl h
  · have h := h.2.2 c3
    refine zW.go 1 22 [(2, ((w : Nat) : Int)), (2, ((p : Nat) : Int)), (0, x2), (0, x3), (0, x4)] [(0, x3)] _ rfl ?_
    refine w_if_lt rfl (by decide) (pc' := 25) rfl h.1 (fun c4 => ?_) (fun c4 => ?_)
    · have h := h.2.1 c4
      exact w_retv rfl rfl h
    · have h := h.2.2 c4
      refine zW.go 2 28 [(2, ((w : Nat) : Int)), (2, ((p : Nat) : Int)), (0, x2), (0, x3), (0, x4)] [(0, 64), (0, x3)] _ rfl ?_
      refine w_ic_ge rfl (by decide) (pc' := 31) rfl ⟨h.1, by decide⟩ (fun c5 => ?_) (fun c5 => ?_)
      · have h := h.2.1 c5
        exact w_retv rfl rfl h
      · have h := h.2.2 c5
        refine zW.go 1 32 [(2, ((w : Nat) : Int)), (2, ((p : Nat) : Int)), (0, x2), (0, x3), (0, x4)] [(2, ((w : Nat) : Int))] _ rfl ?_
        refine w_getL (q := w) (v := ((w + 1 : Nat) : Int)) rfl (by decide) (pc' := 35) rfl ⟨Int.natCast_nonneg _, rfl⟩ (zWrk_t0 hw) rfl (zWrk_r0_0 hw) ?_
        refine zW.go 1 36 [(2, ((w : Nat) : Int)), (2, ((p : Nat) : Int)), (0, x2), (0, x3), (0, x4)] [(0, x3), (2, ((w + 1 : Nat) : Int))] _ rfl ?_
        obtain ⟨g, h⟩ := h
        refine w_iald (q := (w + 1)) rfl (by decide) (pc' := 37) rfl ⟨Int.natCast_nonneg _, rfl⟩ (zWrk_t1 hw) g rfl ?_
        refine zW.go 1 38 [(2, ((w : Nat) : Int)), (2, ((p : Nat) : Int)), (0, x2), (0, x3), (0, x4)] [(0, (-1)), (0, (mem (w + 1) (x3).toNat))] _ rfl ?_
        refine w_ic_ne rfl (by decide) (pc' := 41) rfl ⟨h.1, by decide⟩ (fun c6 => ?_) (fun c6 => ?_)
        · have h := h.2.1 c6
          exact h
        · have h := h.2.2 c6
          refine zW.go 1 42 [(2, ((w : Nat) : Int)), (2, ((p : Nat) : Int)), (0, x2), (0, x3), (0, x4)] [(2, ((w : Nat) : Int))] _ rfl ?_
          refine w_getL (q := w) (v := ((w + 1 : Nat) : Int)) rfl (by decide) (pc' := 45) rfl ⟨Int.natCast_nonneg _, rfl⟩ (zWrk_t0 hw) rfl (zWrk_r0_0 hw) ?_
          refine zW.go 2 47 [(2, ((w : Nat) : Int)), (2, ((p : Nat) : Int)), (0, x2), (0, x3), (0, x4)] [(2, ((p : Nat) : Int)), (0, x3), (2, ((w + 1 : Nat) : Int))] _ rfl ?_
          refine w_getL (q := p) (v := ((p + 4 : Nat) : Int)) rfl (by decide) (pc' := 50) rfl ⟨Int.natCast_nonneg _, rfl⟩ (zPln_t0 hp) rfl (zPln_r0_9 hp) ?_
          refine zW.go 1 51 [(2, ((w : Nat) : Int)), (2, ((p : Nat) : Int)), (0, x2), (0, x3), (0, x4)] [(0, x2), (2, ((p + 4 : Nat) : Int)), (0, x3), (2, ((w + 1 : Nat) : Int))] _ rfl ?_
          obtain ⟨g, h⟩ := h
          refine w_iald (q := (p + 4)) rfl (by decide) (pc' := 52) rfl ⟨Int.natCast_nonneg _, rfl⟩ (zPln_t4 hp) g rfl ?_
          obtain ⟨g, h⟩ := h
          refine w_iast (q := (w + 1)) rfl (by decide) (pc' := 53) rfl ⟨Int.natCast_nonneg _, rfl⟩ (zWrk_t1 hw) g rfl ?_
          exact h
set_option maxRecDepth 4000 in
theorem s_works_blow_53 {X : zX} {d : Nat} {rf mem : zF} {Q : zF → Prop} (hR : zall rf zRK = true) {w : Nat} (hw : zWrk rf w) {p : Nat} (hp : zPln rf p) {x2 : Int} {x3 : Int} {x4 : Int} (h : (0 ≤ x2 ∧ x2 < 6) ∧ (Ci X d 71 [(2, ((p : Nat) : Int)), (0, x3), (0, (mem (p + 4) (x2).toNat))] rf mem (fun r7 mem8 => L_works_blow_10 X d rf Q mem8 w p x2 r7 (x4 + 1)))) : L_works_blow_53 X d rf Q mem w p x2 x3 x4 := by
  refine zW.go 3 56 [(2, ((w : Nat) : Int)), (2, ((p : Nat) : Int)), (0, x2), (0, x3), (0, x4)] [(2, ((p : Nat) : Int)), (0, x3), (2, ((p : Nat) : Int))] _ rfl ?_
  refine w_getL (q := p) (v := ((p + 4 : Nat) : Int)) rfl (by decide) (pc' := 59) rfl ⟨Int.natCast_nonneg _, rfl⟩ (zPln_t0 hp) rfl (zPln_r0_9 hp) ?_
  refine zW.go 1 60 [(2, ((w : Nat) : Int)), (2, ((p : Nat) : Int)), (0, x2), (0, x3), (0, x4)] [(0, x2), (2, ((p + 4 : Nat) : Int)), (0, x3), (2, ((p : Nat) : Int))] _ rfl ?_
  obtain ⟨g, h⟩ := h
  refine w_iald (q := (p + 4)) rfl (by decide) (pc' := 61) rfl ⟨Int.natCast_nonneg _, rfl⟩ (zPln_t4 hp) g rfl ?_
  refine w_calli (as := [(2, ((p : Nat) : Int)), (0, x3), (0, (mem (p + 4) (x2).toNat))]) [] 64 rfl rfl rfl rfl (Nat.le_of_ble_eq_true rfl) (Nat.le_of_ble_eq_true rfl) (Nat.le_of_ble_eq_true rfl) (Or.inr (zrcv_o (zPln_t0 hp))) (Ci.imp h (fun r7 mem8 h => ?_))
  refine zW.go 3 10 [(2, ((w : Nat) : Int)), (2, ((p : Nat) : Int)), (0, x2), (0, r7), (0, (x4 + 1))] [] _ rfl ?_
  exact h
set_option maxRecDepth 4000 in
theorem s_works_blow {X : zX} {d : Nat} {rf mem : zF} {Q : zF → Prop} (hR : zall rf zRK = true) {w : Nat} (hw : zWrk rf w) {p : Nat} (hp : zPln rf p) {x2 : Int} (h : Ci X d 65 [(2, ((p : Nat) : Int)), (0, 0), (0, x2)] rf mem (fun r1 mem2 => L_works_blow_10 X d rf Q mem2 w p x2 r1 0)) : Cv X (d + 1) 142 [(2, ((w : Nat) : Int)), (2, ((p : Nat) : Int)), (0, x2)] rf mem Q := by
  show zW X (d + 1) 142 0 [(2, ((w : Nat) : Int)), (2, ((p : Nat) : Int)), (0, x2), (9, 0), (9, 0)] [] (zty, rf, mem) (qv rf Q)
  refine zW.go 3 3 [(2, ((w : Nat) : Int)), (2, ((p : Nat) : Int)), (0, x2), (9, 0), (9, 0)] [(0, x2), (0, 0), (2, ((p : Nat) : Int))] _ rfl ?_
  refine w_calli (as := [(2, ((p : Nat) : Int)), (0, 0), (0, x2)]) [] 6 rfl rfl rfl rfl (Nat.le_of_ble_eq_true rfl) (Nat.le_of_ble_eq_true rfl) (Nat.le_of_ble_eq_true rfl) (Or.inr (zrcv_o (zPln_t0 hp))) (Ci.imp h (fun r1 mem2 h => ?_))
  refine zW.go 3 10 [(2, ((w : Nat) : Int)), (2, ((p : Nat) : Int)), (0, x2), (0, r1), (0, 0)] [] _ rfl ?_
  exact h
