set_option maxRecDepth 4000 in
theorem s_history_clear {X : zX} {d : Nat} {rf mem : zF} {Q : zF → Prop} (hR : zall rf zRK = true) (h : Q (zup (zup mem 52 1 0) 52 2 0)) : Cv X d 1 [(2, 52)] rf mem Q := by
  show zW X d 1 0 [(2, 52)] [] (zty, rf, mem) (qv rf Q)
  refine zW.go 2 2 [(2, 52)] [(0, 0), (2, 52)] _ rfl ?_
  refine w_putI (q := 52) rfl (by decide) (pc' := 5) rfl ⟨by decide, rfl⟩ rfl (by decide) ?_
  refine zW.go 2 7 [(2, 52)] [(0, 0), (2, 52)] _ rfl ?_
  refine w_putI (q := 52) rfl (by decide) (pc' := 10) rfl ⟨by decide, rfl⟩ rfl (by decide) ?_
  exact w_retv rfl rfl h
set_option maxRecDepth 4000 in
theorem s_history_copyScene {X : zX} {d : Nat} {rf mem : zF} {Q : zF → Prop} (hR : zall rf zRK = true) {o : Nat} (ho : zScn rf o) {o2 : Nat} (ho2 : zScn rf o2) (h : Cv X d 86 [(2, ((o2 : Nat) : Int)), (2, ((o : Nat) : Int))] rf mem (fun mem1 => Q mem1)) : Cv X (d + 1) 4 [(2, ((o : Nat) : Int)), (2, ((o2 : Nat) : Int))] rf mem Q := by
  show zW X (d + 1) 4 0 [(2, ((o : Nat) : Int)), (2, ((o2 : Nat) : Int))] [] (zty, rf, mem) (qv rf Q)
  refine zW.go 1 1 [(2, ((o : Nat) : Int)), (2, ((o2 : Nat) : Int))] [(2, ((o : Nat) : Int))] _ rfl ?_
  refine w_ifnull rfl (by decide) (pc' := 4) rfl (Int.natCast_nonneg _) ?_
  refine zW.go 1 5 [(2, ((o : Nat) : Int)), (2, ((o2 : Nat) : Int))] [(2, ((o2 : Nat) : Int))] _ rfl ?_
  refine w_ifnull rfl (by decide) (pc' := 8) rfl (Int.natCast_nonneg _) ?_
  refine zW.go 2 10 [(2, ((o : Nat) : Int)), (2, ((o2 : Nat) : Int))] [(2, ((o : Nat) : Int)), (2, ((o2 : Nat) : Int))] _ rfl ?_
  refine w_callv (as := [(2, ((o2 : Nat) : Int)), (2, ((o : Nat) : Int))]) [] 13 rfl rfl rfl rfl (Nat.le_of_ble_eq_true rfl) (Nat.le_of_ble_eq_true rfl) (Nat.le_of_ble_eq_true rfl) (Or.inr (zrcv_o (zScn_t0 ho2))) (Cv.imp h (fun mem1 h => ?_))
  exact w_retv rfl rfl h
def L_images_write_23 (X : zX) (d : Nat) (rf : zF) (Q : Int → zF → Prop) (mem : zF) (p : Nat) (o : Nat) (x3 : Int) : Prop := ∀ z4 : zV, zW X (d + 1) 6 23 [(2, 234), (2, ((p : Nat) : Int)), (2, ((o : Nat) : Int)), (0, x3), z4] [] (zty, rf, mem) (qi rf Q)
def L_images_write_52 (X : zX) (d : Nat) (rf : zF) (Q : Int → zF → Prop) (mem : zF) (p : Nat) (o : Nat) (x3 : Int) : Prop := ∀ z4 : zV, zW X (d + 1) 6 52 [(2, 234), (2, ((p : Nat) : Int)), (2, ((o : Nat) : Int)), (0, x3), z4] [] (zty, rf, mem) (qi rf Q)
def L_images_write_79 (X : zX) (d : Nat) (rf : zF) (Q : Int → zF → Prop) (mem : zF) (p : Nat) (o : Nat) (x3 : Int) : Prop := ∀ z4 : zV, zW X (d + 1) 6 79 [(2, 234), (2, ((p : Nat) : Int)), (2, ((o : Nat) : Int)), (0, x3), z4] [] (zty, rf, mem) (qi rf Q)
def L_images_write_136 (X : zX) (d : Nat) (rf : zF) (Q : Int → zF → Prop) (mem : zF) (p : Nat) (o : Nat) (x3 : Int) : Prop := ∀ z4 : zV, zW X (d + 1) 6 136 [(2, 234), (2, ((p : Nat) : Int)), (2, ((o : Nat) : Int)), (0, x3), z4] [] (zty, rf, mem) (qi rf Q)
def L_images_write_194 (X : zX) (d : Nat) (rf : zF) (Q : Int → zF → Prop) (mem : zF) (p : Nat) (o : Nat) (x3 : Int) (x4 : Int) : Prop := ∀ z1 : zV, ∀ z2 : zV, z2.1 ≠ 1 → zW X (d + 1) 6 194 [(2, 234), z1, z2, (0, x3), (0, x4)] [] (zty, rf, mem) (qi rf Q)
def L_images_write_168 (X : zX) (d : Nat) (rf : zF) (Q : Int → zF → Prop) (mem : zF) (p : Nat) (o : Nat) (x3 : Int) (s1 : Int) : Prop := ∀ z4 : zV, zW X (d + 1) 6 168 [(2, 234), (2, ((p : Nat) : Int)), (2, ((o : Nat) : Int)), (0, x3), z4] [(0, s1), (2, 234)] (zty, rf, mem) (qi rf Q)
set_option maxRecDepth 4000 in
theorem s_images_write_23 {X : zX} {d : Nat} {rf mem : zF} {Q : Int → zF → Prop} (hR : zall rf zRK = true) {p : Nat} (hp : zPln rf p) {o : Nat} (ho : zScn rf o) {x3 : Int} (h : Ci X d 61 [(2, ((p : Nat) : Int)), (0, 0)] rf mem (fun r3 mem4 => (inI x3 ∧ inI r3) ∧ ((r3 ≤ x3 → L_images_write_52 X d rf Q mem4 p o 0) ∧ (¬ r3 ≤ x3 → Cv X d 8 [(2, 234), (0, (zand (zshr (mem4 o 2) x3) 1))] rf mem4 (fun mem6 => L_images_write_23 X d rf Q mem6 p o (x3 + 1)))))) : L_images_write_23 X d rf Q mem p o x3 := by
  intro z4
  refine zW.go 3 26 [(2, 234), (2, ((p : Nat) : Int)), (2, ((o : Nat) : Int)), (0, x3), z4] [(0, 0), (2, ((p : Nat) : Int)), (0, x3)] _ rfl ?_
  refine w_calli (as := [(2, ((p : Nat) : Int)), (0, 0)]) [(0, x3)] 29 rfl rfl rfl rfl (Nat.le_of_ble_eq_true rfl) (Nat.le_of_ble_eq_true rfl) (Nat.le_of_ble_eq_true rfl) (Or.inr (zrcv_o (zPln_t0 hp))) (Ci.imp h (fun r3 mem4 h => ?_))
  refine w_ic_ge rfl (by decide) (pc' := 32) rfl h.1 (fun c5 => ?_) (fun c5 => ?_)
  · have h := h.2.1 c5
    refine zW.go 2 52 [(2, 234), (2, ((p : Nat) : Int)), (2, ((o : Nat) : Int)), (0, 0), z4] [] _ rfl ?_
    exact h z4
  · have h := h.2.2 c5
    refine zW.go 2 34 [(2, 234), (2, ((p : Nat) : Int)), (2, ((o : Nat) : Int)), (0, x3), z4] [(2, ((o : Nat) : Int)), (2, 234)] _ rfl ?_
    refine w_getI (q := o) rfl (by decide) (pc' := 37) rfl ⟨Int.natCast_nonneg _, rfl⟩ (zScn_t0 ho) (by decide) ?_
    refine zW.go 4 41 [(2, 234), (2, ((p : Nat) : Int)), (2, ((o : Nat) : Int)), (0, x3), z4] [(0, (zand (zshr (mem4 o 2) x3) 1)), (2, 234)] _ rfl ?_
    refine w_callv (as := [(2, 234), (0, (zand (zshr (mem4 o 2) x3) 1))]) [] 44 rfl rfl rfl rfl (Nat.le_of_ble_eq_true rfl) (Nat.le_of_ble_eq_true rfl) (Nat.le_of_ble_eq_true rfl) (Or.inr rfl) (Cv.imp h (fun mem6 h => ?_))
    refine zW.go 2 23 [(2, 234), (2, ((p : Nat) : Int)), (2, ((o : Nat) : Int)), (0, (x3 + 1)), z4] [] _ rfl ?_
    exact h z4
set_option maxRecDepth 4000 in
theorem s_images_write_52 {X : zX} {d : Nat} {rf mem : zF} {Q : Int → zF → Prop} (hR : zall rf zRK = true) {p : Nat} (hp : zPln rf p) {o : Nat} (ho : zScn rf o) {x3 : Int} (h : Ci X d 61 [(2, ((p : Nat) : Int)), (0, 1)] rf mem (fun r7 mem8 => (inI x3 ∧ inI r7) ∧ ((r7 ≤ x3 → L_images_write_79 X d rf Q mem8 p o 0) ∧ (¬ r7 ≤ x3 → (0 ≤ x3 ∧ x3 < 6) ∧ (Cv X d 10 [(2, 234), (0, (mem8 (o + 1) (x3).toNat))] rf mem8 (fun mem10 => L_images_write_52 X d rf Q mem10 p o (x3 + 1))))))) : L_images_write_52 X d rf Q mem p o x3 := by
  intro z4
  refine zW.go 3 55 [(2, 234), (2, ((p : Nat) : Int)), (2, ((o : Nat) : Int)), (0, x3), z4] [(0, 1), (2, ((p : Nat) : Int)), (0, x3)] _ rfl ?_
  refine w_calli (as := [(2, ((p : Nat) : Int)), (0, 1)]) [(0, x3)] 58 rfl rfl rfl rfl (Nat.le_of_ble_eq_true rfl) (Nat.le_of_ble_eq_true rfl) (Nat.le_of_ble_eq_true rfl) (Or.inr (zrcv_o (zPln_t0 hp))) (Ci.imp h (fun r7 mem8 h => ?_))
  refine w_ic_ge rfl (by decide) (pc' := 61) rfl h.1 (fun c9 => ?_) (fun c9 => ?_)
  · have h := h.2.1 c9
    refine zW.go 2 79 [(2, 234), (2, ((p : Nat) : Int)), (2, ((o : Nat) : Int)), (0, 0), z4] [] _ rfl ?_
    exact h z4
  · have h := h.2.2 c9
    refine zW.go 2 63 [(2, 234), (2, ((p : Nat) : Int)), (2, ((o : Nat) : Int)), (0, x3), z4] [(2, ((o : Nat) : Int)), (2, 234)] _ rfl ?_
    refine w_getL (q := o) (v := ((o + 1 : Nat) : Int)) rfl (by decide) (pc' := 66) rfl ⟨Int.natCast_nonneg _, rfl⟩ (zScn_t0 ho) rfl (zScn_r0_3 ho) ?_
    refine zW.go 1 67 [(2, 234), (2, ((p : Nat) : Int)), (2, ((o : Nat) : Int)), (0, x3), z4] [(0, x3), (2, ((o + 1 : Nat) : Int)), (2, 234)] _ rfl ?_
    obtain ⟨g, h⟩ := h
    refine w_iald (q := (o + 1)) rfl (by decide) (pc' := 68) rfl ⟨Int.natCast_nonneg _, rfl⟩ (zScn_t1 ho) g rfl ?_
    refine w_callv (as := [(2, 234), (0, (mem8 (o + 1) (x3).toNat))]) [] 71 rfl rfl rfl rfl (Nat.le_of_ble_eq_true rfl) (Nat.le_of_ble_eq_true rfl) (Nat.le_of_ble_eq_true rfl) (Or.inr rfl) (Cv.imp h (fun mem10 h => ?_))
    refine zW.go 2 52 [(2, 234), (2, ((p : Nat) : Int)), (2, ((o : Nat) : Int)), (0, (x3 + 1)), z4] [] _ rfl ?_
    exact h z4
set_option maxRecDepth 4000 in
theorem s_images_write_79 {X : zX} {d : Nat} {rf mem : zF} {Q : Int → zF → Prop} (hR : zall rf zRK = true) {p : Nat} (hp : zPln rf p) {o : Nat} (ho : zScn rf o) {x3 : Int} (h : Ci X d 61 [(2, ((p : Nat) : Int)), (0, 2)] rf mem (fun r11 mem12 => (inI x3 ∧ inI r11) ∧ ((r11 ≤ x3 → L_images_write_136 X d rf Q mem12 p o 0) ∧ (¬ r11 ≤ x3 → (0 ≤ x3 ∧ x3 < 6) ∧ (Cv X d 10 [(2, 234), (0, (mem12 (o + 2) (x3).toNat))] rf mem12 (fun mem14 => (0 ≤ x3 ∧ x3 < 6) ∧ (Cv X d 8 [(2, 234), (0, (mem14 (o + 3) (x3).toNat))] rf mem14 (fun mem15 => (0 ≤ x3 ∧ x3 < 6) ∧ (Cv X d 8 [(2, 234), (0, (mem15 (o + 4) (x3).toNat))] rf mem15 (fun mem16 => (0 ≤ x3 ∧ x3 < 6) ∧ (Cv X d 8 [(2, 234), (0, (mem16 (o + 5) (x3).toNat))] rf mem16 (fun mem17 => L_images_write_79 X d rf Q mem17 p o (x3 + 1))))))))))))) : L_images_write_79 X d rf Q mem p o x3 := by
  intro z4
  refine zW.go 3 82 [(2, 234), (2, ((p : Nat) : Int)), (2, ((o : Nat) : Int)), (0, x3), z4] [(0, 2), (2, ((p : Nat) : Int)), (0, x3)] _ rfl ?_
  refine w_calli (as := [(2, ((p : Nat) : Int)), (0, 2)]) [(0, x3)] 85 rfl rfl rfl rfl (Nat.le_of_ble_eq_true rfl) (Nat.le_of_ble_eq_true rfl) (Nat.le_of_ble_eq_true rfl) (Or.inr (zrcv_o (zPln_t0 hp))) (Ci.imp h (fun r11 mem12 h => ?_))
  refine w_ic_ge rfl (by decide) (pc' := 88) rfl h.1 (fun c13 => ?_) (fun c13 => ?_)
  · have h := h.2.1 c13
    refine zW.go 2 136 [(2, 234), (2, ((p : Nat) : Int)), (2, ((o : Nat) : Int)), (0, 0), z4] [] _ rfl ?_
    exact h z4
  · have h := h.2.2 c13
    refine zW.go 2 90 [(2, 234), (2, ((p : Nat) : Int)), (2, ((o : Nat) : Int)), (0, x3), z4] [(2, ((o : Nat) : Int)), (2, 234)] _ rfl ?_
    refine w_getL (q := o) (v := ((o + 2 : Nat) : Int)) rfl (by decide) (pc' := 93) rfl ⟨Int.natCast_nonneg _, rfl⟩ (zScn_t0 ho) rfl (zScn_r0_4 ho) ?_
    refine zW.go 1 94 [(2, 234), (2, ((p : Nat) : Int)), (2, ((o : Nat) : Int)), (0, x3), z4] [(0, x3), (2, ((o + 2 : Nat) : Int)), (2, 234)] _ rfl ?_
    obtain ⟨g, h⟩ := h
    refine w_iald (q := (o + 2)) rfl (by decide) (pc' := 95) rfl ⟨Int.natCast_nonneg _, rfl⟩ (zScn_t2 ho) g rfl ?_
    refine w_callv (as := [(2, 234), (0, (mem12 (o + 2) (x3).toNat))]) [] 98 rfl rfl rfl rfl (Nat.le_of_ble_eq_true rfl) (Nat.le_of_ble_eq_true rfl) (Nat.le_of_ble_eq_true rfl) (Or.inr rfl) (Cv.imp h (fun mem14 h => ?_))
    refine zW.go 2 100 [(2, 234), (2, ((p : Nat) : Int)), (2, ((o : Nat) : Int)), (0, x3), z4] [(2, ((o : Nat) : Int)), (2, 234)] _ rfl ?_
    refine w_getL (q := o) (v := ((o + 3 : Nat) : Int)) rfl (by decide) (pc' := 103) rfl ⟨Int.natCast_nonneg _, rfl⟩ (zScn_t0 ho) rfl (zScn_r0_5 ho) ?_
    refine zW.go 1 104 [(2, 234), (2, ((p : Nat) : Int)), (2, ((o : Nat) : Int)), (0, x3), z4] [(0, x3), (2, ((o + 3 : Nat) : Int)), (2, 234)] _ rfl ?_
    obtain ⟨g, h⟩ := h
    refine w_iald (q := (o + 3)) rfl (by decide) (pc' := 105) rfl ⟨Int.natCast_nonneg _, rfl⟩ (zScn_t3 ho) g rfl ?_
    refine w_callv (as := [(2, 234), (0, (mem14 (o + 3) (x3).toNat))]) [] 108 rfl rfl rfl rfl (Nat.le_of_ble_eq_true rfl) (Nat.le_of_ble_eq_true rfl) (Nat.le_of_ble_eq_true rfl) (Or.inr rfl) (Cv.imp h (fun mem15 h => ?_))
    refine zW.go 2 110 [(2, 234), (2, ((p : Nat) : Int)), (2, ((o : Nat) : Int)), (0, x3), z4] [(2, ((o : Nat) : Int)), (2, 234)] _ rfl ?_
    refine w_getL (q := o) (v := ((o + 4 : Nat) : Int)) rfl (by decide) (pc' := 113) rfl ⟨Int.natCast_nonneg _, rfl⟩ (zScn_t0 ho) rfl (zScn_r0_6 ho) ?_
    refine zW.go 1 114 [(2, 234), (2, ((p : Nat) : Int)), (2, ((o : Nat) : Int)), (0, x3), z4] [(0, x3), (2, ((o + 4 : Nat) : Int)), (2, 234)] _ rfl ?_
    obtain ⟨g, h⟩ := h
    refine w_iald (q := (o + 4)) rfl (by decide) (pc' := 115) rfl ⟨Int.natCast_nonneg _, rfl⟩ (zScn_t4 ho) g rfl ?_
    refine w_callv (as := [(2, 234), (0, (mem15 (o + 4) (x3).toNat))]) [] 118 rfl rfl rfl rfl (Nat.le_of_ble_eq_true rfl) (Nat.le_of_ble_eq_true rfl) (Nat.le_of_ble_eq_true rfl) (Or.inr rfl) (Cv.imp h (fun mem16 h => ?_))
    refine zW.go 2 120 [(2, 234), (2, ((p : Nat) : Int)), (2, ((o : Nat) : Int)), (0, x3), z4] [(2, ((o : Nat) : Int)), (2, 234)] _ rfl ?_
    refine w_getL (q := o) (v := ((o + 5 : Nat) : Int)) rfl (by decide) (pc' := 123) rfl ⟨Int.natCast_nonneg _, rfl⟩ (zScn_t0 ho) rfl (zScn_r0_7 ho) ?_
    refine zW.go 1 124 [(2, 234), (2, ((p : Nat) : Int)), (2, ((o : Nat) : Int)), (0, x3), z4] [(0, x3), (2, ((o + 5 : Nat) : Int)), (2, 234)] _ rfl ?_
    obtain ⟨g, h⟩ := h
    refine w_iald (q := (o + 5)) rfl (by decide) (pc' := 125) rfl ⟨Int.natCast_nonneg _, rfl⟩ (zScn_t5 ho) g rfl ?_
    refine w_callv (as := [(2, 234), (0, (mem16 (o + 5) (x3).toNat))]) [] 128 rfl rfl rfl rfl (Nat.le_of_ble_eq_true rfl) (Nat.le_of_ble_eq_true rfl) (Nat.le_of_ble_eq_true rfl) (Or.inr rfl) (Cv.imp h (fun mem17 h => ?_))
    refine zW.go 2 79 [(2, 234), (2, ((p : Nat) : Int)), (2, ((o : Nat) : Int)), (0, (x3 + 1)), z4] [] _ rfl ?_
    exact h z4
set_option maxRecDepth 4000 in
theorem s_images_write_136 {X : zX} {d : Nat} {rf mem : zF} {Q : Int → zF → Prop} (hR : zall rf zRK = true) {p : Nat} (hp : zPln rf p) {o : Nat} (ho : zScn rf o) {x3 : Int} (h : Ci X d 61 [(2, ((p : Nat) : Int)), (0, 2)] rf mem (fun r18 mem19 => (inI x3 ∧ inI r18) ∧ ((r18 ≤ x3 → L_images_write_194 X d rf Q mem19 p o 197 0) ∧ (¬ r18 ≤ x3 → (0 ≤ x3 ∧ x3 < 6) ∧ ((inI (mem19 (o + 6) (x3).toNat)) ∧ ((¬ (mem19 (o + 6) (x3).toNat) = (-1) → (0 ≤ x3 ∧ x3 < 6) ∧ (L_images_write_168 X d rf Q mem19 p o x3 (mem19 (o + 6) (x3).toNat))) ∧ ((mem19 (o + 6) (x3).toNat) = (-1) → L_images_write_168 X d rf Q mem19 p o x3 255))))))) : L_images_write_136 X d rf Q mem p o x3 := by
  intro z4
  refine zW.go 3 139 [(2, 234), (2, ((p : Nat) : Int)), (2, ((o : Nat) : Int)), (0, x3), z4] [(0, 2), (2, ((p : Nat) : Int)), (0, x3)] _ rfl ?_
  refine w_calli (as := [(2, ((p : Nat) : Int)), (0, 2)]) [(0, x3)] 142 rfl rfl rfl rfl (Nat.le_of_ble_eq_true rfl) (Nat.le_of_ble_eq_true rfl) (Nat.le_of_ble_eq_true rfl) (Or.inr (zrcv_o (zPln_t0 hp))) (Ci.imp h (fun r18 mem19 h => ?_))
  refine w_ic_ge rfl (by decide) (pc' := 145) rfl h.1 (fun c20 => ?_) (fun c20 => ?_)
  · have h := h.2.1 c20
    refine zW.go 4 194 [(2, 234), (2, ((p : Nat) : Int)), (2, ((o : Nat) : Int)), (0, 197), (0, 0)] [] _ rfl ?_
    exact h (2, ((p : Nat) : Int)) (2, ((o : Nat) : Int)) (by show (2 : Nat) ≠ 1; decide)
  · have h := h.2.2 c20
    refine zW.go 2 147 [(2, 234), (2, ((p : Nat) : Int)), (2, ((o : Nat) : Int)), (0, x3), z4] [(2, ((o : Nat) : Int)), (2, 234)] _ rfl ?_
    refine w_getL (q := o) (v := ((o + 6 : Nat) : Int)) rfl (by decide) (pc' := 150) rfl ⟨Int.natCast_nonneg _, rfl⟩ (zScn_t0 ho) rfl (zScn_r0_8 ho) ?_
    refine zW.go 1 151 [(2, 234), (2, ((p : Nat) : Int)), (2, ((o : Nat) : Int)), (0, x3), z4] [(0, x3), (2, ((o + 6 : Nat) : Int)), (2, 234)] _ rfl ?_
    obtain ⟨g, h⟩ := h
    refine w_iald (q := (o + 6)) rfl (by decide) (pc' := 152) rfl ⟨Int.natCast_nonneg _, rfl⟩ (zScn_t6 ho) g rfl ?_
    refine zW.go 1 153 [(2, 234), (2, ((p : Nat) : Int)), (2, ((o : Nat) : Int)), (0, x3), z4] [(0, (-1)), (0, (mem19 (o + 6) (x3).toNat)), (2, 234)] _ rfl ?_
    refine w_ic_ne rfl (by decide) (pc' := 156) rfl ⟨h.1, by decide⟩ (fun c21 => ?_) (fun c21 => ?_)
    · have h := h.2.1 c21
      refine zW.go 1 163 [(2, 234), (2, ((p : Nat) : Int)), (2, ((o : Nat) : Int)), (0, x3), z4] [(2, ((o : Nat) : Int)), (2, 234)] _ rfl ?_
      refine w_getL (q := o) (v := ((o + 6 : Nat) : Int)) rfl (by decide) (pc' := 166) rfl ⟨Int.natCast_nonneg _, rfl⟩ (zScn_t0 ho) rfl (zScn_r0_8 ho) ?_
      refine zW.go 1 167 [(2, 234), (2, ((p : Nat) : Int)), (2, ((o : Nat) : Int)), (0, x3), z4] [(0, x3), (2, ((o + 6 : Nat) : Int)), (2, 234)] _ rfl ?_
      obtain ⟨g, h⟩ := h
      refine w_iald (q := (o + 6)) rfl (by decide) (pc' := 168) rfl ⟨Int.natCast_nonneg _, rfl⟩ (zScn_t6 ho) g rfl ?_
      exact h z4
    · have h := h.2.2 c21
      refine zW.go 2 168 [(2, 234), (2, ((p : Nat) : Int)), (2, ((o : Nat) : Int)), (0, x3), z4] [(0, 255), (2, 234)] _ rfl ?_
      exact h z4
set_option maxRecDepth 4000 in
theorem s_images_write_194 {X : zX} {d : Nat} {rf mem : zF} {Q : Int → zF → Prop} (hR : zall rf zRK = true) {p : Nat} (hp : zPln rf p) {o : Nat} (ho : zScn rf o) {x3 : Int} {x4 : Int} (h : (inI x4 ∧ inI (mem 234 1)) ∧ (((mem 234 1) ≤ x4 → Cv X d 8 [(2, 234), (0, x3)] rf mem (fun mem23 => Q (mem23 234 1) mem23)) ∧ (¬ (mem 234 1) ≤ x4 → (inI x4) ∧ ((71 ≤ x4 → Cv X d 8 [(2, 234), (0, x3)] rf mem (fun mem25 => Q (mem25 234 1) mem25)) ∧ (¬ 71 ≤ x4 → (0 ≤ x4 ∧ x4 < 71) ∧ (Ci X d 7 [(0, x3), (0, (mem 235 (x4).toNat))] rf mem (fun r26 mem27 => L_images_write_194 X d rf Q mem27 p o r26 (x4 + 1)))))))) : L_images_write_194 X d rf Q mem p o x3 x4 := by
  intro z1 z2 hz2
  refine zW.go 2 197 [(2, 234), z1, z2, (0, x3), (0, x4)] [(2, 234), (0, x4)] _ rfl ?_
  refine w_getI (q := 234) rfl (by decide) (pc' := 200) rfl ⟨by decide, rfl⟩ rfl (by decide) ?_
  refine w_ic_ge rfl (by decide) (pc' := 203) rfl h.1 (fun c22 => ?_) (fun c22 => ?_)
  · have h := h.2.1 c22
    refine zW.go 2 233 [(2, 234), z1, z2, (0, x3), (0, x4)] [(0, x3), (2, 234)] _ rfl ?_
    refine w_callv (as := [(2, 234), (0, x3)]) [] 236 rfl rfl rfl rfl (Nat.le_of_ble_eq_true rfl) (Nat.le_of_ble_eq_true rfl) (Nat.le_of_ble_eq_true rfl) (Or.inr rfl) (Cv.imp h (fun mem23 h => ?_))
    refine zW.go 1 237 [(2, 234), z1, z2, (0, x3), (0, x4)] [(2, 234)] _ rfl ?_
    refine w_getI (q := 234) rfl (by decide) (pc' := 240) rfl ⟨by decide, rfl⟩ rfl (by decide) ?_
    exact w_reti rfl rfl h
  · have h := h.2.2 c22
    refine zW.go 2 206 [(2, 234), z1, z2, (0, x3), (0, x4)] [(2, 234), (0, x4)] _ rfl ?_
    refine w_getL (q := 234) (v := 235) rfl (by decide) (pc' := 209) rfl ⟨by decide, rfl⟩ rfl rfl (zall_at hR (by decide)) ?_
    refine w_alen (q := 235) rfl (by decide) (pc' := 210) rfl ⟨by decide, rfl⟩ rfl (by decide) ?_
    refine w_ic_ge rfl (by decide) (pc' := 213) rfl ⟨h.1, by decide⟩ (fun c24 => ?_) (fun c24 => ?_)
    · have h := h.2.1 c24
      refine zW.go 2 233 [(2, 234), z1, z2, (0, x3), (0, x4)] [(0, x3), (2, 234)] _ rfl ?_
      refine w_callv (as := [(2, 234), (0, x3)]) [] 236 rfl rfl rfl rfl (Nat.le_of_ble_eq_true rfl) (Nat.le_of_ble_eq_true rfl) (Nat.le_of_ble_eq_true rfl) (Or.inr rfl) (Cv.imp h (fun mem25 h => ?_))
      refine zW.go 1 237 [(2, 234), z1, z2, (0, x3), (0, x4)] [(2, 234)] _ rfl ?_
      refine w_getI (q := 234) rfl (by decide) (pc' := 240) rfl ⟨by decide, rfl⟩ rfl (by decide) ?_
      exact w_reti rfl rfl h
    · have h := h.2.2 c24
      refine zW.go 2 215 [(2, 234), z1, z2, (0, x3), (0, x4)] [(2, 234), (0, x3)] _ rfl ?_
      refine w_getL (q := 234) (v := 235) rfl (by decide) (pc' := 218) rfl ⟨by decide, rfl⟩ rfl rfl (zall_at hR (by decide)) ?_
      refine zW.go 1 220 [(2, 234), z1, z2, (0, x3), (0, x4)] [(0, x4), (2, 235), (0, x3)] _ rfl ?_
      obtain ⟨g, h⟩ := h
      refine w_iald (q := 235) rfl (by decide) (pc' := 221) rfl ⟨by decide, rfl⟩ rfl g rfl ?_
      refine w_calli (as := [(0, x3), (0, (mem 235 (x4).toNat))]) [] 224 rfl rfl rfl rfl (Nat.le_of_ble_eq_true rfl) (Nat.le_of_ble_eq_true rfl) (Nat.le_of_ble_eq_true rfl) (Or.inl rfl) (Ci.imp h (fun r26 mem27 h => ?_))
      refine zW.step 225 [(2, 234), z1, z2, (0, r26), (0, x4)] [] _ rfl (by decide) (by decide) (by show some (_, zst1 [(2, 234), z1, z2, (0, x3), (0, x4)] 3 _, _, _) = _; rw [zst1_z (ls := [(2, 234), z1, z2, (0, x3), (0, x4)]) (i := 3) hz2]; rfl) ?_
      refine zW.go 2 194 [(2, 234), z1, z2, (0, r26), (0, (x4 + 1))] [] _ rfl ?_
      exact h z1 z2 hz2
set_option maxRecDepth 4000 in
theorem s_images_write_168 {X : zX} {d : Nat} {rf mem : zF} {Q : Int → zF → Prop} (hR : zall rf zRK = true) {p : Nat} (hp : zPln rf p) {o : Nat} (ho : zScn rf o) {x3 : Int} {s1 : Int} (h : Cv X d 8 [(2, 234), (0, s1)] rf mem (fun mem28 => (0 ≤ x3 ∧ x3 < 6) ∧ (Cv X d 9 [(2, 234), (0, (mem28 (o + 7) (x3).toNat))] rf mem28 (fun mem29 => L_images_write_136 X d rf Q mem29 p o (x3 + 1))))) : L_images_write_168 X d rf Q mem p o x3 s1 := by
  intro z4
  refine w_callv (as := [(2, 234), (0, s1)]) [] 171 rfl rfl rfl rfl (Nat.le_of_ble_eq_true rfl) (Nat.le_of_ble_eq_true rfl) (Nat.le_of_ble_eq_true rfl) (Or.inr rfl) (Cv.imp h (fun mem28 h => ?_))
  refine zW.go 2 173 [(2, 234), (2, ((p : Nat) : Int)), (2, ((o : Nat) : Int)), (0, x3), z4] [(2, ((o : Nat) : Int)), (2, 234)] _ rfl ?_
  refine w_getL (q := o) (v := ((o + 7 : Nat) : Int)) rfl (by decide) (pc' := 176) rfl ⟨Int.natCast_nonneg _, rfl⟩ (zScn_t0 ho) rfl (zScn_r0_9 ho) ?_
  refine zW.go 1 177 [(2, 234), (2, ((p : Nat) : Int)), (2, ((o : Nat) : Int)), (0, x3), z4] [(0, x3), (2, ((o + 7 : Nat) : Int)), (2, 234)] _ rfl ?_
  obtain ⟨g, h⟩ := h
  refine w_iald (q := (o + 7)) rfl (by decide) (pc' := 178) rfl ⟨Int.natCast_nonneg _, rfl⟩ (zScn_t7 ho) g rfl ?_
  refine w_callv (as := [(2, 234), (0, (mem28 (o + 7) (x3).toNat))]) [] 181 rfl rfl rfl rfl (Nat.le_of_ble_eq_true rfl) (Nat.le_of_ble_eq_true rfl) (Nat.le_of_ble_eq_true rfl) (Or.inr rfl) (Cv.imp h (fun mem29 h => ?_))
  refine zW.go 2 136 [(2, 234), (2, ((p : Nat) : Int)), (2, ((o : Nat) : Int)), (0, (x3 + 1)), z4] [] _ rfl ?_
  exact h z4
set_option maxRecDepth 4000 in
theorem s_images_write {X : zX} {d : Nat} {rf mem : zF} {Q : Int → zF → Prop} (hR : zall rf zRK = true) {p : Nat} (hp : zPln rf p) {o : Nat} (ho : zScn rf o) (h : Cv X d 9 [(2, 234), (0, ((zup mem 234 1 0) o 0))] rf (zup mem 234 1 0) (fun mem1 => Cv X d 10 [(2, 234), (0, (mem1 o 1))] rf mem1 (fun mem2 => L_images_write_23 X d rf Q mem2 p o 0))) : Ci X (d + 1) 6 [(2, 234), (2, ((p : Nat) : Int)), (2, ((o : Nat) : Int))] rf mem Q := by
  show zW X (d + 1) 6 0 [(2, 234), (2, ((p : Nat) : Int)), (2, ((o : Nat) : Int)), (9, 0), (9, 0)] [] (zty, rf, mem) (qi rf Q)
  refine zW.go 2 2 [(2, 234), (2, ((p : Nat) : Int)), (2, ((o : Nat) : Int)), (9, 0), (9, 0)] [(0, 0), (2, 234)] _ rfl ?_
  refine w_putI (q := 234) rfl (by decide) (pc' := 5) rfl ⟨by decide, rfl⟩ rfl (by decide) ?_
  refine zW.go 2 7 [(2, 234), (2, ((p : Nat) : Int)), (2, ((o : Nat) : Int)), (9, 0), (9, 0)] [(2, ((o : Nat) : Int)), (2, 234)] _ rfl ?_
  refine w_getI (q := o) rfl (by decide) (pc' := 10) rfl ⟨Int.natCast_nonneg _, rfl⟩ (zScn_t0 ho) (by decide) ?_
  refine w_callv (as := [(2, 234), (0, ((zup mem 234 1 0) o 0))]) [] 13 rfl rfl rfl rfl (Nat.le_of_ble_eq_true rfl) (Nat.le_of_ble_eq_true rfl) (Nat.le_of_ble_eq_true rfl) (Or.inr rfl) (Cv.imp h (fun mem1 h => ?_))
  refine zW.go 2 15 [(2, 234), (2, ((p : Nat) : Int)), (2, ((o : Nat) : Int)), (9, 0), (9, 0)] [(2, ((o : Nat) : Int)), (2, 234)] _ rfl ?_
  refine w_getI (q := o) rfl (by decide) (pc' := 18) rfl ⟨Int.natCast_nonneg _, rfl⟩ (zScn_t0 ho) (by decide) ?_
  refine w_callv (as := [(2, 234), (0, (mem1 o 1))]) [] 21 rfl rfl rfl rfl (Nat.le_of_ble_eq_true rfl) (Nat.le_of_ble_eq_true rfl) (Nat.le_of_ble_eq_true rfl) (Or.inr rfl) (Cv.imp h (fun mem2 h => ?_))
  refine zW.go 2 23 [(2, 234), (2, ((p : Nat) : Int)), (2, ((o : Nat) : Int)), (0, 0), (9, 0)] [] _ rfl ?_
  exact h (9, 0)
set_option maxRecDepth 4000 in
theorem s_images_checkOn {X : zX} {d : Nat} {rf mem : zF} {Q : Int → zF → Prop} (hR : zall rf zRK = true) {x0 : Int} {x1 : Int} (h : (inI ((5 * x0) + x1)) ∧ (Q (((5 * x0) + x1).tmod 251) mem)) : Ci X d 7 [(0, x0), (0, x1)] rf mem Q := by
  show zW X d 7 0 [(0, x0), (0, x1)] [] (zty, rf, mem) (qi rf Q)
  refine zW.go 6 8 [(0, x0), (0, x1)] [(0, 251), (0, ((5 * x0) + x1))] _ rfl ?_
  obtain ⟨g, h⟩ := h
  refine w_irem rfl (by decide) (pc' := 9) rfl ⟨g, by decide, by decide⟩ ?_
  exact w_reti rfl rfl h
set_option maxRecDepth 4000 in
theorem s_images_put {X : zX} {d : Nat} {rf mem : zF} {Q : zF → Prop} (hR : zall rf zRK = true) {x1 : Int} (h : (inI (mem 234 1)) ∧ (((mem 234 1) < 0 → Q mem) ∧ (¬ (mem 234 1) < 0 → (inI (mem 234 1)) ∧ ((71 ≤ (mem 234 1) → Q mem) ∧ (¬ 71 ≤ (mem 234 1) → (0 ≤ (mem 234 1) ∧ (mem 234 1) < 71) ∧ (Q (zup (zup mem 235 ((mem 234 1)).toNat x1) 234 1 ((mem 234 1) + 1)))))))) : Cv X d 8 [(2, 234), (0, x1)] rf mem Q := by
  show zW X d 8 0 [(2, 234), (0, x1)] [] (zty, rf, mem) (qv rf Q)
  refine zW.go 1 1 [(2, 234), (0, x1)] [(2, 234)] _ rfl ?_
  refine w_getI (q := 234) rfl (by decide) (pc' := 4) rfl ⟨by decide, rfl⟩ rfl (by decide) ?_
  refine w_if_lt rfl (by decide) (pc' := 7) rfl h.1 (fun c1 => ?_) (fun c1 => ?_)
  · have h := h.2.1 c1
    exact w_retv rfl rfl h
  · have h := h.2.2 c1
    refine zW.go 1 8 [(2, 234), (0, x1)] [(2, 234)] _ rfl ?_
    refine w_getI (q := 234) rfl (by decide) (pc' := 11) rfl ⟨by decide, rfl⟩ rfl (by decide) ?_
    refine zW.go 1 12 [(2, 234), (0, x1)] [(2, 234), (0, (mem 234 1))] _ rfl ?_
    refine w_getL (q := 234) (v := 235) rfl (by decide) (pc' := 15) rfl ⟨by decide, rfl⟩ rfl rfl (zall_at hR (by decide)) ?_
    refine w_alen (q := 235) rfl (by decide) (pc' := 16) rfl ⟨by decide, rfl⟩ rfl (by decide) ?_
    refine w_ic_ge rfl (by decide) (pc' := 19) rfl ⟨h.1, by decide⟩ (fun c2 => ?_) (fun c2 => ?_)
    · have h := h.2.1 c2
      exact w_retv rfl rfl h
    · have h := h.2.2 c2
      refine zW.go 1 20 [(2, 234), (0, x1)] [(2, 234)] _ rfl ?_
      refine w_getL (q := 234) (v := 235) rfl (by decide) (pc' := 23) rfl ⟨by decide, rfl⟩ rfl rfl (zall_at hR (by decide)) ?_
      refine zW.go 1 24 [(2, 234), (0, x1)] [(2, 234), (2, 235)] _ rfl ?_
      refine w_getI (q := 234) rfl (by decide) (pc' := 27) rfl ⟨by decide, rfl⟩ rfl (by decide) ?_
      refine zW.go 1 28 [(2, 234), (0, x1)] [(0, x1), (0, (mem 234 1)), (2, 235)] _ rfl ?_
      obtain ⟨g, h⟩ := h
      refine w_iast (q := 235) rfl (by decide) (pc' := 29) rfl ⟨by decide, rfl⟩ rfl g rfl ?_
      refine zW.go 2 31 [(2, 234), (0, x1)] [(2, 234), (2, 234)] _ rfl ?_
      refine w_getI (q := 234) rfl (by decide) (pc' := 34) rfl ⟨by decide, rfl⟩ rfl (by decide) ?_
      refine zW.go 2 36 [(2, 234), (0, x1)] [(0, ((mem 234 1) + 1)), (2, 234)] _ rfl ?_
      refine w_putI (q := 234) rfl (by decide) (pc' := 39) rfl ⟨by decide, rfl⟩ rfl (by decide) ?_
      exact w_retv rfl rfl h
set_option maxRecDepth 4000 in
theorem s_images_putTwo {X : zX} {d : Nat} {rf mem : zF} {Q : zF → Prop} (hR : zall rf zRK = true) {x1 : Int} (h : (inI x1) ∧ (Cv X d 8 [(2, 234), (0, (x1.tdiv 256))] rf mem (fun mem1 => (inI x1) ∧ (Cv X d 8 [(2, 234), (0, (x1.tmod 256))] rf mem1 (fun mem2 => Q mem2))))) : Cv X (d + 1) 9 [(2, 234), (0, x1)] rf mem Q := by
  show zW X (d + 1) 9 0 [(2, 234), (0, x1)] [] (zty, rf, mem) (qv rf Q)
  refine zW.go 3 5 [(2, 234), (0, x1)] [(0, 256), (0, x1), (2, 234)] _ rfl ?_
  obtain ⟨g, h⟩ := h
  refine w_idiv rfl (by decide) (pc' := 6) rfl ⟨g, by decide, by decide⟩ ?_
  refine w_callv (as := [(2, 234), (0, (x1.tdiv 256))]) [] 9 rfl rfl rfl rfl (Nat.le_of_ble_eq_true rfl) (Nat.le_of_ble_eq_true rfl) (Nat.le_of_ble_eq_true rfl) (Or.inr rfl) (Cv.imp h (fun mem1 h => ?_))
  refine zW.go 3 14 [(2, 234), (0, x1)] [(0, 256), (0, x1), (2, 234)] _ rfl ?_
  obtain ⟨g, h⟩ := h
  refine w_irem rfl (by decide) (pc' := 15) rfl ⟨g, by decide, by decide⟩ ?_
  refine w_callv (as := [(2, 234), (0, (x1.tmod 256))]) [] 18 rfl rfl rfl rfl (Nat.le_of_ble_eq_true rfl) (Nat.le_of_ble_eq_true rfl) (Nat.le_of_ble_eq_true rfl) (Or.inr rfl) (Cv.imp h (fun mem2 h => ?_))
  exact w_retv rfl rfl h
def L_images_putCell_16 (X : zX) (d : Nat) (rf : zF) (Q : zF → Prop) (mem : zF) (x1 : Int) (s1 : Int) : Prop := zW X (d + 1) 10 16 [(2, 234), (0, x1)] [(0, s1), (2, 234)] (zty, rf, mem) (qv rf Q)
set_option maxRecDepth 4000 in
theorem s_images_putCell_16 {X : zX} {d : Nat} {rf mem : zF} {Q : zF → Prop} (hR : zall rf zRK = true) {x1 : Int} {s1 : Int} (h : Cv X d 8 [(2, 234), (0, s1)] rf mem (fun mem2 => (inI x1) ∧ ((¬ x1 = (-1) → (inI x1) ∧ (Cv X d 8 [(2, 234), (0, (x1.tdiv 8))] rf mem2 (fun mem4 => Q mem4))) ∧ (x1 = (-1) → Cv X d 8 [(2, 234), (0, 255)] rf mem2 (fun mem5 => Q mem5))))) : L_images_putCell_16 X d rf Q mem x1 s1 := by
  refine w_callv (as := [(2, 234), (0, s1)]) [] 19 rfl rfl rfl rfl (Nat.le_of_ble_eq_true rfl) (Nat.le_of_ble_eq_true rfl) (Nat.le_of_ble_eq_true rfl) (Or.inr rfl) (Cv.imp h (fun mem2 h => ?_))
  refine zW.go 3 22 [(2, 234), (0, x1)] [(0, (-1)), (0, x1), (2, 234)] _ rfl ?_
  refine w_ic_ne rfl (by decide) (pc' := 25) rfl ⟨h.1, by decide⟩ (fun c3 => ?_) (fun c3 => ?_)
  · have h := h.2.1 c3
    refine zW.go 2 34 [(2, 234), (0, x1)] [(0, 8), (0, x1), (2, 234)] _ rfl ?_
    obtain ⟨g, h⟩ := h
    refine w_idiv rfl (by decide) (pc' := 35) rfl ⟨g, by decide, by decide⟩ ?_
    refine w_callv (as := [(2, 234), (0, (x1.tdiv 8))]) [] 38 rfl rfl rfl rfl (Nat.le_of_ble_eq_true rfl) (Nat.le_of_ble_eq_true rfl) (Nat.le_of_ble_eq_true rfl) (Or.inr rfl) (Cv.imp h (fun mem4 h => ?_))
    exact w_retv rfl rfl h
  · have h := h.2.2 c3
    refine zW.go 2 35 [(2, 234), (0, x1)] [(0, 255), (2, 234)] _ rfl ?_
    refine w_callv (as := [(2, 234), (0, 255)]) [] 38 rfl rfl rfl rfl (Nat.le_of_ble_eq_true rfl) (Nat.le_of_ble_eq_true rfl) (Nat.le_of_ble_eq_true rfl) (Or.inr rfl) (Cv.imp h (fun mem5 h => ?_))
    exact w_retv rfl rfl h
set_option maxRecDepth 4000 in
theorem s_images_putCell {X : zX} {d : Nat} {rf mem : zF} {Q : zF → Prop} (hR : zall rf zRK = true) {x1 : Int} (h : (inI x1) ∧ ((¬ x1 = (-1) → (inI x1) ∧ (L_images_putCell_16 X d rf Q mem x1 (x1.tmod 8))) ∧ (x1 = (-1) → L_images_putCell_16 X d rf Q mem x1 255))) : Cv X (d + 1) 10 [(2, 234), (0, x1)] rf mem Q := by
  show zW X (d + 1) 10 0 [(2, 234), (0, x1)] [] (zty, rf, mem) (qv rf Q)
  refine zW.go 3 3 [(2, 234), (0, x1)] [(0, (-1)), (0, x1), (2, 234)] _ rfl ?_
  refine w_ic_ne rfl (by decide) (pc' := 6) rfl ⟨h.1, by decide⟩ (fun c1 => ?_) (fun c1 => ?_)
  · have h := h.2.1 c1
    refine zW.go 2 15 [(2, 234), (0, x1)] [(0, 8), (0, x1), (2, 234)] _ rfl ?_
    obtain ⟨g, h⟩ := h
    refine w_irem rfl (by decide) (pc' := 16) rfl ⟨g, by decide, by decide⟩ ?_
    exact h
  · have h := h.2.2 c1
    refine zW.go 2 16 [(2, 234), (0, x1)] [(0, 255), (2, 234)] _ rfl ?_
    exact h
set_option maxRecDepth 4000 in
theorem s_images_read {X : zX} {d : Nat} {rf mem : zF} {Q : Int → zF → Prop} (hR : zall rf zRK = true) {p : Nat} (hp : zPln rf p) (h : Cv X d 85 [(2, 236), (2, ((p : Nat) : Int))] rf (zup mem 234 3 0) (fun mem1 => Ci X d 12 [(2, 234), (2, 1), (2, ((p : Nat) : Int))] rf mem1 (fun r2 mem3 => (inI r2) ∧ ((r2 = 0 → Q 0 mem3) ∧ (¬ r2 = 0 → Ci X d 15 [(2, 234), (2, 1), (2, ((p : Nat) : Int))] rf mem3 (fun r5 mem6 => (inI r5) ∧ ((r5 = 0 → Q 0 mem6) ∧ (¬ r5 = 0 → Ci X d 17 [(2, 234), (2, 1), (2, ((p : Nat) : Int))] rf mem6 (fun r8 mem9 => (inI r8) ∧ ((r8 = 0 → Q 0 mem9) ∧ (¬ r8 = 0 → Ci X d 18 [(2, 234), (2, 1), (2, ((p : Nat) : Int))] rf mem9 (fun r11 mem12 => (inI r11) ∧ ((r11 = 0 → Q 0 mem12) ∧ (¬ r11 = 0 → Ci X d 19 [(2, 234), (2, 1), (2, ((p : Nat) : Int))] rf mem12 (fun r14 mem15 => (inI r14) ∧ ((r14 = 0 → Q 0 mem15) ∧ (¬ r14 = 0 → Ci X d 22 [(2, 234), (2, 1), (2, ((p : Nat) : Int))] rf mem15 (fun r17 mem18 => (inI r17) ∧ ((r17 = 0 → Q 0 mem18) ∧ (¬ r17 = 0 → Q 1 mem18)))))))))))))))))))) : Ci X (d + 1) 11 [(2, 234), (2, 1), (2, ((p : Nat) : Int))] rf mem Q := by
  show zW X (d + 1) 11 0 [(2, 234), (2, 1), (2, ((p : Nat) : Int))] [] (zty, rf, mem) (qi rf Q)
  refine zW.go 2 2 [(2, 234), (2, 1), (2, ((p : Nat) : Int))] [(0, 0), (2, 234)] _ rfl ?_
  refine w_putI (q := 234) rfl (by decide) (pc' := 5) rfl ⟨by decide, rfl⟩ rfl (by decide) ?_
  refine zW.go 1 6 [(2, 234), (2, 1), (2, ((p : Nat) : Int))] [(2, 234)] _ rfl ?_
  refine w_getL (q := 234) (v := 236) rfl (by decide) (pc' := 9) rfl ⟨by decide, rfl⟩ rfl rfl (zall_at hR (by decide)) ?_
  refine zW.go 1 10 [(2, 234), (2, 1), (2, ((p : Nat) : Int))] [(2, ((p : Nat) : Int)), (2, 236)] _ rfl ?_
  refine w_callv (as := [(2, 236), (2, ((p : Nat) : Int))]) [] 13 rfl rfl rfl rfl (Nat.le_of_ble_eq_true rfl) (Nat.le_of_ble_eq_true rfl) (Nat.le_of_ble_eq_true rfl) (Or.inr rfl) (Cv.imp h (fun mem1 h => ?_))
  refine zW.go 3 16 [(2, 234), (2, 1), (2, ((p : Nat) : Int))] [(2, ((p : Nat) : Int)), (2, 1), (2, 234)] _ rfl ?_
  refine w_calli (as := [(2, 234), (2, 1), (2, ((p : Nat) : Int))]) [] 19 rfl rfl rfl rfl (Nat.le_of_ble_eq_true rfl) (Nat.le_of_ble_eq_true rfl) (Nat.le_of_ble_eq_true rfl) (Or.inr rfl) (Ci.imp h (fun r2 mem3 h => ?_))
  refine w_if_eq rfl (by decide) (pc' := 22) rfl h.1 (fun c4 => ?_) (fun c4 => ?_)
  · have h := h.2.1 c4
    refine zW.go 1 72 [(2, 234), (2, 1), (2, ((p : Nat) : Int))] [(0, 0)] _ rfl ?_
    exact w_retz rfl rfl (by decide) h
  · have h := h.2.2 c4
    refine zW.go 3 25 [(2, 234), (2, 1), (2, ((p : Nat) : Int))] [(2, ((p : Nat) : Int)), (2, 1), (2, 234)] _ rfl ?_
    refine w_calli (as := [(2, 234), (2, 1), (2, ((p : Nat) : Int))]) [] 28 rfl rfl rfl rfl (Nat.le_of_ble_eq_true rfl) (Nat.le_of_ble_eq_true rfl) (Nat.le_of_ble_eq_true rfl) (Or.inr rfl) (Ci.imp h (fun r5 mem6 h => ?_))
    refine w_if_eq rfl (by decide) (pc' := 31) rfl h.1 (fun c7 => ?_) (fun c7 => ?_)
    · have h := h.2.1 c7
      refine zW.go 1 72 [(2, 234), (2, 1), (2, ((p : Nat) : Int))] [(0, 0)] _ rfl ?_
      exact w_retz rfl rfl (by decide) h
    · have h := h.2.2 c7
      refine zW.go 3 34 [(2, 234), (2, 1), (2, ((p : Nat) : Int))] [(2, ((p : Nat) : Int)), (2, 1), (2, 234)] _ rfl ?_
      refine w_calli (as := [(2, 234), (2, 1), (2, ((p : Nat) : Int))]) [] 37 rfl rfl rfl rfl (Nat.le_of_ble_eq_true rfl) (Nat.le_of_ble_eq_true rfl) (Nat.le_of_ble_eq_true rfl) (Or.inr rfl) (Ci.imp h (fun r8 mem9 h => ?_))
      refine w_if_eq rfl (by decide) (pc' := 40) rfl h.1 (fun c10 => ?_) (fun c10 => ?_)
      · have h := h.2.1 c10
        refine zW.go 1 72 [(2, 234), (2, 1), (2, ((p : Nat) : Int))] [(0, 0)] _ rfl ?_
        exact w_retz rfl rfl (by decide) h
      · have h := h.2.2 c10
        refine zW.go 3 43 [(2, 234), (2, 1), (2, ((p : Nat) : Int))] [(2, ((p : Nat) : Int)), (2, 1), (2, 234)] _ rfl ?_
        refine w_calli (as := [(2, 234), (2, 1), (2, ((p : Nat) : Int))]) [] 46 rfl rfl rfl rfl (Nat.le_of_ble_eq_true rfl) (Nat.le_of_ble_eq_true rfl) (Nat.le_of_ble_eq_true rfl) (Or.inr rfl) (Ci.imp h (fun r11 mem12 h => ?_))
        refine w_if_eq rfl (by decide) (pc' := 49) rfl h.1 (fun c13 => ?_) (fun c13 => ?_)
        · have h := h.2.1 c13
          refine zW.go 1 72 [(2, 234), (2, 1), (2, ((p : Nat) : Int))] [(0, 0)] _ rfl ?_
          exact w_retz rfl rfl (by decide) h
        · have h := h.2.2 c13
          refine zW.go 3 52 [(2, 234), (2, 1), (2, ((p : Nat) : Int))] [(2, ((p : Nat) : Int)), (2, 1), (2, 234)] _ rfl ?_
          refine w_calli (as := [(2, 234), (2, 1), (2, ((p : Nat) : Int))]) [] 55 rfl rfl rfl rfl (Nat.le_of_ble_eq_true rfl) (Nat.le_of_ble_eq_true rfl) (Nat.le_of_ble_eq_true rfl) (Or.inr rfl) (Ci.imp h (fun r14 mem15 h => ?_))
          refine w_if_eq rfl (by decide) (pc' := 58) rfl h.1 (fun c16 => ?_) (fun c16 => ?_)
          · have h := h.2.1 c16
            refine zW.go 1 72 [(2, 234), (2, 1), (2, ((p : Nat) : Int))] [(0, 0)] _ rfl ?_
            exact w_retz rfl rfl (by decide) h
          · have h := h.2.2 c16
            refine zW.go 3 61 [(2, 234), (2, 1), (2, ((p : Nat) : Int))] [(2, ((p : Nat) : Int)), (2, 1), (2, 234)] _ rfl ?_
            refine w_calli (as := [(2, 234), (2, 1), (2, ((p : Nat) : Int))]) [] 64 rfl rfl rfl rfl (Nat.le_of_ble_eq_true rfl) (Nat.le_of_ble_eq_true rfl) (Nat.le_of_ble_eq_true rfl) (Or.inr rfl) (Ci.imp h (fun r17 mem18 h => ?_))
            refine w_if_eq rfl (by decide) (pc' := 67) rfl h.1 (fun c19 => ?_) (fun c19 => ?_)
            · have h := h.2.1 c19
              refine zW.go 1 72 [(2, 234), (2, 1), (2, ((p : Nat) : Int))] [(0, 0)] _ rfl ?_
              exact w_retz rfl rfl (by decide) h
            · have h := h.2.2 c19
              refine zW.go 2 72 [(2, 234), (2, 1), (2, ((p : Nat) : Int))] [(0, 1)] _ rfl ?_
              exact w_retz rfl rfl (by decide) h
def L_images_isChecked_43 (X : zX) (d : Nat) (rf : zF) (Q : Int → zF → Prop) (mem : zF) (p : Nat) (x3 : Int) (x4 : Int) (x5 : Int) : Prop := ∀ z0 : zV, ∀ z2 : zV, zW X (d + 1) 12 43 [z0, (2, 1), z2, (0, x3), (0, x4), (0, x5)] [] (zty, rf, mem) (qi rf Q)
set_option maxRecDepth 4000 in
theorem s_images_isChecked_43 {X : zX} {d : Nat} {rf mem : zF} {Q : Int → zF → Prop} (hR : zall rf zRK = true) {p : Nat} (hp : zPln rf p) {x3 : Int} {x4 : Int} {x5 : Int} (h : (inI x5 ∧ inI (x3 - 1)) ∧ (((x3 - 1) ≤ x5 → Ci X d 125 [(2, 1), (0, (x3 - 1))] rf mem (fun r9 mem10 => (inI x4 ∧ inI r9) ∧ ((¬ x4 = r9 → Q 0 mem10) ∧ (x4 = r9 → Q 1 mem10)))) ∧ (¬ (x3 - 1) ≤ x5 → Ci X d 125 [(2, 1), (0, x5)] rf mem (fun r12 mem13 => Ci X d 7 [(0, x4), (0, r12)] rf mem13 (fun r14 mem15 => L_images_isChecked_43 X d rf Q mem15 p x3 r14 (x5 + 1)))))) : L_images_isChecked_43 X d rf Q mem p x3 x4 x5 := by
  intro z0 z2
  refine zW.go 4 48 [z0, (2, 1), z2, (0, x3), (0, x4), (0, x5)] [(0, (x3 - 1)), (0, x5)] _ rfl ?_
  refine w_ic_ge rfl (by decide) (pc' := 51) rfl h.1 (fun c8 => ?_) (fun c8 => ?_)
  · have h := h.2.1 c8
    refine zW.go 5 76 [z0, (2, 1), z2, (0, x3), (0, x4), (0, x5)] [(0, (x3 - 1)), (2, 1), (0, x4)] _ rfl ?_
    refine w_calli (as := [(2, 1), (0, (x3 - 1))]) [(0, x4)] 79 rfl rfl rfl rfl (Nat.le_of_ble_eq_true rfl) (Nat.le_of_ble_eq_true rfl) (Nat.le_of_ble_eq_true rfl) (Or.inr rfl) (Ci.imp h (fun r9 mem10 h => ?_))
    refine w_ic_ne rfl (by decide) (pc' := 82) rfl h.1 (fun c11 => ?_) (fun c11 => ?_)
    · have h := h.2.1 c11
      refine zW.go 1 87 [z0, (2, 1), z2, (0, x3), (0, x4), (0, x5)] [(0, 0)] _ rfl ?_
      exact w_retz rfl rfl (by decide) h
    · have h := h.2.2 c11
      refine zW.go 2 87 [z0, (2, 1), z2, (0, x3), (0, x4), (0, x5)] [(0, 1)] _ rfl ?_
      exact w_retz rfl rfl (by decide) h
  · have h := h.2.2 c8
    refine zW.go 3 56 [z0, (2, 1), z2, (0, x3), (0, x4), (0, x5)] [(0, x5), (2, 1), (0, x4)] _ rfl ?_
    refine w_calli (as := [(2, 1), (0, x5)]) [(0, x4)] 59 rfl rfl rfl rfl (Nat.le_of_ble_eq_true rfl) (Nat.le_of_ble_eq_true rfl) (Nat.le_of_ble_eq_true rfl) (Or.inr rfl) (Ci.imp h (fun r12 mem13 h => ?_))
    refine w_calli (as := [(0, x4), (0, r12)]) [] 62 rfl rfl rfl rfl (Nat.le_of_ble_eq_true rfl) (Nat.le_of_ble_eq_true rfl) (Nat.le_of_ble_eq_true rfl) (Or.inl rfl) (Ci.imp h (fun r14 mem15 h => ?_))
    refine zW.go 3 43 [z0, (2, 1), z2, (0, x3), (0, r14), (0, (x5 + 1))] [] _ rfl ?_
    exact h z0 z2
set_option maxRecDepth 4000 in
theorem s_images_isChecked {X : zX} {d : Nat} {rf mem : zF} {Q : Int → zF → Prop} (hR : zall rf zRK = true) {p : Nat} (hp : zPln rf p) (h : Ci X d 61 [(2, ((p : Nat) : Int)), (0, 0)] rf mem (fun r1 mem2 => Ci X d 61 [(2, ((p : Nat) : Int)), (0, 1)] rf mem2 (fun r3 mem4 => Ci X d 61 [(2, ((p : Nat) : Int)), (0, 2)] rf mem4 (fun r5 mem6 => (inI (mem6 1 1) ∧ inI (((5 + r1) + (2 * r3)) + (8 * r5))) ∧ (((mem6 1 1) = (((5 + r1) + (2 * r3)) + (8 * r5)) → L_images_isChecked_43 X d rf Q mem6 p (((5 + r1) + (2 * r3)) + (8 * r5)) 197 0) ∧ (¬ (mem6 1 1) = (((5 + r1) + (2 * r3)) + (8 * r5)) → Q 0 mem6)))))) : Ci X (d + 1) 12 [(2, 234), (2, 1), (2, ((p : Nat) : Int))] rf mem Q := by
  show zW X (d + 1) 12 0 [(2, 234), (2, 1), (2, ((p : Nat) : Int)), (9, 0), (9, 0), (9, 0)] [] (zty, rf, mem) (qi rf Q)
  refine zW.go 3 3 [(2, 234), (2, 1), (2, ((p : Nat) : Int)), (9, 0), (9, 0), (9, 0)] [(0, 0), (2, ((p : Nat) : Int)), (0, 5)] _ rfl ?_
  refine w_calli (as := [(2, ((p : Nat) : Int)), (0, 0)]) [(0, 5)] 6 rfl rfl rfl rfl (Nat.le_of_ble_eq_true rfl) (Nat.le_of_ble_eq_true rfl) (Nat.le_of_ble_eq_true rfl) (Or.inr (zrcv_o (zPln_t0 hp))) (Ci.imp h (fun r1 mem2 h => ?_))
  refine zW.go 4 10 [(2, 234), (2, 1), (2, ((p : Nat) : Int)), (9, 0), (9, 0), (9, 0)] [(0, 1), (2, ((p : Nat) : Int)), (0, 2), (0, (5 + r1))] _ rfl ?_
  refine w_calli (as := [(2, ((p : Nat) : Int)), (0, 1)]) [(0, 2), (0, (5 + r1))] 13 rfl rfl rfl rfl (Nat.le_of_ble_eq_true rfl) (Nat.le_of_ble_eq_true rfl) (Nat.le_of_ble_eq_true rfl) (Or.inr (zrcv_o (zPln_t0 hp))) (Ci.imp h (fun r3 mem4 h => ?_))
  refine zW.go 5 19 [(2, 234), (2, 1), (2, ((p : Nat) : Int)), (9, 0), (9, 0), (9, 0)] [(0, 2), (2, ((p : Nat) : Int)), (0, 8), (0, ((5 + r1) + (2 * r3)))] _ rfl ?_
  refine w_calli (as := [(2, ((p : Nat) : Int)), (0, 2)]) [(0, 8), (0, ((5 + r1) + (2 * r3)))] 22 rfl rfl rfl rfl (Nat.le_of_ble_eq_true rfl) (Nat.le_of_ble_eq_true rfl) (Nat.le_of_ble_eq_true rfl) (Or.inr (zrcv_o (zPln_t0 hp))) (Ci.imp h (fun r5 mem6 h => ?_))
  refine zW.go 4 26 [(2, 234), (2, 1), (2, ((p : Nat) : Int)), (0, (((5 + r1) + (2 * r3)) + (8 * r5))), (9, 0), (9, 0)] [(2, 1)] _ rfl ?_
  refine w_getI (q := 1) rfl (by decide) (pc' := 29) rfl ⟨by decide, rfl⟩ rfl (by decide) ?_
  refine zW.go 1 30 [(2, 234), (2, 1), (2, ((p : Nat) : Int)), (0, (((5 + r1) + (2 * r3)) + (8 * r5))), (9, 0), (9, 0)] [(0, (((5 + r1) + (2 * r3)) + (8 * r5))), (0, (mem6 1 1))] _ rfl ?_
  refine w_ic_eq rfl (by decide) (pc' := 33) rfl h.1 (fun c7 => ?_) (fun c7 => ?_)
  · have h := h.2.1 c7
    refine zW.go 4 43 [(2, 234), (2, 1), (2, ((p : Nat) : Int)), (0, (((5 + r1) + (2 * r3)) + (8 * r5))), (0, 197), (0, 0)] [] _ rfl ?_
    exact h (2, 234) (2, ((p : Nat) : Int))
  · have h := h.2.2 c7
    refine zW.go 1 34 [(2, 234), (2, 1), (2, ((p : Nat) : Int)), (0, (((5 + r1) + (2 * r3)) + (8 * r5))), (9, 0), (9, 0)] [(0, 0)] _ rfl ?_
    exact w_retz rfl rfl (by decide) h
set_option maxRecDepth 4000 in
theorem s_images_take {X : zX} {d : Nat} {rf mem : zF} {Q : Int → zF → Prop} (hR : zall rf zRK = true) (h : Ci X d 125 [(2, 1), (0, (((mem 234 3) + 1) - 1))] rf (zup mem 234 3 ((mem 234 3) + 1)) (fun r1 mem2 => Q r1 mem2)) : Ci X (d + 1) 13 [(2, 234), (2, 1)] rf mem Q := by
  show zW X (d + 1) 13 0 [(2, 234), (2, 1)] [] (zty, rf, mem) (qi rf Q)
  refine zW.go 2 2 [(2, 234), (2, 1)] [(2, 234), (2, 234)] _ rfl ?_
  refine w_getI (q := 234) rfl (by decide) (pc' := 5) rfl ⟨by decide, rfl⟩ rfl (by decide) ?_
  refine zW.go 2 7 [(2, 234), (2, 1)] [(0, ((mem 234 3) + 1)), (2, 234)] _ rfl ?_
  refine w_putI (q := 234) rfl (by decide) (pc' := 10) rfl ⟨by decide, rfl⟩ rfl (by decide) ?_
  refine zW.go 2 12 [(2, 234), (2, 1)] [(2, 234), (2, 1)] _ rfl ?_
  refine w_getI (q := 234) rfl (by decide) (pc' := 15) rfl ⟨by decide, rfl⟩ rfl (by decide) ?_
  refine zW.go 2 17 [(2, 234), (2, 1)] [(0, (((mem 234 3) + 1) - 1)), (2, 1)] _ rfl ?_
  refine w_calli (as := [(2, 1), (0, (((mem 234 3) + 1) - 1))]) [] 20 rfl rfl rfl rfl (Nat.le_of_ble_eq_true rfl) (Nat.le_of_ble_eq_true rfl) (Nat.le_of_ble_eq_true rfl) (Or.inr rfl) (Ci.imp h (fun r1 mem2 h => ?_))
  exact w_reti rfl rfl h
set_option maxRecDepth 4000 in
theorem s_images_takeTwo {X : zX} {d : Nat} {rf mem : zF} {Q : Int → zF → Prop} (hR : zall rf zRK = true) (h : Ci X d 13 [(2, 234), (2, 1)] rf mem (fun r1 mem2 => Ci X d 13 [(2, 234), (2, 1)] rf mem2 (fun r3 mem4 => Q ((256 * r1) + r3) mem4))) : Ci X (d + 1) 14 [(2, 234), (2, 1)] rf mem Q := by
  show zW X (d + 1) 14 0 [(2, 234), (2, 1), (9, 0)] [] (zty, rf, mem) (qi rf Q)
  refine zW.go 2 2 [(2, 234), (2, 1), (9, 0)] [(2, 1), (2, 234)] _ rfl ?_
  refine w_calli (as := [(2, 234), (2, 1)]) [] 5 rfl rfl rfl rfl (Nat.le_of_ble_eq_true rfl) (Nat.le_of_ble_eq_true rfl) (Nat.le_of_ble_eq_true rfl) (Or.inr rfl) (Ci.imp h (fun r1 mem2 h => ?_))
  refine zW.go 6 13 [(2, 234), (2, 1), (0, r1)] [(2, 1), (2, 234), (0, (256 * r1))] _ rfl ?_
  refine w_calli (as := [(2, 234), (2, 1)]) [(0, (256 * r1))] 16 rfl rfl rfl rfl (Nat.le_of_ble_eq_true rfl) (Nat.le_of_ble_eq_true rfl) (Nat.le_of_ble_eq_true rfl) (Or.inr rfl) (Ci.imp h (fun r3 mem4 h => ?_))
  refine zW.go 1 17 [(2, 234), (2, 1), (0, r1)] [(0, ((256 * r1) + r3))] _ rfl ?_
  exact w_reti rfl rfl h
set_option maxRecDepth 4000 in
theorem s_images_readTimeAndLamp {X : zX} {d : Nat} {rf mem : zF} {Q : Int → zF → Prop} (hR : zall rf zRK = true) {p : Nat} (hp : zPln rf p) (h : Ci X d 14 [(2, 234), (2, 1)] rf mem (fun r1 mem2 => Ci X d 13 [(2, 234), (2, 1)] rf (zup mem2 236 0 r1) (fun r3 mem4 => Ci X d 13 [(2, 234), (2, 1)] rf mem4 (fun r5 mem6 => Ci X d 69 [(2, ((p : Nat) : Int)), (0, r3), (0, r5)] rf mem6 (fun r7 mem8 => (inI (mem8 236 0)) ∧ ((999 < (mem8 236 0) → Q 0 (zup mem8 236 1 r7)) ∧ (¬ 999 < (mem8 236 0) → (inI r7) ∧ ((¬ r7 = (-1) → Q 1 (zup mem8 236 1 r7)) ∧ (r7 = (-1) → Ci X d 16 [(0, r3), (0, r5)] rf (zup mem8 236 1 r7) (fun r11 mem12 => (inI r11) ∧ ((r11 = 0 → Q 0 mem12) ∧ (¬ r11 = 0 → Q 1 mem12)))))))))))) : Ci X (d + 1) 15 [(2, 234), (2, 1), (2, ((p : Nat) : Int))] rf mem Q := by
  show zW X (d + 1) 15 0 [(2, 234), (2, 1), (2, ((p : Nat) : Int)), (9, 0), (9, 0)] [] (zty, rf, mem) (qi rf Q)
  refine zW.go 1 1 [(2, 234), (2, 1), (2, ((p : Nat) : Int)), (9, 0), (9, 0)] [(2, 234)] _ rfl ?_
  refine w_getL (q := 234) (v := 236) rfl (by decide) (pc' := 4) rfl ⟨by decide, rfl⟩ rfl rfl (zall_at hR (by decide)) ?_
  refine zW.go 2 6 [(2, 234), (2, 1), (2, ((p : Nat) : Int)), (9, 0), (9, 0)] [(2, 1), (2, 234), (2, 236)] _ rfl ?_
  refine w_calli (as := [(2, 234), (2, 1)]) [(2, 236)] 9 rfl rfl rfl rfl (Nat.le_of_ble_eq_true rfl) (Nat.le_of_ble_eq_true rfl) (Nat.le_of_ble_eq_true rfl) (Or.inr rfl) (Ci.imp h (fun r1 mem2 h => ?_))
  refine w_putI (q := 236) rfl (by decide) (pc' := 12) rfl ⟨by decide, rfl⟩ rfl (by decide) ?_
  refine zW.go 2 14 [(2, 234), (2, 1), (2, ((p : Nat) : Int)), (9, 0), (9, 0)] [(2, 1), (2, 234)] _ rfl ?_
  refine w_calli (as := [(2, 234), (2, 1)]) [] 17 rfl rfl rfl rfl (Nat.le_of_ble_eq_true rfl) (Nat.le_of_ble_eq_true rfl) (Nat.le_of_ble_eq_true rfl) (Or.inr rfl) (Ci.imp h (fun r3 mem4 h => ?_))
  refine zW.go 3 20 [(2, 234), (2, 1), (2, ((p : Nat) : Int)), (0, r3), (9, 0)] [(2, 1), (2, 234)] _ rfl ?_
  refine w_calli (as := [(2, 234), (2, 1)]) [] 23 rfl rfl rfl rfl (Nat.le_of_ble_eq_true rfl) (Nat.le_of_ble_eq_true rfl) (Nat.le_of_ble_eq_true rfl) (Or.inr rfl) (Ci.imp h (fun r5 mem6 h => ?_))
  refine zW.go 2 26 [(2, 234), (2, 1), (2, ((p : Nat) : Int)), (0, r3), (0, r5)] [(2, 234)] _ rfl ?_
  refine w_getL (q := 234) (v := 236) rfl (by decide) (pc' := 29) rfl ⟨by decide, rfl⟩ rfl rfl (zall_at hR (by decide)) ?_
  refine zW.go 3 33 [(2, 234), (2, 1), (2, ((p : Nat) : Int)), (0, r3), (0, r5)] [(0, r5), (0, r3), (2, ((p : Nat) : Int)), (2, 236)] _ rfl ?_
  refine w_calli (as := [(2, ((p : Nat) : Int)), (0, r3), (0, r5)]) [(2, 236)] 36 rfl rfl rfl rfl (Nat.le_of_ble_eq_true rfl) (Nat.le_of_ble_eq_true rfl) (Nat.le_of_ble_eq_true rfl) (Or.inr (zrcv_o (zPln_t0 hp))) (Ci.imp h (fun r7 mem8 h => ?_))
  refine w_putI (q := 236) rfl (by decide) (pc' := 39) rfl ⟨by decide, rfl⟩ rfl (by decide) ?_
  refine zW.go 1 40 [(2, 234), (2, 1), (2, ((p : Nat) : Int)), (0, r3), (0, r5)] [(2, 234)] _ rfl ?_
  refine w_getL (q := 234) (v := 236) rfl (by decide) (pc' := 43) rfl ⟨by decide, rfl⟩ rfl rfl (zall_at hR (by decide)) ?_
  refine w_getI (q := 236) rfl (by decide) (pc' := 46) rfl ⟨by decide, rfl⟩ rfl (by decide) ?_
  refine zW.go 1 49 [(2, 234), (2, 1), (2, ((p : Nat) : Int)), (0, r3), (0, r5)] [(0, 999), (0, (mem8 236 0))] _ rfl ?_
  refine w_ic_gt rfl (by decide) (pc' := 52) rfl ⟨h.1, by decide⟩ (fun c9 => ?_) (fun c9 => ?_)
  · have h := h.2.1 c9
    refine zW.go 1 77 [(2, 234), (2, 1), (2, ((p : Nat) : Int)), (0, r3), (0, r5)] [(0, 0)] _ rfl ?_
    exact w_retz rfl rfl (by decide) h
  · have h := h.2.2 c9
    refine zW.go 1 53 [(2, 234), (2, 1), (2, ((p : Nat) : Int)), (0, r3), (0, r5)] [(2, 234)] _ rfl ?_
    refine w_getL (q := 234) (v := 236) rfl (by decide) (pc' := 56) rfl ⟨by decide, rfl⟩ rfl rfl (zall_at hR (by decide)) ?_
    refine w_getI (q := 236) rfl (by decide) (pc' := 59) rfl ⟨by decide, rfl⟩ rfl (by decide) ?_
    refine zW.go 1 60 [(2, 234), (2, 1), (2, ((p : Nat) : Int)), (0, r3), (0, r5)] [(0, (-1)), (0, r7)] _ rfl ?_
    refine w_ic_ne rfl (by decide) (pc' := 63) rfl ⟨h.1, by decide⟩ (fun c10 => ?_) (fun c10 => ?_)
    · have h := h.2.1 c10
      refine zW.go 2 77 [(2, 234), (2, 1), (2, ((p : Nat) : Int)), (0, r3), (0, r5)] [(0, 1)] _ rfl ?_
      exact w_retz rfl rfl (by decide) h
    · have h := h.2.2 c10
      refine zW.go 2 66 [(2, 234), (2, 1), (2, ((p : Nat) : Int)), (0, r3), (0, r5)] [(0, r5), (0, r3)] _ rfl ?_
      refine w_calli (as := [(0, r3), (0, r5)]) [] 69 rfl rfl rfl rfl (Nat.le_of_ble_eq_true rfl) (Nat.le_of_ble_eq_true rfl) (Nat.le_of_ble_eq_true rfl) (Or.inl rfl) (Ci.imp h (fun r11 mem12 h => ?_))
      refine w_if_eq rfl (by decide) (pc' := 72) rfl h.1 (fun c13 => ?_) (fun c13 => ?_)
      · have h := h.2.1 c13
        refine zW.go 1 77 [(2, 234), (2, 1), (2, ((p : Nat) : Int)), (0, r3), (0, r5)] [(0, 0)] _ rfl ?_
        exact w_retz rfl rfl (by decide) h
      · have h := h.2.2 c13
        refine zW.go 2 77 [(2, 234), (2, 1), (2, ((p : Nat) : Int)), (0, r3), (0, r5)] [(0, 1)] _ rfl ?_
        exact w_retz rfl rfl (by decide) h
set_option maxRecDepth 4000 in
theorem s_images_isOutside {X : zX} {d : Nat} {rf mem : zF} {Q : Int → zF → Prop} (hR : zall rf zRK = true) {x0 : Int} {x1 : Int} (h : (inI x0) ∧ ((¬ x0 = 255 → Q 0 mem) ∧ (x0 = 255 → (inI x1) ∧ ((¬ x1 = 255 → Q 0 mem) ∧ (x1 = 255 → Q 1 mem))))) : Ci X d 16 [(0, x0), (0, x1)] rf mem Q := by
  show zW X d 16 0 [(0, x0), (0, x1)] [] (zty, rf, mem) (qi rf Q)
  refine zW.go 2 4 [(0, x0), (0, x1)] [(0, 255), (0, x0)] _ rfl ?_
  refine w_ic_ne rfl (by decide) (pc' := 7) rfl ⟨h.1, by decide⟩ (fun c1 => ?_) (fun c1 => ?_)
  · have h := h.2.1 c1
    refine zW.go 1 19 [(0, x0), (0, x1)] [(0, 0)] _ rfl ?_
    exact w_retz rfl rfl (by decide) h
  · have h := h.2.2 c1
    refine zW.go 2 11 [(0, x0), (0, x1)] [(0, 255), (0, x1)] _ rfl ?_
    refine w_ic_ne rfl (by decide) (pc' := 14) rfl ⟨h.1, by decide⟩ (fun c2 => ?_) (fun c2 => ?_)
    · have h := h.2.1 c2
      refine zW.go 1 19 [(0, x0), (0, x1)] [(0, 0)] _ rfl ?_
      exact w_retz rfl rfl (by decide) h
    · have h := h.2.2 c2
      refine zW.go 2 19 [(0, x0), (0, x1)] [(0, 1)] _ rfl ?_
      exact w_retz rfl rfl (by decide) h
def L_images_readDoors_10 (X : zX) (d : Nat) (rf : zF) (Q : Int → zF → Prop) (mem : zF) (p : Nat) (x3 : Int) : Prop := ∀ z4 : zV, zW X (d + 1) 17 10 [(2, 234), (2, 1), (2, ((p : Nat) : Int)), (0, x3), z4] [] (zty, rf, mem) (qi rf Q)
set_option maxRecDepth 4000 in
theorem s_images_readDoors_10 {X : zX} {d : Nat} {rf mem : zF} {Q : Int → zF → Prop} (hR : zall rf zRK = true) {p : Nat} (hp : zPln rf p) {x3 : Int} (h : Ci X d 61 [(2, ((p : Nat) : Int)), (0, 0)] rf mem (fun r1 mem2 => (inI x3 ∧ inI r1) ∧ ((r1 ≤ x3 → Q 1 mem2) ∧ (¬ r1 ≤ x3 → Ci X d 13 [(2, 234), (2, 1)] rf mem2 (fun r4 mem5 => (inI r4) ∧ ((r4 < 0 → Q 0 mem5) ∧ (¬ r4 < 0 → (inI r4) ∧ ((r4 ≤ 1 → L_images_readDoors_10 X d rf Q (zup mem5 236 2 (zor (mem5 236 2) (zshl r4 x3))) p (x3 + 1)) ∧ (¬ r4 ≤ 1 → Q 0 mem5))))))))) : L_images_readDoors_10 X d rf Q mem p x3 := by
  intro z4
  refine zW.go 3 13 [(2, 234), (2, 1), (2, ((p : Nat) : Int)), (0, x3), z4] [(0, 0), (2, ((p : Nat) : Int)), (0, x3)] _ rfl ?_
  refine w_calli (as := [(2, ((p : Nat) : Int)), (0, 0)]) [(0, x3)] 16 rfl rfl rfl rfl (Nat.le_of_ble_eq_true rfl) (Nat.le_of_ble_eq_true rfl) (Nat.le_of_ble_eq_true rfl) (Or.inr (zrcv_o (zPln_t0 hp))) (Ci.imp h (fun r1 mem2 h => ?_))
  refine w_ic_ge rfl (by decide) (pc' := 19) rfl h.1 (fun c3 => ?_) (fun c3 => ?_)
  · have h := h.2.1 c3
    refine zW.go 1 62 [(2, 234), (2, 1), (2, ((p : Nat) : Int)), (0, x3), z4] [(0, 1)] _ rfl ?_
    exact w_retz rfl rfl (by decide) h
  · have h := h.2.2 c3
    refine zW.go 2 21 [(2, 234), (2, 1), (2, ((p : Nat) : Int)), (0, x3), z4] [(2, 1), (2, 234)] _ rfl ?_
    refine w_calli (as := [(2, 234), (2, 1)]) [] 24 rfl rfl rfl rfl (Nat.le_of_ble_eq_true rfl) (Nat.le_of_ble_eq_true rfl) (Nat.le_of_ble_eq_true rfl) (Or.inr rfl) (Ci.imp h (fun r4 mem5 h => ?_))
    refine zW.go 2 28 [(2, 234), (2, 1), (2, ((p : Nat) : Int)), (0, x3), (0, r4)] [(0, r4)] _ rfl ?_
    refine w_if_lt rfl (by decide) (pc' := 31) rfl h.1 (fun c6 => ?_) (fun c6 => ?_)
    · have h := h.2.1 c6
      refine zW.go 1 38 [(2, 234), (2, 1), (2, ((p : Nat) : Int)), (0, x3), (0, r4)] [(0, 0)] _ rfl ?_
      exact w_retz rfl rfl (by decide) h
    · have h := h.2.2 c6
      refine zW.go 2 34 [(2, 234), (2, 1), (2, ((p : Nat) : Int)), (0, x3), (0, r4)] [(0, 1), (0, r4)] _ rfl ?_
      refine w_ic_le rfl (by decide) (pc' := 37) rfl ⟨h.1, by decide⟩ (fun c7 => ?_) (fun c7 => ?_)
      · have h := h.2.1 c7
        refine zW.go 1 40 [(2, 234), (2, 1), (2, ((p : Nat) : Int)), (0, x3), (0, r4)] [(2, 234)] _ rfl ?_
        refine w_getL (q := 234) (v := 236) rfl (by decide) (pc' := 43) rfl ⟨by decide, rfl⟩ rfl rfl (zall_at hR (by decide)) ?_
        refine zW.go 1 44 [(2, 234), (2, 1), (2, ((p : Nat) : Int)), (0, x3), (0, r4)] [(2, 236), (2, 236)] _ rfl ?_
        refine w_getI (q := 236) rfl (by decide) (pc' := 47) rfl ⟨by decide, rfl⟩ rfl (by decide) ?_
        refine zW.go 4 52 [(2, 234), (2, 1), (2, ((p : Nat) : Int)), (0, x3), (0, r4)] [(0, (zor (mem5 236 2) (zshl r4 x3))), (2, 236)] _ rfl ?_
        refine w_putI (q := 236) rfl (by decide) (pc' := 55) rfl ⟨by decide, rfl⟩ rfl (by decide) ?_
        refine zW.go 2 10 [(2, 234), (2, 1), (2, ((p : Nat) : Int)), (0, (x3 + 1)), (0, r4)] [] _ rfl ?_
        exact h (0, r4)
      · have h := h.2.2 c7
        refine zW.go 1 38 [(2, 234), (2, 1), (2, ((p : Nat) : Int)), (0, x3), (0, r4)] [(0, 0)] _ rfl ?_
        exact w_retz rfl rfl (by decide) h
set_option maxRecDepth 4000 in
theorem s_images_readDoors {X : zX} {d : Nat} {rf mem : zF} {Q : Int → zF → Prop} (hR : zall rf zRK = true) {p : Nat} (hp : zPln rf p) (h : L_images_readDoors_10 X d rf Q (zup mem 236 2 0) p 0) : Ci X (d + 1) 17 [(2, 234), (2, 1), (2, ((p : Nat) : Int))] rf mem Q := by
  show zW X (d + 1) 17 0 [(2, 234), (2, 1), (2, ((p : Nat) : Int)), (9, 0), (9, 0)] [] (zty, rf, mem) (qi rf Q)
  refine zW.go 1 1 [(2, 234), (2, 1), (2, ((p : Nat) : Int)), (9, 0), (9, 0)] [(2, 234)] _ rfl ?_
  refine w_getL (q := 234) (v := 236) rfl (by decide) (pc' := 4) rfl ⟨by decide, rfl⟩ rfl rfl (zall_at hR (by decide)) ?_
  refine zW.go 1 5 [(2, 234), (2, 1), (2, ((p : Nat) : Int)), (9, 0), (9, 0)] [(0, 0), (2, 236)] _ rfl ?_
  refine w_putI (q := 236) rfl (by decide) (pc' := 8) rfl ⟨by decide, rfl⟩ rfl (by decide) ?_
  refine zW.go 2 10 [(2, 234), (2, 1), (2, ((p : Nat) : Int)), (0, 0), (9, 0)] [] _ rfl ?_
  exact h (9, 0)
def L_images_readHeirs_13 (X : zX) (d : Nat) (rf : zF) (Q : Int → zF → Prop) (mem : zF) (p : Nat) (x3 : Int) : Prop := ∀ z4 : zV, ∀ z5 : zV, zW X (d + 1) 18 13 [(2, 234), (2, 1), (2, ((p : Nat) : Int)), (0, x3), z4, z5] [] (zty, rf, mem) (qi rf Q)
set_option maxRecDepth 4000 in
theorem s_images_readHeirs_13 {X : zX} {d : Nat} {rf mem : zF} {Q : Int → zF → Prop} (hR : zall rf zRK = true) {p : Nat} (hp : zPln rf p) {x3 : Int} (h : Ci X d 61 [(2, ((p : Nat) : Int)), (0, 1)] rf mem (fun r2 mem3 => (inI x3 ∧ inI r2) ∧ ((r2 ≤ x3 → Q 1 mem3) ∧ (¬ r2 ≤ x3 → Ci X d 13 [(2, 234), (2, 1)] rf mem3 (fun r5 mem6 => Ci X d 13 [(2, 234), (2, 1)] rf mem6 (fun r7 mem8 => Ci X d 69 [(2, ((p : Nat) : Int)), (0, r5), (0, r7)] rf mem8 (fun r9 mem10 => (inI r9) ∧ ((r9 = (-1) → Q 0 mem10) ∧ (¬ r9 = (-1) → Ci X d 88 [(2, 236), (0, r9)] rf mem10 (fun r12 mem13 => (inI r12) ∧ ((r12 = (-1) → (0 ≤ x3 ∧ x3 < 6) ∧ (L_images_readHeirs_13 X d rf Q (zup mem13 237 (x3).toNat r9) p (x3 + 1))) ∧ (¬ r12 = (-1) → Q 0 mem13)))))))))))) : L_images_readHeirs_13 X d rf Q mem p x3 := by
  intro z4 z5
  refine zW.go 3 16 [(2, 234), (2, 1), (2, ((p : Nat) : Int)), (0, x3), z4, z5] [(0, 1), (2, ((p : Nat) : Int)), (0, x3)] _ rfl ?_
  refine w_calli (as := [(2, ((p : Nat) : Int)), (0, 1)]) [(0, x3)] 19 rfl rfl rfl rfl (Nat.le_of_ble_eq_true rfl) (Nat.le_of_ble_eq_true rfl) (Nat.le_of_ble_eq_true rfl) (Or.inr (zrcv_o (zPln_t0 hp))) (Ci.imp h (fun r2 mem3 h => ?_))
  refine w_ic_ge rfl (by decide) (pc' := 22) rfl h.1 (fun c4 => ?_) (fun c4 => ?_)
  · have h := h.2.1 c4
    refine zW.go 1 81 [(2, 234), (2, 1), (2, ((p : Nat) : Int)), (0, x3), z4, z5] [(0, 1)] _ rfl ?_
    exact w_retz rfl rfl (by decide) h
  · have h := h.2.2 c4
    refine zW.go 2 24 [(2, 234), (2, 1), (2, ((p : Nat) : Int)), (0, x3), z4, z5] [(2, 1), (2, 234)] _ rfl ?_
    refine w_calli (as := [(2, 234), (2, 1)]) [] 27 rfl rfl rfl rfl (Nat.le_of_ble_eq_true rfl) (Nat.le_of_ble_eq_true rfl) (Nat.le_of_ble_eq_true rfl) (Or.inr rfl) (Ci.imp h (fun r5 mem6 h => ?_))
    refine zW.go 5 34 [(2, 234), (2, 1), (2, ((p : Nat) : Int)), (0, x3), (0, r5), z5] [(2, 1), (2, 234), (0, r5), (2, ((p : Nat) : Int))] _ rfl ?_
    refine w_calli (as := [(2, 234), (2, 1)]) [(0, r5), (2, ((p : Nat) : Int))] 37 rfl rfl rfl rfl (Nat.le_of_ble_eq_true rfl) (Nat.le_of_ble_eq_true rfl) (Nat.le_of_ble_eq_true rfl) (Or.inr rfl) (Ci.imp h (fun r7 mem8 h => ?_))
    refine w_calli (as := [(2, ((p : Nat) : Int)), (0, r5), (0, r7)]) [] 40 rfl rfl rfl rfl (Nat.le_of_ble_eq_true rfl) (Nat.le_of_ble_eq_true rfl) (Nat.le_of_ble_eq_true rfl) (Or.inr (zrcv_o (zPln_t0 hp))) (Ci.imp h (fun r9 mem10 h => ?_))
    refine zW.go 3 45 [(2, 234), (2, 1), (2, ((p : Nat) : Int)), (0, x3), (0, r5), (0, r9)] [(0, (-1)), (0, r9)] _ rfl ?_
    refine w_ic_eq rfl (by decide) (pc' := 48) rfl ⟨h.1, by decide⟩ (fun c11 => ?_) (fun c11 => ?_)
    · have h := h.2.1 c11
      refine zW.go 1 62 [(2, 234), (2, 1), (2, ((p : Nat) : Int)), (0, x3), (0, r5), (0, r9)] [(0, 0)] _ rfl ?_
      exact w_retz rfl rfl (by decide) h
    · have h := h.2.2 c11
      refine zW.go 1 49 [(2, 234), (2, 1), (2, ((p : Nat) : Int)), (0, x3), (0, r5), (0, r9)] [(2, 234)] _ rfl ?_
      refine w_getL (q := 234) (v := 236) rfl (by decide) (pc' := 52) rfl ⟨by decide, rfl⟩ rfl rfl (zall_at hR (by decide)) ?_
      refine zW.go 1 54 [(2, 234), (2, 1), (2, ((p : Nat) : Int)), (0, x3), (0, r5), (0, r9)] [(0, r9), (2, 236)] _ rfl ?_
      refine w_calli (as := [(2, 236), (0, r9)]) [] 57 rfl rfl rfl rfl (Nat.le_of_ble_eq_true rfl) (Nat.le_of_ble_eq_true rfl) (Nat.le_of_ble_eq_true rfl) (Or.inr rfl) (Ci.imp h (fun r12 mem13 h => ?_))
      refine zW.go 1 58 [(2, 234), (2, 1), (2, ((p : Nat) : Int)), (0, x3), (0, r5), (0, r9)] [(0, (-1)), (0, r12)] _ rfl ?_
      refine w_ic_eq rfl (by decide) (pc' := 61) rfl ⟨h.1, by decide⟩ (fun c14 => ?_) (fun c14 => ?_)
      · have h := h.2.1 c14
        refine zW.go 1 64 [(2, 234), (2, 1), (2, ((p : Nat) : Int)), (0, x3), (0, r5), (0, r9)] [(2, 234)] _ rfl ?_
        refine w_getL (q := 234) (v := 236) rfl (by decide) (pc' := 67) rfl ⟨by decide, rfl⟩ rfl rfl (zall_at hR (by decide)) ?_
        refine w_getL (q := 236) (v := 237) rfl (by decide) (pc' := 70) rfl ⟨by decide, rfl⟩ rfl rfl (zall_at hR (by decide)) ?_
        refine zW.go 2 73 [(2, 234), (2, 1), (2, ((p : Nat) : Int)), (0, x3), (0, r5), (0, r9)] [(0, r9), (0, x3), (2, 237)] _ rfl ?_
        obtain ⟨g, h⟩ := h
        refine w_iast (q := 237) rfl (by decide) (pc' := 74) rfl ⟨by decide, rfl⟩ rfl g rfl ?_
        refine zW.go 2 13 [(2, 234), (2, 1), (2, ((p : Nat) : Int)), (0, (x3 + 1)), (0, r5), (0, r9)] [] _ rfl ?_
        exact h (0, r5) (0, r9)
      · have h := h.2.2 c14
        refine zW.go 1 62 [(2, 234), (2, 1), (2, ((p : Nat) : Int)), (0, x3), (0, r5), (0, r9)] [(0, 0)] _ rfl ?_
        exact w_retz rfl rfl (by decide) h
set_option maxRecDepth 4000 in
theorem s_images_readHeirs {X : zX} {d : Nat} {rf mem : zF} {Q : Int → zF → Prop} (hR : zall rf zRK = true) {p : Nat} (hp : zPln rf p) (h : Cv X d 328 [(2, 237), (0, (-1))] rf mem (fun mem1 => L_images_readHeirs_13 X d rf Q mem1 p 0)) : Ci X (d + 1) 18 [(2, 234), (2, 1), (2, ((p : Nat) : Int))] rf mem Q := by
  show zW X (d + 1) 18 0 [(2, 234), (2, 1), (2, ((p : Nat) : Int)), (9, 0), (9, 0), (9, 0)] [] (zty, rf, mem) (qi rf Q)
  refine zW.go 1 1 [(2, 234), (2, 1), (2, ((p : Nat) : Int)), (9, 0), (9, 0), (9, 0)] [(2, 234)] _ rfl ?_
  refine w_getL (q := 234) (v := 236) rfl (by decide) (pc' := 4) rfl ⟨by decide, rfl⟩ rfl rfl (zall_at hR (by decide)) ?_
  refine w_getL (q := 236) (v := 237) rfl (by decide) (pc' := 7) rfl ⟨by decide, rfl⟩ rfl rfl (zall_at hR (by decide)) ?_
  refine zW.go 1 8 [(2, 234), (2, 1), (2, ((p : Nat) : Int)), (9, 0), (9, 0), (9, 0)] [(0, (-1)), (2, 237)] _ rfl ?_
  refine w_callv (as := [(2, 237), (0, (-1))]) [] 11 rfl rfl rfl rfl (Nat.le_of_ble_eq_true rfl) (Nat.le_of_ble_eq_true rfl) (Nat.le_of_ble_eq_true rfl) (Or.inl rfl) (Cv.imp h (fun mem1 h => ?_))
  refine zW.go 2 13 [(2, 234), (2, 1), (2, ((p : Nat) : Int)), (0, 0), (9, 0), (9, 0)] [] _ rfl ?_
  exact h (9, 0) (9, 0)
def L_images_readBubbles_27 (X : zX) (d : Nat) (rf : zF) (Q : Int → zF → Prop) (mem : zF) (p : Nat) (x3 : Int) (x4 : Int) (x5 : Int) : Prop := ∀ z6 : zV, ∀ z7 : zV, ∀ z8 : zV, ∀ z9 : zV, ∀ z10 : zV, zW X (d + 1) 19 27 [(2, 234), (2, 1), (2, ((p : Nat) : Int)), (0, x3), (0, x4), (0, x5), z6, z7, z8, z9, z10] [] (zty, rf, mem) (qi rf Q)
def L_images_readBubbles_91 (X : zX) (d : Nat) (rf : zF) (Q : Int → zF → Prop) (mem : zF) (p : Nat) (x3 : Int) (x4 : Int) (x5 : Int) (x8 : Int) (s0 : Int) : Prop := ∀ z6 : zV, ∀ z7 : zV, ∀ z9 : zV, ∀ z10 : zV, zW X (d + 1) 19 91 [(2, 234), (2, 1), (2, ((p : Nat) : Int)), (0, x3), (0, x4), (0, x5), z6, z7, (0, x8), z9, z10] [(0, s0)] (zty, rf, mem) (qi rf Q)
set_option maxRecDepth 4000 in
theorem s_images_readBubbles_27 {X : zX} {d : Nat} {rf mem : zF} {Q : Int → zF → Prop} (hR : zall rf zRK = true) {p : Nat} (hp : zPln rf p) {x3 : Int} {x4 : Int} {x5 : Int} (h : Ci X d 61 [(2, ((p : Nat) : Int)), (0, 2)] rf mem (fun r4 mem5 => (inI x5 ∧ inI r4) ∧ ((r4 ≤ x5 → Q 1 mem5) ∧ (¬ r4 ≤ x5 → Ci X d 13 [(2, 234), (2, 1)] rf mem5 (fun r7 mem8 => Ci X d 13 [(2, 234), (2, 1)] rf mem8 (fun r9 mem10 => Ci X d 69 [(2, ((p : Nat) : Int)), (0, r7), (0, r9)] rf mem10 (fun r11 mem12 => (inI r11) ∧ ((¬ r11 = (-1) → Ci X d 20 [(2, 234), (0, r11)] rf mem12 (fun r14 mem15 => (inI r14) ∧ ((¬ r14 = 0 → L_images_readBubbles_91 X d rf Q mem15 p x3 x4 x5 r11 0) ∧ (r14 = 0 → L_images_readBubbles_91 X d rf Q mem15 p x3 x4 x5 r11 1)))) ∧ (r11 = (-1) → Ci X d 16 [(0, r7), (0, r9)] rf mem12 (fun r17 mem18 => L_images_readBubbles_91 X d rf Q mem18 p x3 x4 x5 r11 r17)))))))))) : L_images_readBubbles_27 X d rf Q mem p x3 x4 x5 := by
  intro z6 z7 z8 z9 z10
  refine zW.go 3 31 [(2, 234), (2, 1), (2, ((p : Nat) : Int)), (0, x3), (0, x4), (0, x5), z6, z7, z8, z9, z10] [(0, 2), (2, ((p : Nat) : Int)), (0, x5)] _ rfl ?_
  refine w_calli (as := [(2, ((p : Nat) : Int)), (0, 2)]) [(0, x5)] 34 rfl rfl rfl rfl (Nat.le_of_ble_eq_true rfl) (Nat.le_of_ble_eq_true rfl) (Nat.le_of_ble_eq_true rfl) (Or.inr (zrcv_o (zPln_t0 hp))) (Ci.imp h (fun r4 mem5 h => ?_))
  refine w_ic_ge rfl (by decide) (pc' := 37) rfl h.1 (fun c6 => ?_) (fun c6 => ?_)
  · have h := h.2.1 c6
    refine zW.go 1 201 [(2, 234), (2, 1), (2, ((p : Nat) : Int)), (0, x3), (0, x4), (0, x5), z6, z7, z8, z9, z10] [(0, 1)] _ rfl ?_
    exact w_retz rfl rfl (by decide) h
  · have h := h.2.2 c6
    refine zW.go 2 39 [(2, 234), (2, 1), (2, ((p : Nat) : Int)), (0, x3), (0, x4), (0, x5), z6, z7, z8, z9, z10] [(2, 1), (2, 234)] _ rfl ?_
    refine w_calli (as := [(2, 234), (2, 1)]) [] 42 rfl rfl rfl rfl (Nat.le_of_ble_eq_true rfl) (Nat.le_of_ble_eq_true rfl) (Nat.le_of_ble_eq_true rfl) (Or.inr rfl) (Ci.imp h (fun r7 mem8 h => ?_))
    refine zW.go 3 46 [(2, 234), (2, 1), (2, ((p : Nat) : Int)), (0, x3), (0, x4), (0, x5), (0, r7), z7, z8, z9, z10] [(2, 1), (2, 234)] _ rfl ?_
    refine w_calli (as := [(2, 234), (2, 1)]) [] 49 rfl rfl rfl rfl (Nat.le_of_ble_eq_true rfl) (Nat.le_of_ble_eq_true rfl) (Nat.le_of_ble_eq_true rfl) (Or.inr rfl) (Ci.imp h (fun r9 mem10 h => ?_))
    refine zW.go 4 56 [(2, 234), (2, 1), (2, ((p : Nat) : Int)), (0, x3), (0, x4), (0, x5), (0, r7), (0, r9), z8, z9, z10] [(0, r9), (0, r7), (2, ((p : Nat) : Int))] _ rfl ?_
    refine w_calli (as := [(2, ((p : Nat) : Int)), (0, r7), (0, r9)]) [] 59 rfl rfl rfl rfl (Nat.le_of_ble_eq_true rfl) (Nat.le_of_ble_eq_true rfl) (Nat.le_of_ble_eq_true rfl) (Or.inr (zrcv_o (zPln_t0 hp))) (Ci.imp h (fun r11 mem12 h => ?_))
    refine zW.go 3 64 [(2, 234), (2, 1), (2, ((p : Nat) : Int)), (0, x3), (0, x4), (0, x5), (0, r7), (0, r9), (0, r11), z9, z10] [(0, (-1)), (0, r11)] _ rfl ?_
    refine w_ic_ne rfl (by decide) (pc' := 67) rfl ⟨h.1, by decide⟩ (fun c13 => ?_) (fun c13 => ?_)
    · have h := h.2.1 c13
      refine zW.go 2 80 [(2, 234), (2, 1), (2, ((p : Nat) : Int)), (0, x3), (0, x4), (0, x5), (0, r7), (0, r9), (0, r11), z9, z10] [(0, r11), (2, 234)] _ rfl ?_
      refine w_calli (as := [(2, 234), (0, r11)]) [] 83 rfl rfl rfl rfl (Nat.le_of_ble_eq_true rfl) (Nat.le_of_ble_eq_true rfl) (Nat.le_of_ble_eq_true rfl) (Or.inr rfl) (Ci.imp h (fun r14 mem15 h => ?_))
      refine w_if_ne rfl (by decide) (pc' := 86) rfl h.1 (fun c16 => ?_) (fun c16 => ?_)
      · have h := h.2.1 c16
        refine zW.go 1 91 [(2, 234), (2, 1), (2, ((p : Nat) : Int)), (0, x3), (0, x4), (0, x5), (0, r7), (0, r9), (0, r11), z9, z10] [(0, 0)] _ rfl ?_
        exact h (0, r7) (0, r9) z9 z10
      · have h := h.2.2 c16
        refine zW.go 2 91 [(2, 234), (2, 1), (2, ((p : Nat) : Int)), (0, x3), (0, x4), (0, x5), (0, r7), (0, r9), (0, r11), z9, z10] [(0, 1)] _ rfl ?_
        exact h (0, r7) (0, r9) z9 z10
    · have h := h.2.2 c13
      refine zW.go 2 71 [(2, 234), (2, 1), (2, ((p : Nat) : Int)), (0, x3), (0, x4), (0, x5), (0, r7), (0, r9), (0, r11), z9, z10] [(0, r9), (0, r7)] _ rfl ?_
      refine w_calli (as := [(0, r7), (0, r9)]) [] 74 rfl rfl rfl rfl (Nat.le_of_ble_eq_true rfl) (Nat.le_of_ble_eq_true rfl) (Nat.le_of_ble_eq_true rfl) (Or.inl rfl) (Ci.imp h (fun r17 mem18 h => ?_))
      refine zW.go 1 91 [(2, 234), (2, 1), (2, ((p : Nat) : Int)), (0, x3), (0, x4), (0, x5), (0, r7), (0, r9), (0, r11), z9, z10] [(0, r17)] _ rfl ?_
      exact h (0, r7) (0, r9) z9 z10
set_option maxRecDepth 4000 in
theorem s_images_readBubbles_91 {X : zX} {d : Nat} {rf mem : zF} {Q : Int → zF → Prop} (hR : zall rf zRK = true) {p : Nat} (hp : zPln rf p) {x3 : Int} {x4 : Int} {x5 : Int} {x8 : Int} {s0 : Int} (h : Ci X d 13 [(2, 234), (2, 1)] rf mem (fun r19 mem20 => (0 ≤ x5 ∧ x5 < 6) ∧ (Ci X d 13 [(2, 234), (2, 1)] rf (zup mem20 239 (x5).toNat r19) (fun r21 mem22 => (0 ≤ x5 ∧ x5 < 6) ∧ (Ci X d 13 [(2, 234), (2, 1)] rf (zup mem22 240 (x5).toNat r21) (fun r23 mem24 => (inI s0) ∧ ((s0 = 0 → Q 0 mem24) ∧ (¬ s0 = 0 → (inI (zand r23 (zxor x4 (-1)))) ∧ ((¬ (zand r23 (zxor x4 (-1))) = 0 → Q 0 mem24) ∧ ((zand r23 (zxor x4 (-1))) = 0 → (inI (zand r23 x3)) ∧ (((zand r23 x3) = 0 → (0 ≤ x5 ∧ x5 < 6) ∧ ((0 ≤ x5 ∧ x5 < 6) ∧ (Ci X d 21 [(2, 234), (0, x5)] rf (zup (zup mem24 238 (x5).toNat x8) 241 (x5).toNat r23) (fun r28 mem29 => (inI r28) ∧ ((¬ r28 = 0 → L_images_readBubbles_27 X d rf Q mem29 p (zor x3 r23) x4 (x5 + 1)) ∧ (r28 = 0 → Q 0 mem29)))))) ∧ (¬ (zand r23 x3) = 0 → Q 0 mem24)))))))))))) : L_images_readBubbles_91 X d rf Q mem p x3 x4 x5 x8 s0 := by
  intro z6 z7 z9 z10
  refine zW.go 2 94 [(2, 234), (2, 1), (2, ((p : Nat) : Int)), (0, x3), (0, x4), (0, x5), z6, z7, (0, x8), (0, s0), z10] [(2, 234)] _ rfl ?_
  refine w_getL (q := 234) (v := 236) rfl (by decide) (pc' := 97) rfl ⟨by decide, rfl⟩ rfl rfl (zall_at hR (by decide)) ?_
  refine w_getL (q := 236) (v := 239) rfl (by decide) (pc' := 100) rfl ⟨by decide, rfl⟩ rfl rfl (zall_at hR (by decide)) ?_
  refine zW.go 3 104 [(2, 234), (2, 1), (2, ((p : Nat) : Int)), (0, x3), (0, x4), (0, x5), z6, z7, (0, x8), (0, s0), z10] [(2, 1), (2, 234), (0, x5), (2, 239)] _ rfl ?_
  refine w_calli (as := [(2, 234), (2, 1)]) [(0, x5), (2, 239)] 107 rfl rfl rfl rfl (Nat.le_of_ble_eq_true rfl) (Nat.le_of_ble_eq_true rfl) (Nat.le_of_ble_eq_true rfl) (Or.inr rfl) (Ci.imp h (fun r19 mem20 h => ?_))
  obtain ⟨g, h⟩ := h
  refine w_iast (q := 239) rfl (by decide) (pc' := 108) rfl ⟨by decide, rfl⟩ rfl g rfl ?_
  refine zW.go 1 109 [(2, 234), (2, 1), (2, ((p : Nat) : Int)), (0, x3), (0, x4), (0, x5), z6, z7, (0, x8), (0, s0), z10] [(2, 234)] _ rfl ?_
  refine w_getL (q := 234) (v := 236) rfl (by decide) (pc' := 112) rfl ⟨by decide, rfl⟩ rfl rfl (zall_at hR (by decide)) ?_
  refine w_getL (q := 236) (v := 240) rfl (by decide) (pc' := 115) rfl ⟨by decide, rfl⟩ rfl rfl (zall_at hR (by decide)) ?_
  refine zW.go 3 119 [(2, 234), (2, 1), (2, ((p : Nat) : Int)), (0, x3), (0, x4), (0, x5), z6, z7, (0, x8), (0, s0), z10] [(2, 1), (2, 234), (0, x5), (2, 240)] _ rfl ?_
  refine w_calli (as := [(2, 234), (2, 1)]) [(0, x5), (2, 240)] 122 rfl rfl rfl rfl (Nat.le_of_ble_eq_true rfl) (Nat.le_of_ble_eq_true rfl) (Nat.le_of_ble_eq_true rfl) (Or.inr rfl) (Ci.imp h (fun r21 mem22 h => ?_))
  obtain ⟨g, h⟩ := h
  refine w_iast (q := 240) rfl (by decide) (pc' := 123) rfl ⟨by decide, rfl⟩ rfl g rfl ?_
  refine zW.go 2 125 [(2, 234), (2, 1), (2, ((p : Nat) : Int)), (0, x3), (0, x4), (0, x5), z6, z7, (0, x8), (0, s0), z10] [(2, 1), (2, 234)] _ rfl ?_
  refine w_calli (as := [(2, 234), (2, 1)]) [] 128 rfl rfl rfl rfl (Nat.le_of_ble_eq_true rfl) (Nat.le_of_ble_eq_true rfl) (Nat.le_of_ble_eq_true rfl) (Or.inr rfl) (Ci.imp h (fun r23 mem24 h => ?_))
  refine zW.go 2 132 [(2, 234), (2, 1), (2, ((p : Nat) : Int)), (0, x3), (0, x4), (0, x5), z6, z7, (0, x8), (0, s0), (0, r23)] [(0, s0)] _ rfl ?_
  refine w_if_eq rfl (by decide) (pc' := 135) rfl h.1 (fun c25 => ?_) (fun c25 => ?_)
  · have h := h.2.1 c25
    refine zW.go 1 153 [(2, 234), (2, 1), (2, ((p : Nat) : Int)), (0, x3), (0, x4), (0, x5), z6, z7, (0, x8), (0, s0), (0, r23)] [(0, 0)] _ rfl ?_
    exact w_retz rfl rfl (by decide) h
  · have h := h.2.2 c25
    refine zW.go 5 142 [(2, 234), (2, 1), (2, ((p : Nat) : Int)), (0, x3), (0, x4), (0, x5), z6, z7, (0, x8), (0, s0), (0, r23)] [(0, (zand r23 (zxor x4 (-1))))] _ rfl ?_
    refine w_if_ne rfl (by decide) (pc' := 145) rfl h.1 (fun c26 => ?_) (fun c26 => ?_)
    · have h := h.2.1 c26
      refine zW.go 1 153 [(2, 234), (2, 1), (2, ((p : Nat) : Int)), (0, x3), (0, x4), (0, x5), z6, z7, (0, x8), (0, s0), (0, r23)] [(0, 0)] _ rfl ?_
      exact w_retz rfl rfl (by decide) h
    · have h := h.2.2 c26
      refine zW.go 3 149 [(2, 234), (2, 1), (2, ((p : Nat) : Int)), (0, x3), (0, x4), (0, x5), z6, z7, (0, x8), (0, s0), (0, r23)] [(0, (zand r23 x3))] _ rfl ?_
      refine w_if_eq rfl (by decide) (pc' := 152) rfl h.1 (fun c27 => ?_) (fun c27 => ?_)
      · have h := h.2.1 c27
        refine zW.go 1 155 [(2, 234), (2, 1), (2, ((p : Nat) : Int)), (0, x3), (0, x4), (0, x5), z6, z7, (0, x8), (0, s0), (0, r23)] [(2, 234)] _ rfl ?_
        refine w_getL (q := 234) (v := 236) rfl (by decide) (pc' := 158) rfl ⟨by decide, rfl⟩ rfl rfl (zall_at hR (by decide)) ?_
        refine w_getL (q := 236) (v := 238) rfl (by decide) (pc' := 161) rfl ⟨by decide, rfl⟩ rfl rfl (zall_at hR (by decide)) ?_
        refine zW.go 2 165 [(2, 234), (2, 1), (2, ((p : Nat) : Int)), (0, x3), (0, x4), (0, x5), z6, z7, (0, x8), (0, s0), (0, r23)] [(0, x8), (0, x5), (2, 238)] _ rfl ?_
        obtain ⟨g, h⟩ := h
        refine w_iast (q := 238) rfl (by decide) (pc' := 166) rfl ⟨by decide, rfl⟩ rfl g rfl ?_
        refine zW.go 1 167 [(2, 234), (2, 1), (2, ((p : Nat) : Int)), (0, x3), (0, x4), (0, x5), z6, z7, (0, x8), (0, s0), (0, r23)] [(2, 234)] _ rfl ?_
        refine w_getL (q := 234) (v := 236) rfl (by decide) (pc' := 170) rfl ⟨by decide, rfl⟩ rfl rfl (zall_at hR (by decide)) ?_
        refine w_getL (q := 236) (v := 241) rfl (by decide) (pc' := 173) rfl ⟨by decide, rfl⟩ rfl rfl (zall_at hR (by decide)) ?_
        refine zW.go 2 177 [(2, 234), (2, 1), (2, ((p : Nat) : Int)), (0, x3), (0, x4), (0, x5), z6, z7, (0, x8), (0, s0), (0, r23)] [(0, r23), (0, x5), (2, 241)] _ rfl ?_
        obtain ⟨g, h⟩ := h
        refine w_iast (q := 241) rfl (by decide) (pc' := 178) rfl ⟨by decide, rfl⟩ rfl g rfl ?_
        refine zW.go 6 186 [(2, 234), (2, 1), (2, ((p : Nat) : Int)), (0, (zor x3 r23)), (0, x4), (0, x5), z6, z7, (0, x8), (0, s0), (0, r23)] [(0, x5), (2, 234)] _ rfl ?_
        refine w_calli (as := [(2, 234), (0, x5)]) [] 189 rfl rfl rfl rfl (Nat.le_of_ble_eq_true rfl) (Nat.le_of_ble_eq_true rfl) (Nat.le_of_ble_eq_true rfl) (Or.inr rfl) (Ci.imp h (fun r28 mem29 h => ?_))
        refine w_if_ne rfl (by decide) (pc' := 192) rfl h.1 (fun c30 => ?_) (fun c30 => ?_)
        · have h := h.2.1 c30
          refine zW.go 2 27 [(2, 234), (2, 1), (2, ((p : Nat) : Int)), (0, (zor x3 r23)), (0, x4), (0, (x5 + 1)), z6, z7, (0, x8), (0, s0), (0, r23)] [] _ rfl ?_
          exact h z6 z7 (0, x8) (0, s0) (0, r23)
        · have h := h.2.2 c30
          refine zW.go 1 193 [(2, 234), (2, 1), (2, ((p : Nat) : Int)), (0, (zor x3 r23)), (0, x4), (0, x5), z6, z7, (0, x8), (0, s0), (0, r23)] [(0, 0)] _ rfl ?_
          exact w_retz rfl rfl (by decide) h
      · have h := h.2.2 c27
        refine zW.go 1 153 [(2, 234), (2, 1), (2, ((p : Nat) : Int)), (0, x3), (0, x4), (0, x5), z6, z7, (0, x8), (0, s0), (0, r23)] [(0, 0)] _ rfl ?_
        exact w_retz rfl rfl (by decide) h
set_option maxRecDepth 4000 in
theorem s_images_readBubbles {X : zX} {d : Nat} {rf mem : zF} {Q : Int → zF → Prop} (hR : zall rf zRK = true) {p : Nat} (hp : zPln rf p) (h : Ci X d 61 [(2, ((p : Nat) : Int)), (0, 2)] rf mem (fun r1 mem2 => Cv X d 328 [(2, 238), (0, (-1))] rf mem2 (fun mem3 => L_images_readBubbles_27 X d rf Q mem3 p 0 ((zshl 1 r1) - 1) 0))) : Ci X (d + 1) 19 [(2, 234), (2, 1), (2, ((p : Nat) : Int))] rf mem Q := by
  show zW X (d + 1) 19 0 [(2, 234), (2, 1), (2, ((p : Nat) : Int)), (9, 0), (9, 0), (9, 0), (9, 0), (9, 0), (9, 0), (9, 0), (9, 0)] [] (zty, rf, mem) (qi rf Q)
  refine zW.go 5 5 [(2, 234), (2, 1), (2, ((p : Nat) : Int)), (0, 0), (9, 0), (9, 0), (9, 0), (9, 0), (9, 0), (9, 0), (9, 0)] [(0, 2), (2, ((p : Nat) : Int)), (0, 1)] _ rfl ?_
  refine w_calli (as := [(2, ((p : Nat) : Int)), (0, 2)]) [(0, 1)] 8 rfl rfl rfl rfl (Nat.le_of_ble_eq_true rfl) (Nat.le_of_ble_eq_true rfl) (Nat.le_of_ble_eq_true rfl) (Or.inr (zrcv_o (zPln_t0 hp))) (Ci.imp h (fun r1 mem2 h => ?_))
  refine zW.go 5 14 [(2, 234), (2, 1), (2, ((p : Nat) : Int)), (0, 0), (0, ((zshl 1 r1) - 1)), (9, 0), (9, 0), (9, 0), (9, 0), (9, 0), (9, 0)] [(2, 234)] _ rfl ?_
  refine w_getL (q := 234) (v := 236) rfl (by decide) (pc' := 17) rfl ⟨by decide, rfl⟩ rfl rfl (zall_at hR (by decide)) ?_
  refine w_getL (q := 236) (v := 238) rfl (by decide) (pc' := 20) rfl ⟨by decide, rfl⟩ rfl rfl (zall_at hR (by decide)) ?_
  refine zW.go 1 21 [(2, 234), (2, 1), (2, ((p : Nat) : Int)), (0, 0), (0, ((zshl 1 r1) - 1)), (9, 0), (9, 0), (9, 0), (9, 0), (9, 0), (9, 0)] [(0, (-1)), (2, 238)] _ rfl ?_
  refine w_callv (as := [(2, 238), (0, (-1))]) [] 24 rfl rfl rfl rfl (Nat.le_of_ble_eq_true rfl) (Nat.le_of_ble_eq_true rfl) (Nat.le_of_ble_eq_true rfl) (Or.inl rfl) (Cv.imp h (fun mem3 h => ?_))
  refine zW.go 2 27 [(2, 234), (2, 1), (2, ((p : Nat) : Int)), (0, 0), (0, ((zshl 1 r1) - 1)), (0, 0), (9, 0), (9, 0), (9, 0), (9, 0), (9, 0)] [] _ rfl ?_
  exact h (9, 0) (9, 0) (9, 0) (9, 0) (9, 0)
def L_images_isBubbleIn_2 (X : zX) (d : Nat) (rf : zF) (Q : Int → zF → Prop) (mem : zF) (x1 : Int) (x2 : Int) : Prop := zW X d 20 2 [(2, 234), (0, x1), (0, x2)] [] (zty, rf, mem) (qi rf Q)
set_option maxRecDepth 4000 in
theorem s_images_isBubbleIn_2 {X : zX} {d : Nat} {rf mem : zF} {Q : Int → zF → Prop} (hR : zall rf zRK = true) {x1 : Int} {x2 : Int} (h : (inI x2) ∧ ((6 ≤ x2 → Q 0 mem) ∧ (¬ 6 ≤ x2 → (0 ≤ x2 ∧ x2 < 6) ∧ ((inI (mem 238 (x2).toNat) ∧ inI x1) ∧ ((¬ (mem 238 (x2).toNat) = x1 → L_images_isBubbleIn_2 X d rf Q mem x1 (x2 + 1)) ∧ ((mem 238 (x2).toNat) = x1 → Q 1 mem)))))) : L_images_isBubbleIn_2 X d rf Q mem x1 x2 := by
  refine zW.go 2 5 [(2, 234), (0, x1), (0, x2)] [(0, 6), (0, x2)] _ rfl ?_
  refine w_ic_ge rfl (by decide) (pc' := 8) rfl ⟨h.1, by decide⟩ (fun c1 => ?_) (fun c1 => ?_)
  · have h := h.2.1 c1
    refine zW.go 1 30 [(2, 234), (0, x1), (0, x2)] [(0, 0)] _ rfl ?_
    exact w_retz rfl rfl (by decide) h
  · have h := h.2.2 c1
    refine zW.go 1 9 [(2, 234), (0, x1), (0, x2)] [(2, 234)] _ rfl ?_
    refine w_getL (q := 234) (v := 236) rfl (by decide) (pc' := 12) rfl ⟨by decide, rfl⟩ rfl rfl (zall_at hR (by decide)) ?_
    refine w_getL (q := 236) (v := 238) rfl (by decide) (pc' := 15) rfl ⟨by decide, rfl⟩ rfl rfl (zall_at hR (by decide)) ?_
    refine zW.go 1 16 [(2, 234), (0, x1), (0, x2)] [(0, x2), (2, 238)] _ rfl ?_
    obtain ⟨g, h⟩ := h
    refine w_iald (q := 238) rfl (by decide) (pc' := 17) rfl ⟨by decide, rfl⟩ rfl g rfl ?_
    refine zW.go 1 18 [(2, 234), (0, x1), (0, x2)] [(0, x1), (0, (mem 238 (x2).toNat))] _ rfl ?_
    refine w_ic_ne rfl (by decide) (pc' := 21) rfl h.1 (fun c2 => ?_) (fun c2 => ?_)
    · have h := h.2.1 c2
      refine zW.go 2 2 [(2, 234), (0, x1), (0, (x2 + 1))] [] _ rfl ?_
      exact h
    · have h := h.2.2 c2
      refine zW.go 1 22 [(2, 234), (0, x1), (0, x2)] [(0, 1)] _ rfl ?_
      exact w_retz rfl rfl (by decide) h
set_option maxRecDepth 4000 in
theorem s_images_isBubbleIn {X : zX} {d : Nat} {rf mem : zF} {Q : Int → zF → Prop} (hR : zall rf zRK = true) {x1 : Int} (h : L_images_isBubbleIn_2 X d rf Q mem x1 0) : Ci X d 20 [(2, 234), (0, x1)] rf mem Q := by
  show zW X d 20 0 [(2, 234), (0, x1), (9, 0)] [] (zty, rf, mem) (qi rf Q)
  refine zW.go 2 2 [(2, 234), (0, x1), (0, 0)] [] _ rfl ?_
  exact h
set_option maxRecDepth 4000 in
theorem s_images_canBeBubble {X : zX} {d : Nat} {rf mem : zF} {Q : Int → zF → Prop} (hR : zall rf zRK = true) {x1 : Int} (h : (0 ≤ x1 ∧ x1 < 6) ∧ ((0 ≤ x1 ∧ x1 < 6) ∧ ((0 ≤ x1 ∧ x1 < 6) ∧ ((0 ≤ x1 ∧ x1 < 6) ∧ ((inI (mem 238 (x1).toNat)) ∧ ((¬ (mem 238 (x1).toNat) = (-1) → (inI (mem 239 (x1).toNat)) ∧ (((mem 239 (x1).toNat) < 1 → Q 0 mem) ∧ (¬ (mem 239 (x1).toNat) < 1 → (inI (mem 239 (x1).toNat)) ∧ ((99 < (mem 239 (x1).toNat) → Q 0 mem) ∧ (¬ 99 < (mem 239 (x1).toNat) → (inI (mem 240 (x1).toNat)) ∧ (((mem 240 (x1).toNat) < 1 → Q 0 mem) ∧ (¬ (mem 240 (x1).toNat) < 1 → (inI (mem 240 (x1).toNat)) ∧ ((9 < (mem 240 (x1).toNat) → Q 0 mem) ∧ (¬ 9 < (mem 240 (x1).toNat) → (inI (mem 241 (x1).toNat)) ∧ (((mem 241 (x1).toNat) = 0 → Q 0 mem) ∧ (¬ (mem 241 (x1).toNat) = 0 → Q 1 mem))))))))))) ∧ ((mem 238 (x1).toNat) = (-1) → (inI (mem 239 (x1).toNat)) ∧ ((¬ (mem 239 (x1).toNat) = 0 → Q 0 mem) ∧ ((mem 239 (x1).toNat) = 0 → (inI (mem 240 (x1).toNat)) ∧ ((¬ (mem 240 (x1).toNat) = 0 → Q 0 mem) ∧ ((mem 240 (x1).toNat) = 0 → (inI (mem 241 (x1).toNat)) ∧ ((¬ (mem 241 (x1).toNat) = 0 → Q 0 mem) ∧ ((mem 241 (x1).toNat) = 0 → Q 1 mem))))))))))))) : Ci X d 21 [(2, 234), (0, x1)] rf mem Q := by
  show zW X d 21 0 [(2, 234), (0, x1), (9, 0), (9, 0), (9, 0)] [] (zty, rf, mem) (qi rf Q)
  refine zW.go 1 1 [(2, 234), (0, x1), (9, 0), (9, 0), (9, 0)] [(2, 234)] _ rfl ?_
  refine w_getL (q := 234) (v := 236) rfl (by decide) (pc' := 4) rfl ⟨by decide, rfl⟩ rfl rfl (zall_at hR (by decide)) ?_
  refine w_getL (q := 236) (v := 239) rfl (by decide) (pc' := 7) rfl ⟨by decide, rfl⟩ rfl rfl (zall_at hR (by decide)) ?_
  refine zW.go 1 8 [(2, 234), (0, x1), (9, 0), (9, 0), (9, 0)] [(0, x1), (2, 239)] _ rfl ?_
  obtain ⟨g, h⟩ := h
  refine w_iald (q := 239) rfl (by decide) (pc' := 9) rfl ⟨by decide, rfl⟩ rfl g rfl ?_
  refine zW.go 2 11 [(2, 234), (0, x1), (0, (mem 239 (x1).toNat)), (9, 0), (9, 0)] [(2, 234)] _ rfl ?_
  refine w_getL (q := 234) (v := 236) rfl (by decide) (pc' := 14) rfl ⟨by decide, rfl⟩ rfl rfl (zall_at hR (by decide)) ?_
  refine w_getL (q := 236) (v := 240) rfl (by decide) (pc' := 17) rfl ⟨by decide, rfl⟩ rfl rfl (zall_at hR (by decide)) ?_
  refine zW.go 1 18 [(2, 234), (0, x1), (0, (mem 239 (x1).toNat)), (9, 0), (9, 0)] [(0, x1), (2, 240)] _ rfl ?_
  obtain ⟨g, h⟩ := h
  refine w_iald (q := 240) rfl (by decide) (pc' := 19) rfl ⟨by decide, rfl⟩ rfl g rfl ?_
  refine zW.go 2 21 [(2, 234), (0, x1), (0, (mem 239 (x1).toNat)), (0, (mem 240 (x1).toNat)), (9, 0)] [(2, 234)] _ rfl ?_
  refine w_getL (q := 234) (v := 236) rfl (by decide) (pc' := 24) rfl ⟨by decide, rfl⟩ rfl rfl (zall_at hR (by decide)) ?_
  refine w_getL (q := 236) (v := 241) rfl (by decide) (pc' := 27) rfl ⟨by decide, rfl⟩ rfl rfl (zall_at hR (by decide)) ?_
  refine zW.go 1 28 [(2, 234), (0, x1), (0, (mem 239 (x1).toNat)), (0, (mem 240 (x1).toNat)), (9, 0)] [(0, x1), (2, 241)] _ rfl ?_
  obtain ⟨g, h⟩ := h
  refine w_iald (q := 241) rfl (by decide) (pc' := 29) rfl ⟨by decide, rfl⟩ rfl g rfl ?_
  refine zW.go 2 32 [(2, 234), (0, x1), (0, (mem 239 (x1).toNat)), (0, (mem 240 (x1).toNat)), (0, (mem 241 (x1).toNat))] [(2, 234)] _ rfl ?_
  refine w_getL (q := 234) (v := 236) rfl (by decide) (pc' := 35) rfl ⟨by decide, rfl⟩ rfl rfl (zall_at hR (by decide)) ?_
  refine w_getL (q := 236) (v := 238) rfl (by decide) (pc' := 38) rfl ⟨by decide, rfl⟩ rfl rfl (zall_at hR (by decide)) ?_
  refine zW.go 1 39 [(2, 234), (0, x1), (0, (mem 239 (x1).toNat)), (0, (mem 240 (x1).toNat)), (0, (mem 241 (x1).toNat))] [(0, x1), (2, 238)] _ rfl ?_
  obtain ⟨g, h⟩ := h
  refine w_iald (q := 238) rfl (by decide) (pc' := 40) rfl ⟨by decide, rfl⟩ rfl g rfl ?_
  refine zW.go 1 41 [(2, 234), (0, x1), (0, (mem 239 (x1).toNat)), (0, (mem 240 (x1).toNat)), (0, (mem 241 (x1).toNat))] [(0, (-1)), (0, (mem 238 (x1).toNat))] _ rfl ?_
  refine w_ic_ne rfl (by decide) (pc' := 44) rfl ⟨h.1, by decide⟩ (fun c1 => ?_) (fun c1 => ?_)
  · have h := h.2.1 c1
    refine zW.go 2 65 [(2, 234), (0, x1), (0, (mem 239 (x1).toNat)), (0, (mem 240 (x1).toNat)), (0, (mem 241 (x1).toNat))] [(0, 1), (0, (mem 239 (x1).toNat))] _ rfl ?_
    refine w_ic_lt rfl (by decide) (pc' := 68) rfl ⟨h.1, by decide⟩ (fun c2 => ?_) (fun c2 => ?_)
    · have h := h.2.1 c2
      refine zW.go 1 95 [(2, 234), (0, x1), (0, (mem 239 (x1).toNat)), (0, (mem 240 (x1).toNat)), (0, (mem 241 (x1).toNat))] [(0, 0)] _ rfl ?_
      exact w_retz rfl rfl (by decide) h
    · have h := h.2.2 c2
      refine zW.go 2 71 [(2, 234), (0, x1), (0, (mem 239 (x1).toNat)), (0, (mem 240 (x1).toNat)), (0, (mem 241 (x1).toNat))] [(0, 99), (0, (mem 239 (x1).toNat))] _ rfl ?_
      refine w_ic_gt rfl (by decide) (pc' := 74) rfl ⟨h.1, by decide⟩ (fun c3 => ?_) (fun c3 => ?_)
      · have h := h.2.1 c3
        refine zW.go 1 95 [(2, 234), (0, x1), (0, (mem 239 (x1).toNat)), (0, (mem 240 (x1).toNat)), (0, (mem 241 (x1).toNat))] [(0, 0)] _ rfl ?_
        exact w_retz rfl rfl (by decide) h
      · have h := h.2.2 c3
        refine zW.go 2 76 [(2, 234), (0, x1), (0, (mem 239 (x1).toNat)), (0, (mem 240 (x1).toNat)), (0, (mem 241 (x1).toNat))] [(0, 1), (0, (mem 240 (x1).toNat))] _ rfl ?_
        refine w_ic_lt rfl (by decide) (pc' := 79) rfl ⟨h.1, by decide⟩ (fun c4 => ?_) (fun c4 => ?_)
        · have h := h.2.1 c4
          refine zW.go 1 95 [(2, 234), (0, x1), (0, (mem 239 (x1).toNat)), (0, (mem 240 (x1).toNat)), (0, (mem 241 (x1).toNat))] [(0, 0)] _ rfl ?_
          exact w_retz rfl rfl (by decide) h
        · have h := h.2.2 c4
          refine zW.go 2 82 [(2, 234), (0, x1), (0, (mem 239 (x1).toNat)), (0, (mem 240 (x1).toNat)), (0, (mem 241 (x1).toNat))] [(0, 9), (0, (mem 240 (x1).toNat))] _ rfl ?_
          refine w_ic_gt rfl (by decide) (pc' := 85) rfl ⟨h.1, by decide⟩ (fun c5 => ?_) (fun c5 => ?_)
          · have h := h.2.1 c5
            refine zW.go 1 95 [(2, 234), (0, x1), (0, (mem 239 (x1).toNat)), (0, (mem 240 (x1).toNat)), (0, (mem 241 (x1).toNat))] [(0, 0)] _ rfl ?_
            exact w_retz rfl rfl (by decide) h
          · have h := h.2.2 c5
            refine zW.go 1 87 [(2, 234), (0, x1), (0, (mem 239 (x1).toNat)), (0, (mem 240 (x1).toNat)), (0, (mem 241 (x1).toNat))] [(0, (mem 241 (x1).toNat))] _ rfl ?_
            refine w_if_eq rfl (by decide) (pc' := 90) rfl h.1 (fun c6 => ?_) (fun c6 => ?_)
            · have h := h.2.1 c6
              refine zW.go 1 95 [(2, 234), (0, x1), (0, (mem 239 (x1).toNat)), (0, (mem 240 (x1).toNat)), (0, (mem 241 (x1).toNat))] [(0, 0)] _ rfl ?_
              exact w_retz rfl rfl (by decide) h
            · have h := h.2.2 c6
              refine zW.go 2 95 [(2, 234), (0, x1), (0, (mem 239 (x1).toNat)), (0, (mem 240 (x1).toNat)), (0, (mem 241 (x1).toNat))] [(0, 1)] _ rfl ?_
              exact w_retz rfl rfl (by decide) h
  · have h := h.2.2 c1
    refine zW.go 1 45 [(2, 234), (0, x1), (0, (mem 239 (x1).toNat)), (0, (mem 240 (x1).toNat)), (0, (mem 241 (x1).toNat))] [(0, (mem 239 (x1).toNat))] _ rfl ?_
    refine w_if_ne rfl (by decide) (pc' := 48) rfl h.1 (fun c7 => ?_) (fun c7 => ?_)
    · have h := h.2.1 c7
      refine zW.go 1 62 [(2, 234), (0, x1), (0, (mem 239 (x1).toNat)), (0, (mem 240 (x1).toNat)), (0, (mem 241 (x1).toNat))] [(0, 0)] _ rfl ?_
      exact w_retz rfl rfl (by decide) h
    · have h := h.2.2 c7
      refine zW.go 1 49 [(2, 234), (0, x1), (0, (mem 239 (x1).toNat)), (0, (mem 240 (x1).toNat)), (0, (mem 241 (x1).toNat))] [(0, (mem 240 (x1).toNat))] _ rfl ?_
      refine w_if_ne rfl (by decide) (pc' := 52) rfl h.1 (fun c8 => ?_) (fun c8 => ?_)
      · have h := h.2.1 c8
        refine zW.go 1 62 [(2, 234), (0, x1), (0, (mem 239 (x1).toNat)), (0, (mem 240 (x1).toNat)), (0, (mem 241 (x1).toNat))] [(0, 0)] _ rfl ?_
        exact w_retz rfl rfl (by decide) h
      · have h := h.2.2 c8
        refine zW.go 1 54 [(2, 234), (0, x1), (0, (mem 239 (x1).toNat)), (0, (mem 240 (x1).toNat)), (0, (mem 241 (x1).toNat))] [(0, (mem 241 (x1).toNat))] _ rfl ?_
        refine w_if_ne rfl (by decide) (pc' := 57) rfl h.1 (fun c9 => ?_) (fun c9 => ?_)
        · have h := h.2.1 c9
          refine zW.go 1 62 [(2, 234), (0, x1), (0, (mem 239 (x1).toNat)), (0, (mem 240 (x1).toNat)), (0, (mem 241 (x1).toNat))] [(0, 0)] _ rfl ?_
          exact w_retz rfl rfl (by decide) h
        · have h := h.2.2 c9
          refine zW.go 2 62 [(2, 234), (0, x1), (0, (mem 239 (x1).toNat)), (0, (mem 240 (x1).toNat)), (0, (mem 241 (x1).toNat))] [(0, 1)] _ rfl ?_
          exact w_retz rfl rfl (by decide) h
def L_images_readDeeds_2 (X : zX) (d : Nat) (rf : zF) (Q : Int → zF → Prop) (mem : zF) (p : Nat) (x3 : Int) : Prop := ∀ z4 : zV, ∀ z5 : zV, ∀ z6 : zV, zW X (d + 1) 22 2 [(2, 234), (2, 1), (2, ((p : Nat) : Int)), (0, x3), z4, z5, z6] [] (zty, rf, mem) (qi rf Q)
def L_images_readDeeds_31 (X : zX) (d : Nat) (rf : zF) (Q : Int → zF → Prop) (mem : zF) (p : Nat) (x3 : Int) (x4 : Int) (s0 : Int) : Prop := ∀ z5 : zV, ∀ z6 : zV, zW X (d + 1) 22 31 [(2, 234), (2, 1), (2, ((p : Nat) : Int)), (0, x3), (0, x4), z5, z6] [(0, s0)] (zty, rf, mem) (qi rf Q)
def L_images_readDeeds_60 (X : zX) (d : Nat) (rf : zF) (Q : Int → zF → Prop) (mem : zF) (p : Nat) (x3 : Int) (x4 : Int) (x5 : Int) (s0 : Int) : Prop := ∀ z6 : zV, zW X (d + 1) 22 60 [(2, 234), (2, 1), (2, ((p : Nat) : Int)), (0, x3), (0, x4), (0, x5), z6] [(0, s0)] (zty, rf, mem) (qi rf Q)
def L_images_readDeeds_81 (X : zX) (d : Nat) (rf : zF) (Q : Int → zF → Prop) (mem : zF) (p : Nat) (x3 : Int) (x5 : Int) (x6 : Int) (s1 : Int) (s2 : Int) : Prop := ∀ z4 : zV, zW X (d + 1) 22 81 [(2, 234), (2, 1), (2, ((p : Nat) : Int)), (0, x3), z4, (0, x5), (0, x6)] [(0, s2), (0, s1), (2, 242)] (zty, rf, mem) (qi rf Q)
def L_images_readDeeds_106 (X : zX) (d : Nat) (rf : zF) (Q : Int → zF → Prop) (mem : zF) (p : Nat) (x3 : Int) : Prop := ∀ z4 : zV, ∀ z5 : zV, ∀ z6 : zV, zW X (d + 1) 22 106 [(2, 234), (2, 1), (2, ((p : Nat) : Int)), (0, x3), z4, z5, z6] [] (zty, rf, mem) (qi rf Q)
set_option maxRecDepth 4000 in
theorem s_images_readDeeds_2 {X : zX} {d : Nat} {rf mem : zF} {Q : Int → zF → Prop} (hR : zall rf zRK = true) {p : Nat} (hp : zPln rf p) {x3 : Int} (h : Ci X d 61 [(2, ((p : Nat) : Int)), (0, 2)] rf mem (fun r1 mem2 => (inI x3 ∧ inI r1) ∧ ((r1 ≤ x3 → Q 1 mem2) ∧ (¬ r1 ≤ x3 → Ci X d 13 [(2, 234), (2, 1)] rf mem2 (fun r4 mem5 => (inI r4) ∧ ((¬ r4 = 255 → L_images_readDeeds_31 X d rf Q mem5 p x3 r4 0) ∧ (r4 = 255 → L_images_readDeeds_31 X d rf Q mem5 p x3 r4 1))))))) : L_images_readDeeds_2 X d rf Q mem p x3 := by
  intro z4 z5 z6
  refine zW.go 3 5 [(2, 234), (2, 1), (2, ((p : Nat) : Int)), (0, x3), z4, z5, z6] [(0, 2), (2, ((p : Nat) : Int)), (0, x3)] _ rfl ?_
  refine w_calli (as := [(2, ((p : Nat) : Int)), (0, 2)]) [(0, x3)] 8 rfl rfl rfl rfl (Nat.le_of_ble_eq_true rfl) (Nat.le_of_ble_eq_true rfl) (Nat.le_of_ble_eq_true rfl) (Or.inr (zrcv_o (zPln_t0 hp))) (Ci.imp h (fun r1 mem2 h => ?_))
  refine w_ic_ge rfl (by decide) (pc' := 11) rfl h.1 (fun c3 => ?_) (fun c3 => ?_)
  · have h := h.2.1 c3
    refine zW.go 1 130 [(2, 234), (2, 1), (2, ((p : Nat) : Int)), (0, x3), z4, z5, z6] [(0, 1)] _ rfl ?_
    exact w_retz rfl rfl (by decide) h
  · have h := h.2.2 c3
    refine zW.go 2 13 [(2, 234), (2, 1), (2, ((p : Nat) : Int)), (0, x3), z4, z5, z6] [(2, 1), (2, 234)] _ rfl ?_
    refine w_calli (as := [(2, 234), (2, 1)]) [] 16 rfl rfl rfl rfl (Nat.le_of_ble_eq_true rfl) (Nat.le_of_ble_eq_true rfl) (Nat.le_of_ble_eq_true rfl) (Or.inr rfl) (Ci.imp h (fun r4 mem5 h => ?_))
    refine zW.go 3 23 [(2, 234), (2, 1), (2, ((p : Nat) : Int)), (0, x3), (0, r4), z5, z6] [(0, 255), (0, r4)] _ rfl ?_
    refine w_ic_ne rfl (by decide) (pc' := 26) rfl ⟨h.1, by decide⟩ (fun c6 => ?_) (fun c6 => ?_)
    · have h := h.2.1 c6
      refine zW.go 1 31 [(2, 234), (2, 1), (2, ((p : Nat) : Int)), (0, x3), (0, r4), z5, z6] [(0, 0)] _ rfl ?_
      exact h z5 z6
    · have h := h.2.2 c6
      refine zW.go 2 31 [(2, 234), (2, 1), (2, ((p : Nat) : Int)), (0, x3), (0, r4), z5, z6] [(0, 1)] _ rfl ?_
      exact h z5 z6
set_option maxRecDepth 4000 in
theorem s_images_readDeeds_31 {X : zX} {d : Nat} {rf mem : zF} {Q : Int → zF → Prop} (hR : zall rf zRK = true) {p : Nat} (hp : zPln rf p) {x3 : Int} {x4 : Int} {s0 : Int} (h : Ci X d 60 [(2, ((p : Nat) : Int)), (0, 1), (0, x4)] rf mem (fun r7 mem8 => (inI r7) ∧ ((r7 = 0 → L_images_readDeeds_60 X d rf Q mem8 p x3 x4 s0 0) ∧ (¬ r7 = 0 → Ci X d 89 [(2, 236), (0, x3)] rf mem8 (fun r10 mem11 => (inI r10) ∧ ((¬ r10 = (-1) → L_images_readDeeds_60 X d rf Q mem11 p x3 x4 s0 0) ∧ (r10 = (-1) → L_images_readDeeds_60 X d rf Q mem11 p x3 x4 s0 1))))))) : L_images_readDeeds_31 X d rf Q mem p x3 x4 s0 := by
  intro z5 z6
  refine zW.go 4 37 [(2, 234), (2, 1), (2, ((p : Nat) : Int)), (0, x3), (0, x4), (0, s0), z6] [(0, x4), (0, 1), (2, ((p : Nat) : Int))] _ rfl ?_
  refine w_calli (as := [(2, ((p : Nat) : Int)), (0, 1), (0, x4)]) [] 40 rfl rfl rfl rfl (Nat.le_of_ble_eq_true rfl) (Nat.le_of_ble_eq_true rfl) (Nat.le_of_ble_eq_true rfl) (Or.inr (zrcv_o (zPln_t0 hp))) (Ci.imp h (fun r7 mem8 h => ?_))
  refine w_if_eq rfl (by decide) (pc' := 43) rfl h.1 (fun c9 => ?_) (fun c9 => ?_)
  · have h := h.2.1 c9
    refine zW.go 1 60 [(2, 234), (2, 1), (2, ((p : Nat) : Int)), (0, x3), (0, x4), (0, s0), z6] [(0, 0)] _ rfl ?_
    exact h z6
  · have h := h.2.2 c9
    refine zW.go 1 44 [(2, 234), (2, 1), (2, ((p : Nat) : Int)), (0, x3), (0, x4), (0, s0), z6] [(2, 234)] _ rfl ?_
    refine w_getL (q := 234) (v := 236) rfl (by decide) (pc' := 47) rfl ⟨by decide, rfl⟩ rfl rfl (zall_at hR (by decide)) ?_
    refine zW.go 1 48 [(2, 234), (2, 1), (2, ((p : Nat) : Int)), (0, x3), (0, x4), (0, s0), z6] [(0, x3), (2, 236)] _ rfl ?_
    refine w_calli (as := [(2, 236), (0, x3)]) [] 51 rfl rfl rfl rfl (Nat.le_of_ble_eq_true rfl) (Nat.le_of_ble_eq_true rfl) (Nat.le_of_ble_eq_true rfl) (Or.inr rfl) (Ci.imp h (fun r10 mem11 h => ?_))
    refine zW.go 1 52 [(2, 234), (2, 1), (2, ((p : Nat) : Int)), (0, x3), (0, x4), (0, s0), z6] [(0, (-1)), (0, r10)] _ rfl ?_
    refine w_ic_ne rfl (by decide) (pc' := 55) rfl ⟨h.1, by decide⟩ (fun c12 => ?_) (fun c12 => ?_)
    · have h := h.2.1 c12
      refine zW.go 1 60 [(2, 234), (2, 1), (2, ((p : Nat) : Int)), (0, x3), (0, x4), (0, s0), z6] [(0, 0)] _ rfl ?_
      exact h z6
    · have h := h.2.2 c12
      refine zW.go 2 60 [(2, 234), (2, 1), (2, ((p : Nat) : Int)), (0, x3), (0, x4), (0, s0), z6] [(0, 1)] _ rfl ?_
      exact h z6
set_option maxRecDepth 4000 in
theorem s_images_readDeeds_60 {X : zX} {d : Nat} {rf mem : zF} {Q : Int → zF → Prop} (hR : zall rf zRK = true) {p : Nat} (hp : zPln rf p) {x3 : Int} {x4 : Int} {x5 : Int} {s0 : Int} (h : (inI x5) ∧ ((x5 = 0 → L_images_readDeeds_81 X d rf Q mem p x3 x5 s0 x3 x4) ∧ (¬ x5 = 0 → L_images_readDeeds_81 X d rf Q mem p x3 x5 s0 x3 (-1)))) : L_images_readDeeds_60 X d rf Q mem p x3 x4 x5 s0 := by
  intro z6
  refine zW.go 2 63 [(2, 234), (2, 1), (2, ((p : Nat) : Int)), (0, x3), (0, x4), (0, x5), (0, s0)] [(2, 234)] _ rfl ?_
  refine w_getL (q := 234) (v := 236) rfl (by decide) (pc' := 66) rfl ⟨by decide, rfl⟩ rfl rfl (zall_at hR (by decide)) ?_
  refine w_getL (q := 236) (v := 242) rfl (by decide) (pc' := 69) rfl ⟨by decide, rfl⟩ rfl rfl (zall_at hR (by decide)) ?_
  refine zW.go 2 72 [(2, 234), (2, 1), (2, ((p : Nat) : Int)), (0, x3), (0, x4), (0, x5), (0, s0)] [(0, x5), (0, x3), (2, 242)] _ rfl ?_
  refine w_if_eq rfl (by decide) (pc' := 75) rfl h.1 (fun c13 => ?_) (fun c13 => ?_)
  · have h := h.2.1 c13
    refine zW.go 1 81 [(2, 234), (2, 1), (2, ((p : Nat) : Int)), (0, x3), (0, x4), (0, x5), (0, s0)] [(0, x4), (0, x3), (2, 242)] _ rfl ?_
    exact h (0, x4)
  · have h := h.2.2 c13
    refine zW.go 2 81 [(2, 234), (2, 1), (2, ((p : Nat) : Int)), (0, x3), (0, x4), (0, x5), (0, s0)] [(0, (-1)), (0, x3), (2, 242)] _ rfl ?_
    exact h (0, x4)
set_option maxRecDepth 4000 in
theorem s_images_readDeeds_81 {X : zX} {d : Nat} {rf mem : zF} {Q : Int → zF → Prop} (hR : zall rf zRK = true) {p : Nat} (hp : zPln rf p) {x3 : Int} {x5 : Int} {x6 : Int} {s1 : Int} {s2 : Int} (h : (0 ≤ s1 ∧ s1 < 6) ∧ (Ci X d 14 [(2, 234), (2, 1)] rf (zup mem 242 (s1).toNat s2) (fun r14 mem15 => (0 ≤ x3 ∧ x3 < 6) ∧ ((inI x5) ∧ ((¬ x5 = 0 → L_images_readDeeds_106 X d rf Q (zup mem15 243 (x3).toNat r14) p x3) ∧ (x5 = 0 → (inI x6) ∧ ((x6 = 0 → Q 0 (zup mem15 243 (x3).toNat r14)) ∧ (¬ x6 = 0 → L_images_readDeeds_106 X d rf Q (zup mem15 243 (x3).toNat r14) p x3)))))))) : L_images_readDeeds_81 X d rf Q mem p x3 x5 x6 s1 s2 := by
  intro z4
  obtain ⟨g, h⟩ := h
  refine w_iast (q := 242) rfl (by decide) (pc' := 82) rfl ⟨by decide, rfl⟩ rfl g rfl ?_
  refine zW.go 1 83 [(2, 234), (2, 1), (2, ((p : Nat) : Int)), (0, x3), z4, (0, x5), (0, x6)] [(2, 234)] _ rfl ?_
  refine w_getL (q := 234) (v := 236) rfl (by decide) (pc' := 86) rfl ⟨by decide, rfl⟩ rfl rfl (zall_at hR (by decide)) ?_
  refine w_getL (q := 236) (v := 243) rfl (by decide) (pc' := 89) rfl ⟨by decide, rfl⟩ rfl rfl (zall_at hR (by decide)) ?_
  refine zW.go 3 92 [(2, 234), (2, 1), (2, ((p : Nat) : Int)), (0, x3), z4, (0, x5), (0, x6)] [(2, 1), (2, 234), (0, x3), (2, 243)] _ rfl ?_
  refine w_calli (as := [(2, 234), (2, 1)]) [(0, x3), (2, 243)] 95 rfl rfl rfl rfl (Nat.le_of_ble_eq_true rfl) (Nat.le_of_ble_eq_true rfl) (Nat.le_of_ble_eq_true rfl) (Or.inr rfl) (Ci.imp h (fun r14 mem15 h => ?_))
  obtain ⟨g, h⟩ := h
  refine w_iast (q := 243) rfl (by decide) (pc' := 96) rfl ⟨by decide, rfl⟩ rfl g rfl ?_
  refine zW.go 1 98 [(2, 234), (2, 1), (2, ((p : Nat) : Int)), (0, x3), z4, (0, x5), (0, x6)] [(0, x5)] _ rfl ?_
  refine w_if_ne rfl (by decide) (pc' := 101) rfl h.1 (fun c16 => ?_) (fun c16 => ?_)
  · have h := h.2.1 c16
    exact h z4 (0, x5) (0, x6)
  · have h := h.2.2 c16
    refine zW.go 1 103 [(2, 234), (2, 1), (2, ((p : Nat) : Int)), (0, x3), z4, (0, x5), (0, x6)] [(0, x6)] _ rfl ?_
    refine w_if_eq rfl (by decide) (pc' := 106) rfl h.1 (fun c17 => ?_) (fun c17 => ?_)
    · have h := h.2.1 c17
      refine zW.go 1 122 [(2, 234), (2, 1), (2, ((p : Nat) : Int)), (0, x3), z4, (0, x5), (0, x6)] [(0, 0)] _ rfl ?_
      exact w_retz rfl rfl (by decide) h
    · have h := h.2.2 c17
      exact h z4 (0, x5) (0, x6)
set_option maxRecDepth 4000 in
theorem s_images_readDeeds_106 {X : zX} {d : Nat} {rf mem : zF} {Q : Int → zF → Prop} (hR : zall rf zRK = true) {p : Nat} (hp : zPln rf p) {x3 : Int} (h : (0 ≤ x3 ∧ x3 < 6) ∧ ((inI (mem 243 (x3).toNat)) ∧ (((mem 243 (x3).toNat) ≤ 999 → L_images_readDeeds_2 X d rf Q mem p (x3 + 1)) ∧ (¬ (mem 243 (x3).toNat) ≤ 999 → Q 0 mem)))) : L_images_readDeeds_106 X d rf Q mem p x3 := by
  intro z4 z5 z6
  refine zW.go 1 107 [(2, 234), (2, 1), (2, ((p : Nat) : Int)), (0, x3), z4, z5, z6] [(2, 234)] _ rfl ?_
  refine w_getL (q := 234) (v := 236) rfl (by decide) (pc' := 110) rfl ⟨by decide, rfl⟩ rfl rfl (zall_at hR (by decide)) ?_
  refine w_getL (q := 236) (v := 243) rfl (by decide) (pc' := 113) rfl ⟨by decide, rfl⟩ rfl rfl (zall_at hR (by decide)) ?_
  refine zW.go 1 114 [(2, 234), (2, 1), (2, ((p : Nat) : Int)), (0, x3), z4, z5, z6] [(0, x3), (2, 243)] _ rfl ?_
  obtain ⟨g, h⟩ := h
  refine w_iald (q := 243) rfl (by decide) (pc' := 115) rfl ⟨by decide, rfl⟩ rfl g rfl ?_
  refine zW.go 1 118 [(2, 234), (2, 1), (2, ((p : Nat) : Int)), (0, x3), z4, z5, z6] [(0, 999), (0, (mem 243 (x3).toNat))] _ rfl ?_
  refine w_ic_le rfl (by decide) (pc' := 121) rfl ⟨h.1, by decide⟩ (fun c18 => ?_) (fun c18 => ?_)
  · have h := h.2.1 c18
    refine zW.go 2 2 [(2, 234), (2, 1), (2, ((p : Nat) : Int)), (0, (x3 + 1)), z4, z5, z6] [] _ rfl ?_
    exact h z4 z5 z6
  · have h := h.2.2 c18
    refine zW.go 1 122 [(2, 234), (2, 1), (2, ((p : Nat) : Int)), (0, x3), z4, z5, z6] [(0, 0)] _ rfl ?_
    exact w_retz rfl rfl (by decide) h
set_option maxRecDepth 4000 in
theorem s_images_readDeeds {X : zX} {d : Nat} {rf mem : zF} {Q : Int → zF → Prop} (hR : zall rf zRK = true) {p : Nat} (hp : zPln rf p) (h : L_images_readDeeds_2 X d rf Q mem p 0) : Ci X (d + 1) 22 [(2, 234), (2, 1), (2, ((p : Nat) : Int))] rf mem Q := by
  show zW X (d + 1) 22 0 [(2, 234), (2, 1), (2, ((p : Nat) : Int)), (9, 0), (9, 0), (9, 0), (9, 0)] [] (zty, rf, mem) (qi rf Q)
  refine zW.go 2 2 [(2, 234), (2, 1), (2, ((p : Nat) : Int)), (0, 0), (9, 0), (9, 0), (9, 0)] [] _ rfl ?_
  exact h (9, 0) (9, 0) (9, 0)
def L_parser_read_29 (X : zX) (d : Nat) (rf : zF) (Q : Int → zF → Prop) (mem : zF) (p : Nat) (x2 : Int) (x3 : Int) : Prop := ∀ z1 : zV, z1.1 ≠ 1 → zW X (d + 1) 25 29 [(2, 3), z1, (0, x2), (0, x3)] [] (zty, rf, mem) (qi rf Q)
def L_parser_read_63 (X : zX) (d : Nat) (rf : zF) (Q : Int → zF → Prop) (mem : zF) (p : Nat) (x2 : Int) : Prop := ∀ z1 : zV, ∀ z3 : zV, zW X (d + 1) 25 63 [(2, 3), z1, (0, x2), z3] [] (zty, rf, mem) (qi rf Q)
set_option maxRecDepth 4000 in
theorem s_parser_read_29 {X : zX} {d : Nat} {rf mem : zF} {Q : Int → zF → Prop} (hR : zall rf zRK = true) {p : Nat} (hp : zPln rf p) (hpl : rf 3 1 = ((p : Nat) : Int)) {x2 : Int} {x3 : Int} (h : (inI x2) ∧ ((x2 = 0 → L_parser_read_63 X d rf Q mem p x2) ∧ (¬ x2 = 0 → (inI x3) ∧ ((1600 ≤ x3 → L_parser_read_63 X d rf Q mem p x2) ∧ (¬ 1600 ≤ x3 → (inI (mem 4 8)) ∧ (((mem 4 8) = (-2) → L_parser_read_63 X d rf Q mem p x2) ∧ (¬ (mem 4 8) = (-2) → Ci X d 27 [(2, 3)] rf mem (fun r6 mem7 => L_parser_read_29 X d rf Q mem7 p r6 (x3 + 1))))))))) : L_parser_read_29 X d rf Q mem p x2 x3 := by
  intro z1 hz1
  refine zW.go 1 30 [(2, 3), z1, (0, x2), (0, x3)] [(0, x2)] _ rfl ?_
  refine w_if_eq rfl (by decide) (pc' := 33) rfl h.1 (fun c3 => ?_) (fun c3 => ?_)
  · have h := h.2.1 c3
    exact h z1 (0, x3)
  · have h := h.2.2 c3
    refine zW.go 2 37 [(2, 3), z1, (0, x2), (0, x3)] [(0, 1600), (0, x3)] _ rfl ?_
    refine w_ic_ge rfl (by decide) (pc' := 40) rfl ⟨h.1, by decide⟩ (fun c4 => ?_) (fun c4 => ?_)
    · have h := h.2.1 c4
      exact h z1 (0, x3)
    · have h := h.2.2 c4
      refine zW.go 1 41 [(2, 3), z1, (0, x2), (0, x3)] [(2, 3)] _ rfl ?_
      refine w_getL (q := 3) (v := 4) rfl (by decide) (pc' := 44) rfl ⟨by decide, rfl⟩ rfl rfl (zall_at hR (by decide)) ?_
      refine w_getI (q := 4) rfl (by decide) (pc' := 47) rfl ⟨by decide, rfl⟩ rfl (by decide) ?_
      refine zW.go 1 49 [(2, 3), z1, (0, x2), (0, x3)] [(0, (-2)), (0, (mem 4 8))] _ rfl ?_
      refine w_ic_eq rfl (by decide) (pc' := 52) rfl ⟨h.1, by decide⟩ (fun c5 => ?_) (fun c5 => ?_)
      · have h := h.2.1 c5
        exact h z1 (0, x3)
      · have h := h.2.2 c5
        refine zW.go 1 53 [(2, 3), z1, (0, x2), (0, x3)] [(2, 3)] _ rfl ?_
        refine w_calli (as := [(2, 3)]) [] 56 rfl rfl rfl rfl (Nat.le_of_ble_eq_true rfl) (Nat.le_of_ble_eq_true rfl) (Nat.le_of_ble_eq_true rfl) (Or.inr rfl) (Ci.imp h (fun r6 mem7 h => ?_))
        refine zW.step 57 [(2, 3), z1, (0, r6), (0, x3)] [] _ rfl (by decide) (by decide) (by show some (_, zst1 [(2, 3), z1, (0, x2), (0, x3)] 2 _, _, _) = _; rw [zst1_z (ls := [(2, 3), z1, (0, x2), (0, x3)]) (i := 2) hz1]; rfl) ?_
        refine zW.go 2 29 [(2, 3), z1, (0, r6), (0, (x3 + 1))] [] _ rfl ?_
        exact h z1 hz1
set_option maxRecDepth 4000 in
theorem s_parser_read_63 {X : zX} {d : Nat} {rf mem : zF} {Q : Int → zF → Prop} (hR : zall rf zRK = true) {p : Nat} (hp : zPln rf p) (hpl : rf 3 1 = ((p : Nat) : Int)) {x2 : Int} (h : (inI x2) ∧ ((x2 = 0 → Q 0 mem) ∧ (¬ x2 = 0 → (inI (mem p 0)) ∧ ((0 < (mem p 0) → Q 1 mem) ∧ (¬ 0 < (mem p 0) → Ci X d 26 [(2, 3), (0, 1)] rf mem (fun r10 mem11 => (inI r10) ∧ ((r10 = 0 → Q 0 mem11) ∧ (¬ r10 = 0 → Q 1 mem11)))))))) : L_parser_read_63 X d rf Q mem p x2 := by
  intro z1 z3
  refine zW.go 1 64 [(2, 3), z1, (0, x2), z3] [(0, x2)] _ rfl ?_
  refine w_if_eq rfl (by decide) (pc' := 67) rfl h.1 (fun c8 => ?_) (fun c8 => ?_)
  · have h := h.2.1 c8
    refine zW.go 1 90 [(2, 3), z1, (0, x2), z3] [(0, 0)] _ rfl ?_
    exact w_retz rfl rfl (by decide) h
  · have h := h.2.2 c8
    refine zW.go 1 68 [(2, 3), z1, (0, x2), z3] [(2, 3)] _ rfl ?_
    refine w_getL (q := 3) (v := ((p : Nat) : Int)) rfl (by decide) (pc' := 71) rfl ⟨by decide, rfl⟩ rfl rfl hpl ?_
    refine w_getI (q := p) rfl (by decide) (pc' := 74) rfl ⟨Int.natCast_nonneg _, rfl⟩ (zPln_t0 hp) (by decide) ?_
    refine w_if_gt rfl (by decide) (pc' := 77) rfl h.1 (fun c9 => ?_) (fun c9 => ?_)
    · have h := h.2.1 c9
      refine zW.go 2 90 [(2, 3), z1, (0, x2), z3] [(0, 1)] _ rfl ?_
      exact w_retz rfl rfl (by decide) h
    · have h := h.2.2 c9
      refine zW.go 2 79 [(2, 3), z1, (0, x2), z3] [(0, 1), (2, 3)] _ rfl ?_
      refine w_calli (as := [(2, 3), (0, 1)]) [] 82 rfl rfl rfl rfl (Nat.le_of_ble_eq_true rfl) (Nat.le_of_ble_eq_true rfl) (Nat.le_of_ble_eq_true rfl) (Or.inr rfl) (Ci.imp h (fun r10 mem11 h => ?_))
      refine w_if_eq rfl (by decide) (pc' := 85) rfl h.1 (fun c12 => ?_) (fun c12 => ?_)
      · have h := h.2.1 c12
        refine zW.go 1 90 [(2, 3), z1, (0, x2), z3] [(0, 0)] _ rfl ?_
        exact w_retz rfl rfl (by decide) h
      · have h := h.2.2 c12
        refine zW.go 2 90 [(2, 3), z1, (0, x2), z3] [(0, 1)] _ rfl ?_
        exact w_retz rfl rfl (by decide) h
set_option maxRecDepth 4000 in
theorem s_parser_read {X : zX} {d : Nat} {rf mem : zF} {Q : Int → zF → Prop} (hR : zall rf zRK = true) {p : Nat} (hp : zPln rf p) (hpl : rf 3 1 = ((p : Nat) : Int)) (h : Cv X d 59 [(2, ((p : Nat) : Int))] rf (zup (zup mem 3 3 0) 3 4 (-1)) (fun mem1 => Cv X d 127 [(2, 4), (2, 1)] rf mem1 (fun mem2 => L_parser_read_29 X d rf Q mem2 p 1 0))) : Ci X (d + 1) 25 [(2, 3), (2, 1)] rf mem Q := by
  show zW X (d + 1) 25 0 [(2, 3), (2, 1), (9, 0), (9, 0)] [] (zty, rf, mem) (qi rf Q)
  refine zW.go 2 2 [(2, 3), (2, 1), (9, 0), (9, 0)] [(0, 0), (2, 3)] _ rfl ?_
  refine w_putI (q := 3) rfl (by decide) (pc' := 5) rfl ⟨by decide, rfl⟩ rfl (by decide) ?_
  refine zW.go 2 7 [(2, 3), (2, 1), (9, 0), (9, 0)] [(0, (-1)), (2, 3)] _ rfl ?_
  refine w_putI (q := 3) rfl (by decide) (pc' := 10) rfl ⟨by decide, rfl⟩ rfl (by decide) ?_
  refine zW.go 1 11 [(2, 3), (2, 1), (9, 0), (9, 0)] [(2, 3)] _ rfl ?_
  refine w_getL (q := 3) (v := ((p : Nat) : Int)) rfl (by decide) (pc' := 14) rfl ⟨by decide, rfl⟩ rfl rfl hpl ?_
  refine w_callv (as := [(2, ((p : Nat) : Int))]) [] 17 rfl rfl rfl rfl (Nat.le_of_ble_eq_true rfl) (Nat.le_of_ble_eq_true rfl) (Nat.le_of_ble_eq_true rfl) (Or.inr (zrcv_o (zPln_t0 hp))) (Cv.imp h (fun mem1 h => ?_))
  refine zW.go 1 18 [(2, 3), (2, 1), (9, 0), (9, 0)] [(2, 3)] _ rfl ?_
  refine w_getL (q := 3) (v := 4) rfl (by decide) (pc' := 21) rfl ⟨by decide, rfl⟩ rfl rfl (zall_at hR (by decide)) ?_
  refine zW.go 1 22 [(2, 3), (2, 1), (9, 0), (9, 0)] [(2, 1), (2, 4)] _ rfl ?_
  refine w_callv (as := [(2, 4), (2, 1)]) [] 25 rfl rfl rfl rfl (Nat.le_of_ble_eq_true rfl) (Nat.le_of_ble_eq_true rfl) (Nat.le_of_ble_eq_true rfl) (Or.inr rfl) (Cv.imp h (fun mem2 h => ?_))
  refine zW.go 4 29 [(2, 3), (2, 1), (0, 1), (0, 0)] [] _ rfl ?_
  exact h (2, 1) (by show (2 : Nat) ≠ 1; decide)
set_option maxRecDepth 4000 in
theorem s_parser_refuse {X : zX} {d : Nat} {rf mem : zF} {Q : Int → zF → Prop} (hR : zall rf zRK = true) {p : Nat} (hp : zPln rf p) (hpl : rf 3 1 = ((p : Nat) : Int)) {x1 : Int} (h : Q 0 (zup (zup mem 3 3 x1) 3 4 (mem 4 10))) : Ci X d 26 [(2, 3), (0, x1)] rf mem Q := by
  show zW X d 26 0 [(2, 3), (0, x1)] [] (zty, rf, mem) (qi rf Q)
  refine zW.go 2 2 [(2, 3), (0, x1)] [(0, x1), (2, 3)] _ rfl ?_
  refine w_putI (q := 3) rfl (by decide) (pc' := 5) rfl ⟨by decide, rfl⟩ rfl (by decide) ?_
  refine zW.go 2 7 [(2, 3), (0, x1)] [(2, 3), (2, 3)] _ rfl ?_
  refine w_getL (q := 3) (v := 4) rfl (by decide) (pc' := 10) rfl ⟨by decide, rfl⟩ rfl rfl (zall_at hR (by decide)) ?_
  refine w_getI (q := 4) rfl (by decide) (pc' := 13) rfl ⟨by decide, rfl⟩ rfl (by decide) ?_
  refine w_putI (q := 3) rfl (by decide) (pc' := 16) rfl ⟨by decide, rfl⟩ rfl (by decide) ?_
  refine zW.go 1 17 [(2, 3), (0, x1)] [(0, 0)] _ rfl ?_
  exact w_retz rfl rfl (by decide) h
def L_parser_readStatement_15 (X : zX) (d : Nat) (rf : zF) (Q : Int → zF → Prop) (mem : zF) (p : Nat) (s0 : Int) : Prop := ∀ z1 : zV, ∀ z2 : zV, zW X (d + 1) 27 15 [(2, 3), z1, z2] [(0, s0)] (zty, rf, mem) (qi rf Q)
def L_parser_readStatement_67 (X : zX) (d : Nat) (rf : zF) (Q : Int → zF → Prop) (mem : zF) (p : Nat) (s0 : Int) (s1 : Int) : Prop := ∀ z1 : zV, z1.1 ≠ 1 → ∀ z2 : zV, zW X (d + 1) 27 67 [(2, 3), z1, z2] [(0, s1), (0, s0)] (zty, rf, mem) (qi rf Q)
def L_parser_readStatement_253 (X : zX) (d : Nat) (rf : zF) (Q : Int → zF → Prop) (mem : zF) (p : Nat) (x2 : Int) : Prop := ∀ z1 : zV, zW X (d + 1) 27 253 [(2, 3), z1, (0, x2)] [] (zty, rf, mem) (qi rf Q)
set_option maxRecDepth 4000 in
theorem s_parser_readStatement_15 {X : zX} {d : Nat} {rf mem : zF} {Q : Int → zF → Prop} (hR : zall rf zRK = true) {p : Nat} (hp : zPln rf p) (hpl : rf 3 1 = ((p : Nat) : Int)) {s0 : Int} (h : (inI (mem p 0)) ∧ (((mem p 0) < 80 → (inI (mem 4 8)) ∧ ((¬ (mem 4 8) = 20000 → L_parser_readStatement_67 X d rf Q mem p s0 0) ∧ ((mem 4 8) = 20000 → L_parser_readStatement_67 X d rf Q mem p s0 1))) ∧ (¬ (mem p 0) < 80 → Ci X d 26 [(2, 3), (0, 6)] rf mem (fun r4 mem5 => Q 0 (zup mem5 3 4 (mem5 4 9)))))) : L_parser_readStatement_15 X d rf Q mem p s0 := by
  intro z1 z2
  refine zW.go 2 17 [(2, 3), (0, s0), z2] [(2, 3)] _ rfl ?_
  refine w_getL (q := 3) (v := ((p : Nat) : Int)) rfl (by decide) (pc' := 20) rfl ⟨by decide, rfl⟩ rfl rfl hpl ?_
  refine w_getI (q := p) rfl (by decide) (pc' := 23) rfl ⟨Int.natCast_nonneg _, rfl⟩ (zPln_t0 hp) (by decide) ?_
  refine zW.go 1 25 [(2, 3), (0, s0), z2] [(0, 80), (0, (mem p 0))] _ rfl ?_
  refine w_ic_lt rfl (by decide) (pc' := 28) rfl ⟨h.1, by decide⟩ (fun c2 => ?_) (fun c2 => ?_)
  · have h := h.2.1 c2
    refine zW.go 2 50 [(2, 3), (0, s0), z2] [(2, 3), (0, s0)] _ rfl ?_
    refine w_getL (q := 3) (v := 4) rfl (by decide) (pc' := 53) rfl ⟨by decide, rfl⟩ rfl rfl (zall_at hR (by decide)) ?_
    refine w_getI (q := 4) rfl (by decide) (pc' := 56) rfl ⟨by decide, rfl⟩ rfl (by decide) ?_
    refine zW.go 1 59 [(2, 3), (0, s0), z2] [(0, 20000), (0, (mem 4 8)), (0, s0)] _ rfl ?_
    refine w_ic_ne rfl (by decide) (pc' := 62) rfl ⟨h.1, by decide⟩ (fun c3 => ?_) (fun c3 => ?_)
    · have h := h.2.1 c3
      refine zW.go 1 67 [(2, 3), (0, s0), z2] [(0, 0), (0, s0)] _ rfl ?_
      exact h (0, s0) (by show (0 : Nat) ≠ 1; decide) z2
    · have h := h.2.2 c3
      refine zW.go 2 67 [(2, 3), (0, s0), z2] [(0, 1), (0, s0)] _ rfl ?_
      exact h (0, s0) (by show (0 : Nat) ≠ 1; decide) z2
  · have h := h.2.2 c2
    refine zW.go 2 31 [(2, 3), (0, s0), z2] [(0, 6), (2, 3)] _ rfl ?_
    refine w_calli (as := [(2, 3), (0, 6)]) [] 34 rfl rfl rfl rfl (Nat.le_of_ble_eq_true rfl) (Nat.le_of_ble_eq_true rfl) (Nat.le_of_ble_eq_true rfl) (Or.inr rfl) (Ci.imp h (fun r4 mem5 h => ?_))
    refine zW.go 3 37 [(2, 3), (0, s0), z2] [(2, 3), (2, 3)] _ rfl ?_
    refine w_getL (q := 3) (v := 4) rfl (by decide) (pc' := 40) rfl ⟨by decide, rfl⟩ rfl rfl (zall_at hR (by decide)) ?_
    refine w_getI (q := 4) rfl (by decide) (pc' := 43) rfl ⟨by decide, rfl⟩ rfl (by decide) ?_
    refine w_putI (q := 3) rfl (by decide) (pc' := 46) rfl ⟨by decide, rfl⟩ rfl (by decide) ?_
    refine zW.go 1 47 [(2, 3), (0, s0), z2] [(0, 0)] _ rfl ?_
    exact w_retz rfl rfl (by decide) h
set_option maxRecDepth 4000 in
theorem s_parser_readStatement_67 {X : zX} {d : Nat} {rf mem : zF} {Q : Int → zF → Prop} (hR : zall rf zRK = true) {p : Nat} (hp : zPln rf p) (hpl : rf 3 1 = ((p : Nat) : Int)) {s0 : Int} {s1 : Int} (h : (inI s0 ∧ inI s1) ∧ ((s0 = s1 → (inI (mem 4 8)) ∧ (((mem 4 8) = 20000 → Ci X d 28 [(2, 3)] rf mem (fun r7 mem8 => L_parser_readStatement_253 X d rf Q mem8 p r7)) ∧ ((mem 4 8) = 20001 → Ci X d 26 [(2, 3), (0, 1)] rf mem (fun r9 mem10 => L_parser_readStatement_253 X d rf Q mem10 p r9)) ∧ ((mem 4 8) = 20002 → Ci X d 29 [(2, 3)] rf mem (fun r11 mem12 => L_parser_readStatement_253 X d rf Q mem12 p r11)) ∧ ((mem 4 8) = 20003 → Ci X d 31 [(2, 3)] rf mem (fun r13 mem14 => L_parser_readStatement_253 X d rf Q mem14 p r13)) ∧ ((mem 4 8) = 20004 → Ci X d 26 [(2, 3), (0, 1)] rf mem (fun r15 mem16 => L_parser_readStatement_253 X d rf Q mem16 p r15)) ∧ ((mem 4 8) = 20005 → Ci X d 26 [(2, 3), (0, 1)] rf mem (fun r17 mem18 => L_parser_readStatement_253 X d rf Q mem18 p r17)) ∧ ((mem 4 8) = 20006 → Ci X d 26 [(2, 3), (0, 1)] rf mem (fun r19 mem20 => L_parser_readStatement_253 X d rf Q mem20 p r19)) ∧ ((mem 4 8) = 20007 → Ci X d 32 [(2, 3)] rf mem (fun r21 mem22 => L_parser_readStatement_253 X d rf Q mem22 p r21)) ∧ ((mem 4 8) = 20008 → Ci X d 33 [(2, 3)] rf mem (fun r23 mem24 => L_parser_readStatement_253 X d rf Q mem24 p r23)) ∧ ((mem 4 8) = 20009 → Ci X d 26 [(2, 3), (0, 1)] rf mem (fun r25 mem26 => L_parser_readStatement_253 X d rf Q mem26 p r25)) ∧ ((mem 4 8) = 20010 → Ci X d 34 [(2, 3)] rf mem (fun r27 mem28 => L_parser_readStatement_253 X d rf Q mem28 p r27)) ∧ ((mem 4 8) = 20011 → Ci X d 26 [(2, 3), (0, 1)] rf mem (fun r29 mem30 => L_parser_readStatement_253 X d rf Q mem30 p r29)) ∧ ((mem 4 8) = 20012 → Ci X d 26 [(2, 3), (0, 1)] rf mem (fun r31 mem32 => L_parser_readStatement_253 X d rf Q mem32 p r31)) ∧ ((mem 4 8) = 20013 → Ci X d 35 [(2, 3), (0, 0)] rf mem (fun r33 mem34 => L_parser_readStatement_253 X d rf Q mem34 p r33)) ∧ ((mem 4 8) = 20014 → Ci X d 35 [(2, 3), (0, 1)] rf mem (fun r35 mem36 => L_parser_readStatement_253 X d rf Q mem36 p r35)) ∧ ((mem 4 8) = 20015 → Ci X d 35 [(2, 3), (0, 2)] rf mem (fun r37 mem38 => L_parser_readStatement_253 X d rf Q mem38 p r37)) ∧ ((mem 4 8) = 20016 → Ci X d 30 [(2, 3)] rf mem (fun r39 mem40 => L_parser_readStatement_253 X d rf Q mem40 p r39)) ∧ (((mem 4 8) ≠ 20000 ∧ (mem 4 8) ≠ 20001 ∧ (mem 4 8) ≠ 20002 ∧ (mem 4 8) ≠ 20003 ∧ (mem 4 8) ≠ 20004 ∧ (mem 4 8) ≠ 20005 ∧ (mem 4 8) ≠ 20006 ∧ (mem 4 8) ≠ 20007 ∧ (mem 4 8) ≠ 20008 ∧ (mem 4 8) ≠ 20009 ∧ (mem 4 8) ≠ 20010 ∧ (mem 4 8) ≠ 20011 ∧ (mem 4 8) ≠ 20012 ∧ (mem 4 8) ≠ 20013 ∧ (mem 4 8) ≠ 20014 ∧ (mem 4 8) ≠ 20015 ∧ (mem 4 8) ≠ 20016) → Ci X d 26 [(2, 3), (0, 1)] rf mem (fun r41 mem42 => L_parser_readStatement_253 X d rf Q mem42 p r41)))) ∧ (¬ s0 = s1 → Ci X d 26 [(2, 3), (0, 1)] rf mem (fun r43 mem44 => (r43 = 0 ∨ r43 = 1) ∧ Q r43 mem44)))) : L_parser_readStatement_67 X d rf Q mem p s0 s1 := by
  intro z1 hz1 z2
  refine w_ic_eq rfl (by decide) (pc' := 70) rfl h.1 (fun c6 => ?_) (fun c6 => ?_)
  · have h := h.2.1 c6
    refine zW.go 1 77 [(2, 3), z1, z2] [(2, 3)] _ rfl ?_
    refine w_getL (q := 3) (v := 4) rfl (by decide) (pc' := 80) rfl ⟨by decide, rfl⟩ rfl rfl (zall_at hR (by decide)) ?_
    refine w_getI (q := 4) rfl (by decide) (pc' := 83) rfl ⟨by decide, rfl⟩ rfl (by decide) ?_
    obtain ⟨g, h⟩ := h
    by_cases e0 : (mem 4 8) = 20000
    · refine w_tabIn 164 rfl (by decide) g (by omega) (by rw [e0]; rfl) rfl ?_
      have h := h.1 e0
      refine zW.go 1 165 [(2, 3), z1, z2] [(2, 3)] _ rfl ?_
      refine w_calli (as := [(2, 3)]) [] 168 rfl rfl rfl rfl (Nat.le_of_ble_eq_true rfl) (Nat.le_of_ble_eq_true rfl) (Nat.le_of_ble_eq_true rfl) (Or.inr rfl) (Ci.imp h (fun r7 mem8 h => ?_))
      refine zW.step 169 [(2, 3), z1, (0, r7)] [] _ rfl (by decide) (by decide) (by show some (_, zst1 [(2, 3), z1, z2] 2 _, _, _) = _; rw [zst1_z (ls := [(2, 3), z1, z2]) (i := 2) hz1]; rfl) ?_
      refine zW.go 1 253 [(2, 3), z1, (0, r7)] [] _ rfl ?_
      exact h z1
    · by_cases e1 : (mem 4 8) = 20001
      · refine w_tabIn 247 rfl (by decide) g (by omega) (by rw [e1]; rfl) rfl ?_
        have h := h.2.1 e1
        refine zW.go 2 249 [(2, 3), z1, z2] [(0, 1), (2, 3)] _ rfl ?_
        refine w_calli (as := [(2, 3), (0, 1)]) [] 252 rfl rfl rfl rfl (Nat.le_of_ble_eq_true rfl) (Nat.le_of_ble_eq_true rfl) (Nat.le_of_ble_eq_true rfl) (Or.inr rfl) (Ci.imp h (fun r9 mem10 h => ?_))
        refine zW.step 253 [(2, 3), z1, (0, r9)] [] _ rfl (by decide) (by decide) (by show some (_, zst1 [(2, 3), z1, z2] 2 _, _, _) = _; rw [zst1_z (ls := [(2, 3), z1, z2]) (i := 2) hz1]; rfl) ?_
        exact h z1
      · by_cases e2 : (mem 4 8) = 20002
        · refine w_tabIn 172 rfl (by decide) g (by omega) (by rw [e2]; rfl) rfl ?_
          have h := h.2.2.1 e2
          refine zW.go 1 173 [(2, 3), z1, z2] [(2, 3)] _ rfl ?_
          refine w_calli (as := [(2, 3)]) [] 176 rfl rfl rfl rfl (Nat.le_of_ble_eq_true rfl) (Nat.le_of_ble_eq_true rfl) (Nat.le_of_ble_eq_true rfl) (Or.inr rfl) (Ci.imp h (fun r11 mem12 h => ?_))
          refine zW.step 177 [(2, 3), z1, (0, r11)] [] _ rfl (by decide) (by decide) (by show some (_, zst1 [(2, 3), z1, z2] 2 _, _, _) = _; rw [zst1_z (ls := [(2, 3), z1, z2]) (i := 2) hz1]; rfl) ?_
          refine zW.go 1 253 [(2, 3), z1, (0, r11)] [] _ rfl ?_
          exact h z1
        · by_cases e3 : (mem 4 8) = 20003
          · refine w_tabIn 180 rfl (by decide) g (by omega) (by rw [e3]; rfl) rfl ?_
            have h := h.2.2.2.1 e3
            refine zW.go 1 181 [(2, 3), z1, z2] [(2, 3)] _ rfl ?_
            refine w_calli (as := [(2, 3)]) [] 184 rfl rfl rfl rfl (Nat.le_of_ble_eq_true rfl) (Nat.le_of_ble_eq_true rfl) (Nat.le_of_ble_eq_true rfl) (Or.inr rfl) (Ci.imp h (fun r13 mem14 h => ?_))
            refine zW.step 185 [(2, 3), z1, (0, r13)] [] _ rfl (by decide) (by decide) (by show some (_, zst1 [(2, 3), z1, z2] 2 _, _, _) = _; rw [zst1_z (ls := [(2, 3), z1, z2]) (i := 2) hz1]; rfl) ?_
            refine zW.go 1 253 [(2, 3), z1, (0, r13)] [] _ rfl ?_
            exact h z1
          · by_cases e4 : (mem 4 8) = 20004
            · refine w_tabIn 247 rfl (by decide) g (by omega) (by rw [e4]; rfl) rfl ?_
              have h := h.2.2.2.2.1 e4
              refine zW.go 2 249 [(2, 3), z1, z2] [(0, 1), (2, 3)] _ rfl ?_
              refine w_calli (as := [(2, 3), (0, 1)]) [] 252 rfl rfl rfl rfl (Nat.le_of_ble_eq_true rfl) (Nat.le_of_ble_eq_true rfl) (Nat.le_of_ble_eq_true rfl) (Or.inr rfl) (Ci.imp h (fun r15 mem16 h => ?_))
              refine zW.step 253 [(2, 3), z1, (0, r15)] [] _ rfl (by decide) (by decide) (by show some (_, zst1 [(2, 3), z1, z2] 2 _, _, _) = _; rw [zst1_z (ls := [(2, 3), z1, z2]) (i := 2) hz1]; rfl) ?_
              exact h z1
            · by_cases e5 : (mem 4 8) = 20005
              · refine w_tabIn 247 rfl (by decide) g (by omega) (by rw [e5]; rfl) rfl ?_
                have h := h.2.2.2.2.2.1 e5
                refine zW.go 2 249 [(2, 3), z1, z2] [(0, 1), (2, 3)] _ rfl ?_
                refine w_calli (as := [(2, 3), (0, 1)]) [] 252 rfl rfl rfl rfl (Nat.le_of_ble_eq_true rfl) (Nat.le_of_ble_eq_true rfl) (Nat.le_of_ble_eq_true rfl) (Or.inr rfl) (Ci.imp h (fun r17 mem18 h => ?_))
                refine zW.step 253 [(2, 3), z1, (0, r17)] [] _ rfl (by decide) (by decide) (by show some (_, zst1 [(2, 3), z1, z2] 2 _, _, _) = _; rw [zst1_z (ls := [(2, 3), z1, z2]) (i := 2) hz1]; rfl) ?_
                exact h z1
              · by_cases e6 : (mem 4 8) = 20006
                · refine w_tabIn 247 rfl (by decide) g (by omega) (by rw [e6]; rfl) rfl ?_
                  have h := h.2.2.2.2.2.2.1 e6
                  refine zW.go 2 249 [(2, 3), z1, z2] [(0, 1), (2, 3)] _ rfl ?_
                  refine w_calli (as := [(2, 3), (0, 1)]) [] 252 rfl rfl rfl rfl (Nat.le_of_ble_eq_true rfl) (Nat.le_of_ble_eq_true rfl) (Nat.le_of_ble_eq_true rfl) (Or.inr rfl) (Ci.imp h (fun r19 mem20 h => ?_))
                  refine zW.step 253 [(2, 3), z1, (0, r19)] [] _ rfl (by decide) (by decide) (by show some (_, zst1 [(2, 3), z1, z2] 2 _, _, _) = _; rw [zst1_z (ls := [(2, 3), z1, z2]) (i := 2) hz1]; rfl) ?_
                  exact h z1
                · by_cases e7 : (mem 4 8) = 20007
                  · refine w_tabIn 188 rfl (by decide) g (by omega) (by rw [e7]; rfl) rfl ?_
                    have h := h.2.2.2.2.2.2.2.1 e7
                    refine zW.go 1 189 [(2, 3), z1, z2] [(2, 3)] _ rfl ?_
                    refine w_calli (as := [(2, 3)]) [] 192 rfl rfl rfl rfl (Nat.le_of_ble_eq_true rfl) (Nat.le_of_ble_eq_true rfl) (Nat.le_of_ble_eq_true rfl) (Or.inr rfl) (Ci.imp h (fun r21 mem22 h => ?_))
                    refine zW.step 193 [(2, 3), z1, (0, r21)] [] _ rfl (by decide) (by decide) (by show some (_, zst1 [(2, 3), z1, z2] 2 _, _, _) = _; rw [zst1_z (ls := [(2, 3), z1, z2]) (i := 2) hz1]; rfl) ?_
                    refine zW.go 1 253 [(2, 3), z1, (0, r21)] [] _ rfl ?_
                    exact h z1
                  · by_cases e8 : (mem 4 8) = 20008
                    · refine w_tabIn 196 rfl (by decide) g (by omega) (by rw [e8]; rfl) rfl ?_
                      have h := h.2.2.2.2.2.2.2.2.1 e8
                      refine zW.go 1 197 [(2, 3), z1, z2] [(2, 3)] _ rfl ?_
                      refine w_calli (as := [(2, 3)]) [] 200 rfl rfl rfl rfl (Nat.le_of_ble_eq_true rfl) (Nat.le_of_ble_eq_true rfl) (Nat.le_of_ble_eq_true rfl) (Or.inr rfl) (Ci.imp h (fun r23 mem24 h => ?_))
                      refine zW.step 201 [(2, 3), z1, (0, r23)] [] _ rfl (by decide) (by decide) (by show some (_, zst1 [(2, 3), z1, z2] 2 _, _, _) = _; rw [zst1_z (ls := [(2, 3), z1, z2]) (i := 2) hz1]; rfl) ?_
                      refine zW.go 1 253 [(2, 3), z1, (0, r23)] [] _ rfl ?_
                      exact h z1
                    · by_cases e9 : (mem 4 8) = 20009
                      · refine w_tabIn 247 rfl (by decide) g (by omega) (by rw [e9]; rfl) rfl ?_
                        have h := h.2.2.2.2.2.2.2.2.2.1 e9
                        refine zW.go 2 249 [(2, 3), z1, z2] [(0, 1), (2, 3)] _ rfl ?_
                        refine w_calli (as := [(2, 3), (0, 1)]) [] 252 rfl rfl rfl rfl (Nat.le_of_ble_eq_true rfl) (Nat.le_of_ble_eq_true rfl) (Nat.le_of_ble_eq_true rfl) (Or.inr rfl) (Ci.imp h (fun r25 mem26 h => ?_))
                        refine zW.step 253 [(2, 3), z1, (0, r25)] [] _ rfl (by decide) (by decide) (by show some (_, zst1 [(2, 3), z1, z2] 2 _, _, _) = _; rw [zst1_z (ls := [(2, 3), z1, z2]) (i := 2) hz1]; rfl) ?_
                        exact h z1
                      · by_cases e10 : (mem 4 8) = 20010
                        · refine w_tabIn 204 rfl (by decide) g (by omega) (by rw [e10]; rfl) rfl ?_
                          have h := h.2.2.2.2.2.2.2.2.2.2.1 e10
                          refine zW.go 1 205 [(2, 3), z1, z2] [(2, 3)] _ rfl ?_
                          refine w_calli (as := [(2, 3)]) [] 208 rfl rfl rfl rfl (Nat.le_of_ble_eq_true rfl) (Nat.le_of_ble_eq_true rfl) (Nat.le_of_ble_eq_true rfl) (Or.inr rfl) (Ci.imp h (fun r27 mem28 h => ?_))
                          refine zW.step 209 [(2, 3), z1, (0, r27)] [] _ rfl (by decide) (by decide) (by show some (_, zst1 [(2, 3), z1, z2] 2 _, _, _) = _; rw [zst1_z (ls := [(2, 3), z1, z2]) (i := 2) hz1]; rfl) ?_
                          refine zW.go 1 253 [(2, 3), z1, (0, r27)] [] _ rfl ?_
                          exact h z1
                        · by_cases e11 : (mem 4 8) = 20011
                          · refine w_tabIn 247 rfl (by decide) g (by omega) (by rw [e11]; rfl) rfl ?_
                            have h := h.2.2.2.2.2.2.2.2.2.2.2.1 e11
                            refine zW.go 2 249 [(2, 3), z1, z2] [(0, 1), (2, 3)] _ rfl ?_
                            refine w_calli (as := [(2, 3), (0, 1)]) [] 252 rfl rfl rfl rfl (Nat.le_of_ble_eq_true rfl) (Nat.le_of_ble_eq_true rfl) (Nat.le_of_ble_eq_true rfl) (Or.inr rfl) (Ci.imp h (fun r29 mem30 h => ?_))
                            refine zW.step 253 [(2, 3), z1, (0, r29)] [] _ rfl (by decide) (by decide) (by show some (_, zst1 [(2, 3), z1, z2] 2 _, _, _) = _; rw [zst1_z (ls := [(2, 3), z1, z2]) (i := 2) hz1]; rfl) ?_
                            exact h z1
                          · by_cases e12 : (mem 4 8) = 20012
                            · refine w_tabIn 247 rfl (by decide) g (by omega) (by rw [e12]; rfl) rfl ?_
                              have h := h.2.2.2.2.2.2.2.2.2.2.2.2.1 e12
                              refine zW.go 2 249 [(2, 3), z1, z2] [(0, 1), (2, 3)] _ rfl ?_
                              refine w_calli (as := [(2, 3), (0, 1)]) [] 252 rfl rfl rfl rfl (Nat.le_of_ble_eq_true rfl) (Nat.le_of_ble_eq_true rfl) (Nat.le_of_ble_eq_true rfl) (Or.inr rfl) (Ci.imp h (fun r31 mem32 h => ?_))
                              refine zW.step 253 [(2, 3), z1, (0, r31)] [] _ rfl (by decide) (by decide) (by show some (_, zst1 [(2, 3), z1, z2] 2 _, _, _) = _; rw [zst1_z (ls := [(2, 3), z1, z2]) (i := 2) hz1]; rfl) ?_
                              exact h z1
                            · by_cases e13 : (mem 4 8) = 20013
                              · refine w_tabIn 212 rfl (by decide) g (by omega) (by rw [e13]; rfl) rfl ?_
                                have h := h.2.2.2.2.2.2.2.2.2.2.2.2.2.1 e13
                                refine zW.go 2 214 [(2, 3), z1, z2] [(0, 0), (2, 3)] _ rfl ?_
                                refine w_calli (as := [(2, 3), (0, 0)]) [] 217 rfl rfl rfl rfl (Nat.le_of_ble_eq_true rfl) (Nat.le_of_ble_eq_true rfl) (Nat.le_of_ble_eq_true rfl) (Or.inr rfl) (Ci.imp h (fun r33 mem34 h => ?_))
                                refine zW.step 218 [(2, 3), z1, (0, r33)] [] _ rfl (by decide) (by decide) (by show some (_, zst1 [(2, 3), z1, z2] 2 _, _, _) = _; rw [zst1_z (ls := [(2, 3), z1, z2]) (i := 2) hz1]; rfl) ?_
                                refine zW.go 1 253 [(2, 3), z1, (0, r33)] [] _ rfl ?_
                                exact h z1
                              · by_cases e14 : (mem 4 8) = 20014
                                · refine w_tabIn 221 rfl (by decide) g (by omega) (by rw [e14]; rfl) rfl ?_
                                  have h := h.2.2.2.2.2.2.2.2.2.2.2.2.2.2.1 e14
                                  refine zW.go 2 223 [(2, 3), z1, z2] [(0, 1), (2, 3)] _ rfl ?_
                                  refine w_calli (as := [(2, 3), (0, 1)]) [] 226 rfl rfl rfl rfl (Nat.le_of_ble_eq_true rfl) (Nat.le_of_ble_eq_true rfl) (Nat.le_of_ble_eq_true rfl) (Or.inr rfl) (Ci.imp h (fun r35 mem36 h => ?_))
                                  refine zW.step 227 [(2, 3), z1, (0, r35)] [] _ rfl (by decide) (by decide) (by show some (_, zst1 [(2, 3), z1, z2] 2 _, _, _) = _; rw [zst1_z (ls := [(2, 3), z1, z2]) (i := 2) hz1]; rfl) ?_
                                  refine zW.go 1 253 [(2, 3), z1, (0, r35)] [] _ rfl ?_
                                  exact h z1
                                · by_cases e15 : (mem 4 8) = 20015
                                  · refine w_tabIn 230 rfl (by decide) g (by omega) (by rw [e15]; rfl) rfl ?_
                                    have h := h.2.2.2.2.2.2.2.2.2.2.2.2.2.2.2.1 e15
                                    refine zW.go 2 232 [(2, 3), z1, z2] [(0, 2), (2, 3)] _ rfl ?_
                                    refine w_calli (as := [(2, 3), (0, 2)]) [] 235 rfl rfl rfl rfl (Nat.le_of_ble_eq_true rfl) (Nat.le_of_ble_eq_true rfl) (Nat.le_of_ble_eq_true rfl) (Or.inr rfl) (Ci.imp h (fun r37 mem38 h => ?_))
                                    refine zW.step 236 [(2, 3), z1, (0, r37)] [] _ rfl (by decide) (by decide) (by show some (_, zst1 [(2, 3), z1, z2] 2 _, _, _) = _; rw [zst1_z (ls := [(2, 3), z1, z2]) (i := 2) hz1]; rfl) ?_
                                    refine zW.go 1 253 [(2, 3), z1, (0, r37)] [] _ rfl ?_
                                    exact h z1
                                  · by_cases e16 : (mem 4 8) = 20016
                                    · refine w_tabIn 239 rfl (by decide) g (by omega) (by rw [e16]; rfl) rfl ?_
                                      have h := h.2.2.2.2.2.2.2.2.2.2.2.2.2.2.2.2.1 e16
                                      refine zW.go 1 240 [(2, 3), z1, z2] [(2, 3)] _ rfl ?_
                                      refine w_calli (as := [(2, 3)]) [] 243 rfl rfl rfl rfl (Nat.le_of_ble_eq_true rfl) (Nat.le_of_ble_eq_true rfl) (Nat.le_of_ble_eq_true rfl) (Or.inr rfl) (Ci.imp h (fun r39 mem40 h => ?_))
                                      refine zW.step 244 [(2, 3), z1, (0, r39)] [] _ rfl (by decide) (by decide) (by show some (_, zst1 [(2, 3), z1, z2] 2 _, _, _) = _; rw [zst1_z (ls := [(2, 3), z1, z2]) (i := 2) hz1]; rfl) ?_
                                      refine zW.go 1 253 [(2, 3), z1, (0, r39)] [] _ rfl ?_
                                      exact h z1
                                    · refine w_tabOut 247 rfl (by decide) g (by omega) rfl ?_
                                      have h := h.2.2.2.2.2.2.2.2.2.2.2.2.2.2.2.2.2 ⟨e0, e1, e2, e3, e4, e5, e6, e7, e8, e9, e10, e11, e12, e13, e14, e15, e16⟩
                                      refine zW.go 2 249 [(2, 3), z1, z2] [(0, 1), (2, 3)] _ rfl ?_
                                      refine w_calli (as := [(2, 3), (0, 1)]) [] 252 rfl rfl rfl rfl (Nat.le_of_ble_eq_true rfl) (Nat.le_of_ble_eq_true rfl) (Nat.le_of_ble_eq_true rfl) (Or.inr rfl) (Ci.imp h (fun r41 mem42 h => ?_))
                                      refine zW.step 253 [(2, 3), z1, (0, r41)] [] _ rfl (by decide) (by decide) (by show some (_, zst1 [(2, 3), z1, z2] 2 _, _, _) = _; rw [zst1_z (ls := [(2, 3), z1, z2]) (i := 2) hz1]; rfl) ?_
                                      exact h z1
  · have h := h.2.2 c6
    refine zW.go 2 72 [(2, 3), z1, z2] [(0, 1), (2, 3)] _ rfl ?_
    refine w_calli (as := [(2, 3), (0, 1)]) [] 75 rfl rfl rfl rfl (Nat.le_of_ble_eq_true rfl) (Nat.le_of_ble_eq_true rfl) (Nat.le_of_ble_eq_true rfl) (Or.inr rfl) (Ci.imp h (fun r43 mem44 h => ?_))
    exact w_retz rfl rfl h.1 h.2
set_option maxRecDepth 4000 in
theorem s_parser_readStatement_253 {X : zX} {d : Nat} {rf mem : zF} {Q : Int → zF → Prop} (hR : zall rf zRK = true) {p : Nat} (hp : zPln rf p) (hpl : rf 3 1 = ((p : Nat) : Int)) {x2 : Int} (h : (inI x2) ∧ ((x2 = 0 → Q 0 (zup mem p 0 ((mem p 0) + 1))) ∧ (¬ x2 = 0 → Ci X d 36 [(2, 3), (0, 59)] rf (zup mem p 0 ((mem p 0) + 1)) (fun r46 mem47 => (inI r46) ∧ ((r46 = 0 → Q 0 mem47) ∧ (¬ r46 = 0 → Q 1 mem47)))))) : L_parser_readStatement_253 X d rf Q mem p x2 := by
  intro z1
  refine zW.go 1 254 [(2, 3), z1, (0, x2)] [(2, 3)] _ rfl ?_
  refine w_getL (q := 3) (v := ((p : Nat) : Int)) rfl (by decide) (pc' := 257) rfl ⟨by decide, rfl⟩ rfl rfl hpl ?_
  refine zW.go 1 258 [(2, 3), z1, (0, x2)] [(2, ((p : Nat) : Int)), (2, ((p : Nat) : Int))] _ rfl ?_
  refine w_getI (q := p) rfl (by decide) (pc' := 261) rfl ⟨Int.natCast_nonneg _, rfl⟩ (zPln_t0 hp) (by decide) ?_
  refine zW.go 2 263 [(2, 3), z1, (0, x2)] [(0, ((mem p 0) + 1)), (2, ((p : Nat) : Int))] _ rfl ?_
  refine w_putI (q := p) rfl (by decide) (pc' := 266) rfl ⟨Int.natCast_nonneg _, rfl⟩ (zPln_t0 hp) (by decide) ?_
  refine zW.go 1 267 [(2, 3), z1, (0, x2)] [(0, x2)] _ rfl ?_
  refine w_if_eq rfl (by decide) (pc' := 270) rfl h.1 (fun c45 => ?_) (fun c45 => ?_)
  · have h := h.2.1 c45
    refine zW.go 1 284 [(2, 3), z1, (0, x2)] [(0, 0)] _ rfl ?_
    exact w_retz rfl rfl (by decide) h
  · have h := h.2.2 c45
    refine zW.go 2 273 [(2, 3), z1, (0, x2)] [(0, 59), (2, 3)] _ rfl ?_
    refine w_calli (as := [(2, 3), (0, 59)]) [] 276 rfl rfl rfl rfl (Nat.le_of_ble_eq_true rfl) (Nat.le_of_ble_eq_true rfl) (Nat.le_of_ble_eq_true rfl) (Or.inr rfl) (Ci.imp h (fun r46 mem47 h => ?_))
    refine w_if_eq rfl (by decide) (pc' := 279) rfl h.1 (fun c48 => ?_) (fun c48 => ?_)
    · have h := h.2.1 c48
      refine zW.go 1 284 [(2, 3), z1, (0, x2)] [(0, 0)] _ rfl ?_
      exact w_retz rfl rfl (by decide) h
    · have h := h.2.2 c48
      refine zW.go 2 284 [(2, 3), z1, (0, x2)] [(0, 1)] _ rfl ?_
      exact w_retz rfl rfl (by decide) h
set_option maxRecDepth 4000 in
theorem s_parser_readStatement {X : zX} {d : Nat} {rf mem : zF} {Q : Int → zF → Prop} (hR : zall rf zRK = true) {p : Nat} (hp : zPln rf p) (hpl : rf 3 1 = ((p : Nat) : Int)) (h : (inI (mem p 0)) ∧ ((¬ (mem p 0) = 0 → L_parser_readStatement_15 X d rf Q mem p 0) ∧ ((mem p 0) = 0 → L_parser_readStatement_15 X d rf Q mem p 1))) : Ci X (d + 1) 27 [(2, 3)] rf mem Q := by
  show zW X (d + 1) 27 0 [(2, 3), (9, 0), (9, 0)] [] (zty, rf, mem) (qi rf Q)
  refine zW.go 1 1 [(2, 3), (9, 0), (9, 0)] [(2, 3)] _ rfl ?_
  refine w_getL (q := 3) (v := ((p : Nat) : Int)) rfl (by decide) (pc' := 4) rfl ⟨by decide, rfl⟩ rfl rfl hpl ?_
  refine w_getI (q := p) rfl (by decide) (pc' := 7) rfl ⟨Int.natCast_nonneg _, rfl⟩ (zPln_t0 hp) (by decide) ?_
  refine w_if_ne rfl (by decide) (pc' := 10) rfl h.1 (fun c1 => ?_) (fun c1 => ?_)
  · have h := h.2.1 c1
    refine zW.go 1 15 [(2, 3), (9, 0), (9, 0)] [(0, 0)] _ rfl ?_
    exact h (9, 0) (9, 0)
  · have h := h.2.2 c1
    refine zW.go 2 15 [(2, 3), (9, 0), (9, 0)] [(0, 1)] _ rfl ?_
    exact h (9, 0) (9, 0)
def L_parser_readWalls_57 (X : zX) (d : Nat) (rf : zF) (Q : Int → zF → Prop) (mem : zF) (p : Nat) (s1 : Int) : Prop := zW X (d + 1) 28 57 [(2, 3)] [(0, s1), (2, ((p : Nat) : Int))] (zty, rf, mem) (qi rf Q)
set_option maxRecDepth 4000 in
theorem s_parser_readWalls_57 {X : zX} {d : Nat} {rf mem : zF} {Q : Int → zF → Prop} (hR : zall rf zRK = true) {p : Nat} (hp : zPln rf p) (hpl : rf 3 1 = ((p : Nat) : Int)) {s1 : Int} (h : (inI ((zup mem p 2 s1) p 2)) ∧ ((((zup mem p 2 s1) p 2) = (-1) → Q 0 (zup mem p 2 s1)) ∧ (¬ ((zup mem p 2 s1) p 2) = (-1) → Q 1 (zup mem p 2 s1)))) : L_parser_readWalls_57 X d rf Q mem p s1 := by
  refine w_putI (q := p) rfl (by decide) (pc' := 60) rfl ⟨Int.natCast_nonneg _, rfl⟩ (zPln_t0 hp) (by decide) ?_
  refine zW.go 1 61 [(2, 3)] [(2, 3)] _ rfl ?_
  refine w_getL (q := 3) (v := ((p : Nat) : Int)) rfl (by decide) (pc' := 64) rfl ⟨by decide, rfl⟩ rfl rfl hpl ?_
  refine w_getI (q := p) rfl (by decide) (pc' := 67) rfl ⟨Int.natCast_nonneg _, rfl⟩ (zPln_t0 hp) (by decide) ?_
  refine zW.go 1 68 [(2, 3)] [(0, (-1)), (0, ((zup mem p 2 s1) p 2))] _ rfl ?_
  refine w_ic_eq rfl (by decide) (pc' := 71) rfl ⟨h.1, by decide⟩ (fun c10 => ?_) (fun c10 => ?_)
  · have h := h.2.1 c10
    refine zW.go 1 76 [(2, 3)] [(0, 0)] _ rfl ?_
    exact w_retz rfl rfl (by decide) h
  · have h := h.2.2 c10
    refine zW.go 2 76 [(2, 3)] [(0, 1)] _ rfl ?_
    exact w_retz rfl rfl (by decide) h
set_option maxRecDepth 4000 in
theorem s_parser_readWalls {X : zX} {d : Nat} {rf mem : zF} {Q : Int → zF → Prop} (hR : zall rf zRK = true) {p : Nat} (hp : zPln rf p) (hpl : rf 3 1 = ((p : Nat) : Int)) (h : Cv X d 132 [(2, 4)] rf mem (fun mem1 => Ci X d 40 [(2, 3), (0, 3), (0, 7)] rf mem1 (fun r2 mem3 => (inI ((zup mem3 p 1 r2) p 1)) ∧ ((((zup mem3 p 1 r2) p 1) = (-1) → L_parser_readWalls_57 X d rf Q (zup mem3 p 1 r2) p (-1)) ∧ (¬ ((zup mem3 p 1 r2) p 1) = (-1) → Ci X d 37 [(2, 3), (0, 20001)] rf (zup mem3 p 1 r2) (fun r5 mem6 => (inI r5) ∧ ((¬ r5 = 0 → Ci X d 40 [(2, 3), (0, 3), (0, 7)] rf mem6 (fun r8 mem9 => L_parser_readWalls_57 X d rf Q mem9 p r8)) ∧ (r5 = 0 → L_parser_readWalls_57 X d rf Q mem6 p (-1))))))))) : Ci X (d + 1) 28 [(2, 3)] rf mem Q := by
  show zW X (d + 1) 28 0 [(2, 3)] [] (zty, rf, mem) (qi rf Q)
  refine zW.go 1 1 [(2, 3)] [(2, 3)] _ rfl ?_
  refine w_getL (q := 3) (v := 4) rfl (by decide) (pc' := 4) rfl ⟨by decide, rfl⟩ rfl rfl (zall_at hR (by decide)) ?_
  refine w_callv (as := [(2, 4)]) [] 7 rfl rfl rfl rfl (Nat.le_of_ble_eq_true rfl) (Nat.le_of_ble_eq_true rfl) (Nat.le_of_ble_eq_true rfl) (Or.inr rfl) (Cv.imp h (fun mem1 h => ?_))
  refine zW.go 1 8 [(2, 3)] [(2, 3)] _ rfl ?_
  refine w_getL (q := 3) (v := ((p : Nat) : Int)) rfl (by decide) (pc' := 11) rfl ⟨by decide, rfl⟩ rfl rfl hpl ?_
  refine zW.go 3 15 [(2, 3)] [(0, 7), (0, 3), (2, 3), (2, ((p : Nat) : Int))] _ rfl ?_
  refine w_calli (as := [(2, 3), (0, 3), (0, 7)]) [(2, ((p : Nat) : Int))] 18 rfl rfl rfl rfl (Nat.le_of_ble_eq_true rfl) (Nat.le_of_ble_eq_true rfl) (Nat.le_of_ble_eq_true rfl) (Or.inr rfl) (Ci.imp h (fun r2 mem3 h => ?_))
  refine w_putI (q := p) rfl (by decide) (pc' := 21) rfl ⟨Int.natCast_nonneg _, rfl⟩ (zPln_t0 hp) (by decide) ?_
  refine zW.go 1 22 [(2, 3)] [(2, 3)] _ rfl ?_
  refine w_getL (q := 3) (v := ((p : Nat) : Int)) rfl (by decide) (pc' := 25) rfl ⟨by decide, rfl⟩ rfl rfl hpl ?_
  refine zW.go 1 26 [(2, 3)] [(2, 3), (2, ((p : Nat) : Int))] _ rfl ?_
  refine w_getL (q := 3) (v := ((p : Nat) : Int)) rfl (by decide) (pc' := 29) rfl ⟨by decide, rfl⟩ rfl rfl hpl ?_
  refine w_getI (q := p) rfl (by decide) (pc' := 32) rfl ⟨Int.natCast_nonneg _, rfl⟩ (zPln_t0 hp) (by decide) ?_
  refine zW.go 1 33 [(2, 3)] [(0, (-1)), (0, ((zup mem3 p 1 r2) p 1)), (2, ((p : Nat) : Int))] _ rfl ?_
  refine w_ic_eq rfl (by decide) (pc' := 36) rfl ⟨h.1, by decide⟩ (fun c4 => ?_) (fun c4 => ?_)
  · have h := h.2.1 c4
    refine zW.go 2 57 [(2, 3)] [(0, (-1)), (2, ((p : Nat) : Int))] _ rfl ?_
    exact h
  · have h := h.2.2 c4
    refine zW.go 2 40 [(2, 3)] [(0, 20001), (2, 3), (2, ((p : Nat) : Int))] _ rfl ?_
    refine w_calli (as := [(2, 3), (0, 20001)]) [(2, ((p : Nat) : Int))] 43 rfl rfl rfl rfl (Nat.le_of_ble_eq_true rfl) (Nat.le_of_ble_eq_true rfl) (Nat.le_of_ble_eq_true rfl) (Or.inr rfl) (Ci.imp h (fun r5 mem6 h => ?_))
    refine w_if_ne rfl (by decide) (pc' := 46) rfl h.1 (fun c7 => ?_) (fun c7 => ?_)
    · have h := h.2.1 c7
      refine zW.go 3 54 [(2, 3)] [(0, 7), (0, 3), (2, 3), (2, ((p : Nat) : Int))] _ rfl ?_
      refine w_calli (as := [(2, 3), (0, 3), (0, 7)]) [(2, ((p : Nat) : Int))] 57 rfl rfl rfl rfl (Nat.le_of_ble_eq_true rfl) (Nat.le_of_ble_eq_true rfl) (Nat.le_of_ble_eq_true rfl) (Or.inr rfl) (Ci.imp h (fun r8 mem9 h => ?_))
      exact h
    · have h := h.2.2 c7
      refine zW.go 2 57 [(2, 3)] [(0, (-1)), (2, ((p : Nat) : Int))] _ rfl ?_
      exact h
set_option maxRecDepth 4000 in
theorem s_parser_readLamp {X : zX} {d : Nat} {rf mem : zF} {Q : Int → zF → Prop} (hR : zall rf zRK = true) {p : Nat} (hp : zPln rf p) (hpl : rf 3 1 = ((p : Nat) : Int)) (h : Cv X d 132 [(2, 4)] rf mem (fun mem1 => Ci X d 42 [(2, 3), (0, (-1))] rf mem1 (fun r2 mem3 => (inI ((zup mem3 p 3 r2) p 3)) ∧ ((((zup mem3 p 3 r2) p 3) = (-1) → Q 0 (zup mem3 p 3 r2)) ∧ (¬ ((zup mem3 p 3 r2) p 3) = (-1) → Q 1 (zup mem3 p 3 r2)))))) : Ci X (d + 1) 29 [(2, 3)] rf mem Q := by
  show zW X (d + 1) 29 0 [(2, 3)] [] (zty, rf, mem) (qi rf Q)
  refine zW.go 1 1 [(2, 3)] [(2, 3)] _ rfl ?_
  refine w_getL (q := 3) (v := 4) rfl (by decide) (pc' := 4) rfl ⟨by decide, rfl⟩ rfl rfl (zall_at hR (by decide)) ?_
  refine w_callv (as := [(2, 4)]) [] 7 rfl rfl rfl rfl (Nat.le_of_ble_eq_true rfl) (Nat.le_of_ble_eq_true rfl) (Nat.le_of_ble_eq_true rfl) (Or.inr rfl) (Cv.imp h (fun mem1 h => ?_))
  refine zW.go 1 8 [(2, 3)] [(2, 3)] _ rfl ?_
  refine w_getL (q := 3) (v := ((p : Nat) : Int)) rfl (by decide) (pc' := 11) rfl ⟨by decide, rfl⟩ rfl rfl hpl ?_
  refine zW.go 2 13 [(2, 3)] [(0, (-1)), (2, 3), (2, ((p : Nat) : Int))] _ rfl ?_
  refine w_calli (as := [(2, 3), (0, (-1))]) [(2, ((p : Nat) : Int))] 16 rfl rfl rfl rfl (Nat.le_of_ble_eq_true rfl) (Nat.le_of_ble_eq_true rfl) (Nat.le_of_ble_eq_true rfl) (Or.inr rfl) (Ci.imp h (fun r2 mem3 h => ?_))
  refine w_putI (q := p) rfl (by decide) (pc' := 19) rfl ⟨Int.natCast_nonneg _, rfl⟩ (zPln_t0 hp) (by decide) ?_
  refine zW.go 1 20 [(2, 3)] [(2, 3)] _ rfl ?_
  refine w_getL (q := 3) (v := ((p : Nat) : Int)) rfl (by decide) (pc' := 23) rfl ⟨by decide, rfl⟩ rfl rfl hpl ?_
  refine w_getI (q := p) rfl (by decide) (pc' := 26) rfl ⟨Int.natCast_nonneg _, rfl⟩ (zPln_t0 hp) (by decide) ?_
  refine zW.go 1 27 [(2, 3)] [(0, (-1)), (0, ((zup mem3 p 3 r2) p 3))] _ rfl ?_
  refine w_ic_eq rfl (by decide) (pc' := 30) rfl ⟨h.1, by decide⟩ (fun c4 => ?_) (fun c4 => ?_)
  · have h := h.2.1 c4
    refine zW.go 1 35 [(2, 3)] [(0, 0)] _ rfl ?_
    exact w_retz rfl rfl (by decide) h
  · have h := h.2.2 c4
    refine zW.go 2 35 [(2, 3)] [(0, 1)] _ rfl ?_
    exact w_retz rfl rfl (by decide) h
set_option maxRecDepth 4000 in
theorem s_parser_readBreath {X : zX} {d : Nat} {rf mem : zF} {Q : Int → zF → Prop} (hR : zall rf zRK = true) {p : Nat} (hp : zPln rf p) (hpl : rf 3 1 = ((p : Nat) : Int)) (h : Cv X d 132 [(2, 4)] rf mem (fun mem1 => Ci X d 40 [(2, 3), (0, 0), (0, 100)] rf mem1 (fun r2 mem3 => (inI ((zup mem3 p 4 r2) p 4)) ∧ ((((zup mem3 p 4 r2) p 4) = (-1) → Q 0 (zup mem3 p 4 r2)) ∧ (¬ ((zup mem3 p 4 r2) p 4) = (-1) → Q 1 (zup mem3 p 4 r2)))))) : Ci X (d + 1) 30 [(2, 3)] rf mem Q := by
  show zW X (d + 1) 30 0 [(2, 3)] [] (zty, rf, mem) (qi rf Q)
  refine zW.go 1 1 [(2, 3)] [(2, 3)] _ rfl ?_
  refine w_getL (q := 3) (v := 4) rfl (by decide) (pc' := 4) rfl ⟨by decide, rfl⟩ rfl rfl (zall_at hR (by decide)) ?_
  refine w_callv (as := [(2, 4)]) [] 7 rfl rfl rfl rfl (Nat.le_of_ble_eq_true rfl) (Nat.le_of_ble_eq_true rfl) (Nat.le_of_ble_eq_true rfl) (Or.inr rfl) (Cv.imp h (fun mem1 h => ?_))
  refine zW.go 1 8 [(2, 3)] [(2, 3)] _ rfl ?_
  refine w_getL (q := 3) (v := ((p : Nat) : Int)) rfl (by decide) (pc' := 11) rfl ⟨by decide, rfl⟩ rfl rfl hpl ?_
  refine zW.go 3 15 [(2, 3)] [(0, 100), (0, 0), (2, 3), (2, ((p : Nat) : Int))] _ rfl ?_
  refine w_calli (as := [(2, 3), (0, 0), (0, 100)]) [(2, ((p : Nat) : Int))] 18 rfl rfl rfl rfl (Nat.le_of_ble_eq_true rfl) (Nat.le_of_ble_eq_true rfl) (Nat.le_of_ble_eq_true rfl) (Or.inr rfl) (Ci.imp h (fun r2 mem3 h => ?_))
  refine w_putI (q := p) rfl (by decide) (pc' := 21) rfl ⟨Int.natCast_nonneg _, rfl⟩ (zPln_t0 hp) (by decide) ?_
  refine zW.go 1 22 [(2, 3)] [(2, 3)] _ rfl ?_
  refine w_getL (q := 3) (v := ((p : Nat) : Int)) rfl (by decide) (pc' := 25) rfl ⟨by decide, rfl⟩ rfl rfl hpl ?_
  refine w_getI (q := p) rfl (by decide) (pc' := 28) rfl ⟨Int.natCast_nonneg _, rfl⟩ (zPln_t0 hp) (by decide) ?_
  refine zW.go 1 29 [(2, 3)] [(0, (-1)), (0, ((zup mem3 p 4 r2) p 4))] _ rfl ?_
  refine w_ic_eq rfl (by decide) (pc' := 32) rfl ⟨h.1, by decide⟩ (fun c4 => ?_) (fun c4 => ?_)
  · have h := h.2.1 c4
    refine zW.go 1 37 [(2, 3)] [(0, 0)] _ rfl ?_
    exact w_retz rfl rfl (by decide) h
  · have h := h.2.2 c4
    refine zW.go 2 37 [(2, 3)] [(0, 1)] _ rfl ?_
    exact w_retz rfl rfl (by decide) h
def L_parser_readDoor_54 (X : zX) (d : Nat) (rf : zF) (Q : Int → zF → Prop) (mem : zF) (p : Nat) (x1 : Int) (s0 : Int) : Prop := ∀ z2 : zV, ∀ z3 : zV, ∀ z4 : zV, ∀ z5 : zV, zW X (d + 1) 31 54 [(2, 3), (0, x1), z2, z3, z4, z5] [(0, s0)] (zty, rf, mem) (qi rf Q)
def L_parser_readDoor_73 (X : zX) (d : Nat) (rf : zF) (Q : Int → zF → Prop) (mem : zF) (p : Nat) (x1 : Int) (x2 : Int) (s0 : Int) : Prop := ∀ z3 : zV, ∀ z4 : zV, ∀ z5 : zV, zW X (d + 1) 31 73 [(2, 3), (0, x1), (0, x2), z3, z4, z5] [(0, s0)] (zty, rf, mem) (qi rf Q)
def L_parser_readDoor_93 (X : zX) (d : Nat) (rf : zF) (Q : Int → zF → Prop) (mem : zF) (p : Nat) (x1 : Int) (x2 : Int) (x3 : Int) (s0 : Int) : Prop := ∀ z4 : zV, ∀ z5 : zV, zW X (d + 1) 31 93 [(2, 3), (0, x1), (0, x2), (0, x3), z4, z5] [(0, s0)] (zty, rf, mem) (qi rf Q)
set_option maxRecDepth 4000 in
theorem s_parser_readDoor_54 {X : zX} {d : Nat} {rf mem : zF} {Q : Int → zF → Prop} (hR : zall rf zRK = true) {p : Nat} (hp : zPln rf p) (hpl : rf 3 1 = ((p : Nat) : Int)) {x1 : Int} {s0 : Int} (h : (inI s0) ∧ ((¬ s0 = (-1) → Ci X d 41 [(2, 3), (0, 20005), (0, 0), (0, 3)] rf mem (fun r16 mem17 => L_parser_readDoor_73 X d rf Q mem17 p x1 s0 r16)) ∧ (s0 = (-1) → L_parser_readDoor_73 X d rf Q mem p x1 s0 (-1)))) : L_parser_readDoor_54 X d rf Q mem p x1 s0 := by
  intro z2 z3 z4 z5
  refine zW.go 3 57 [(2, 3), (0, x1), (0, s0), z3, z4, z5] [(0, (-1)), (0, s0)] _ rfl ?_
  refine w_ic_ne rfl (by decide) (pc' := 60) rfl ⟨h.1, by decide⟩ (fun c15 => ?_) (fun c15 => ?_)
  · have h := h.2.1 c15
    refine zW.go 4 70 [(2, 3), (0, x1), (0, s0), z3, z4, z5] [(0, 3), (0, 0), (0, 20005), (2, 3)] _ rfl ?_
    refine w_calli (as := [(2, 3), (0, 20005), (0, 0), (0, 3)]) [] 73 rfl rfl rfl rfl (Nat.le_of_ble_eq_true rfl) (Nat.le_of_ble_eq_true rfl) (Nat.le_of_ble_eq_true rfl) (Or.inr rfl) (Ci.imp h (fun r16 mem17 h => ?_))
    exact h z3 z4 z5
  · have h := h.2.2 c15
    refine zW.go 2 73 [(2, 3), (0, x1), (0, s0), z3, z4, z5] [(0, (-1))] _ rfl ?_
    exact h z3 z4 z5
set_option maxRecDepth 4000 in
theorem s_parser_readDoor_73 {X : zX} {d : Nat} {rf mem : zF} {Q : Int → zF → Prop} (hR : zall rf zRK = true) {p : Nat} (hp : zPln rf p) (hpl : rf 3 1 = ((p : Nat) : Int)) {x1 : Int} {x2 : Int} {s0 : Int} (h : (inI s0) ∧ ((¬ s0 = (-1) → Ci X d 41 [(2, 3), (0, 20006), (0, 1), (0, 6)] rf mem (fun r19 mem20 => L_parser_readDoor_93 X d rf Q mem20 p x1 x2 s0 r19)) ∧ (s0 = (-1) → L_parser_readDoor_93 X d rf Q mem p x1 x2 s0 (-1)))) : L_parser_readDoor_73 X d rf Q mem p x1 x2 s0 := by
  intro z3 z4 z5
  refine zW.go 3 76 [(2, 3), (0, x1), (0, x2), (0, s0), z4, z5] [(0, (-1)), (0, s0)] _ rfl ?_
  refine w_ic_ne rfl (by decide) (pc' := 79) rfl ⟨h.1, by decide⟩ (fun c18 => ?_) (fun c18 => ?_)
  · have h := h.2.1 c18
    refine zW.go 4 90 [(2, 3), (0, x1), (0, x2), (0, s0), z4, z5] [(0, 6), (0, 1), (0, 20006), (2, 3)] _ rfl ?_
    refine w_calli (as := [(2, 3), (0, 20006), (0, 1), (0, 6)]) [] 93 rfl rfl rfl rfl (Nat.le_of_ble_eq_true rfl) (Nat.le_of_ble_eq_true rfl) (Nat.le_of_ble_eq_true rfl) (Or.inr rfl) (Ci.imp h (fun r19 mem20 h => ?_))
    exact h z4 z5
  · have h := h.2.2 c18
    refine zW.go 2 93 [(2, 3), (0, x1), (0, x2), (0, s0), z4, z5] [(0, (-1))] _ rfl ?_
    exact h z4 z5
set_option maxRecDepth 4000 in
theorem s_parser_readDoor_93 {X : zX} {d : Nat} {rf mem : zF} {Q : Int → zF → Prop} (hR : zall rf zRK = true) {p : Nat} (hp : zPln rf p) (hpl : rf 3 1 = ((p : Nat) : Int)) {x1 : Int} {x2 : Int} {x3 : Int} {s0 : Int} (h : (inI s0) ∧ ((¬ s0 = (-1) → Ci X d 63 [(2, ((p : Nat) : Int)), (0, 0), (0, x1), (0, x2)] rf mem (fun r22 mem23 => (0 ≤ r22 ∧ r22 < 6) ∧ ((0 ≤ r22 ∧ r22 < 6) ∧ (Q 1 (zup (zup mem23 (p + 4) (r22).toNat x3) (p + 5) (r22).toNat s0))))) ∧ (s0 = (-1) → Q 0 mem))) : L_parser_readDoor_93 X d rf Q mem p x1 x2 x3 s0 := by
  intro z4 z5
  refine zW.go 3 98 [(2, 3), (0, x1), (0, x2), (0, x3), (0, s0), z5] [(0, (-1)), (0, s0)] _ rfl ?_
  refine w_ic_ne rfl (by decide) (pc' := 101) rfl ⟨h.1, by decide⟩ (fun c21 => ?_) (fun c21 => ?_)
  · have h := h.2.1 c21
    refine zW.go 1 104 [(2, 3), (0, x1), (0, x2), (0, x3), (0, s0), z5] [(2, 3)] _ rfl ?_
    refine w_getL (q := 3) (v := ((p : Nat) : Int)) rfl (by decide) (pc' := 107) rfl ⟨by decide, rfl⟩ rfl rfl hpl ?_
    refine zW.go 3 110 [(2, 3), (0, x1), (0, x2), (0, x3), (0, s0), z5] [(0, x2), (0, x1), (0, 0), (2, ((p : Nat) : Int))] _ rfl ?_
    refine w_calli (as := [(2, ((p : Nat) : Int)), (0, 0), (0, x1), (0, x2)]) [] 113 rfl rfl rfl rfl (Nat.le_of_ble_eq_true rfl) (Nat.le_of_ble_eq_true rfl) (Nat.le_of_ble_eq_true rfl) (Or.inr (zrcv_o (zPln_t0 hp))) (Ci.imp h (fun r22 mem23 h => ?_))
    refine zW.go 2 116 [(2, 3), (0, x1), (0, x2), (0, x3), (0, s0), (0, r22)] [(2, 3)] _ rfl ?_
    refine w_getL (q := 3) (v := ((p : Nat) : Int)) rfl (by decide) (pc' := 119) rfl ⟨by decide, rfl⟩ rfl rfl hpl ?_
    refine w_getL (q := p) (v := ((p + 4 : Nat) : Int)) rfl (by decide) (pc' := 122) rfl ⟨Int.natCast_nonneg _, rfl⟩ (zPln_t0 hp) rfl (zPln_r0_9 hp) ?_
    refine zW.go 2 125 [(2, 3), (0, x1), (0, x2), (0, x3), (0, s0), (0, r22)] [(0, x3), (0, r22), (2, ((p + 4 : Nat) : Int))] _ rfl ?_
    obtain ⟨g, h⟩ := h
    refine w_iast (q := (p + 4)) rfl (by decide) (pc' := 126) rfl ⟨Int.natCast_nonneg _, rfl⟩ (zPln_t4 hp) g rfl ?_
    refine zW.go 1 127 [(2, 3), (0, x1), (0, x2), (0, x3), (0, s0), (0, r22)] [(2, 3)] _ rfl ?_
    refine w_getL (q := 3) (v := ((p : Nat) : Int)) rfl (by decide) (pc' := 130) rfl ⟨by decide, rfl⟩ rfl rfl hpl ?_
    refine w_getL (q := p) (v := ((p + 5 : Nat) : Int)) rfl (by decide) (pc' := 133) rfl ⟨Int.natCast_nonneg _, rfl⟩ (zPln_t0 hp) rfl (zPln_r0_10 hp) ?_
    refine zW.go 2 137 [(2, 3), (0, x1), (0, x2), (0, x3), (0, s0), (0, r22)] [(0, s0), (0, r22), (2, ((p + 5 : Nat) : Int))] _ rfl ?_
    obtain ⟨g, h⟩ := h
    refine w_iast (q := (p + 5)) rfl (by decide) (pc' := 138) rfl ⟨Int.natCast_nonneg _, rfl⟩ (zPln_t5 hp) g rfl ?_
    refine zW.go 1 139 [(2, 3), (0, x1), (0, x2), (0, x3), (0, s0), (0, r22)] [(0, 1)] _ rfl ?_
    exact w_retz rfl rfl (by decide) h
  · have h := h.2.2 c21
    refine zW.go 1 102 [(2, 3), (0, x1), (0, x2), (0, x3), (0, s0), z5] [(0, 0)] _ rfl ?_
    exact w_retz rfl rfl (by decide) h
set_option maxRecDepth 4000 in
theorem s_parser_readDoor {X : zX} {d : Nat} {rf mem : zF} {Q : Int → zF → Prop} (hR : zall rf zRK = true) {p : Nat} (hp : zPln rf p) (hpl : rf 3 1 = ((p : Nat) : Int)) (h : Ci X d 62 [(2, ((p : Nat) : Int)), (0, 0)] rf mem (fun r1 mem2 => (inI r1) ∧ ((r1 = 0 → Cv X d 132 [(2, 4)] rf mem2 (fun mem4 => Ci X d 38 [(2, 3)] rf mem4 (fun r5 mem6 => (inI r5) ∧ ((r5 = (-1) → L_parser_readDoor_54 X d rf Q mem6 p r5 (-1)) ∧ (¬ r5 = (-1) → Ci X d 37 [(2, 3), (0, 20004)] rf mem6 (fun r8 mem9 => (inI r8) ∧ ((¬ r8 = 0 → Ci X d 42 [(2, 3), (0, (-1))] rf mem9 (fun r11 mem12 => L_parser_readDoor_54 X d rf Q mem12 p r5 r11)) ∧ (r8 = 0 → L_parser_readDoor_54 X d rf Q mem9 p r5 (-1))))))))) ∧ (¬ r1 = 0 → Ci X d 26 [(2, 3), (0, 6)] rf mem2 (fun r13 mem14 => (r13 = 0 ∨ r13 = 1) ∧ Q r13 mem14))))) : Ci X (d + 1) 31 [(2, 3)] rf mem Q := by
  show zW X (d + 1) 31 0 [(2, 3), (9, 0), (9, 0), (9, 0), (9, 0), (9, 0)] [] (zty, rf, mem) (qi rf Q)
  refine zW.go 1 1 [(2, 3), (9, 0), (9, 0), (9, 0), (9, 0), (9, 0)] [(2, 3)] _ rfl ?_
  refine w_getL (q := 3) (v := ((p : Nat) : Int)) rfl (by decide) (pc' := 4) rfl ⟨by decide, rfl⟩ rfl rfl hpl ?_
  refine zW.go 1 5 [(2, 3), (9, 0), (9, 0), (9, 0), (9, 0), (9, 0)] [(0, 0), (2, ((p : Nat) : Int))] _ rfl ?_
  refine w_calli (as := [(2, ((p : Nat) : Int)), (0, 0)]) [] 8 rfl rfl rfl rfl (Nat.le_of_ble_eq_true rfl) (Nat.le_of_ble_eq_true rfl) (Nat.le_of_ble_eq_true rfl) (Or.inr (zrcv_o (zPln_t0 hp))) (Ci.imp h (fun r1 mem2 h => ?_))
  refine w_if_eq rfl (by decide) (pc' := 11) rfl h.1 (fun c3 => ?_) (fun c3 => ?_)
  · have h := h.2.1 c3
    refine zW.go 1 19 [(2, 3), (9, 0), (9, 0), (9, 0), (9, 0), (9, 0)] [(2, 3)] _ rfl ?_
    refine w_getL (q := 3) (v := 4) rfl (by decide) (pc' := 22) rfl ⟨by decide, rfl⟩ rfl rfl (zall_at hR (by decide)) ?_
    refine w_callv (as := [(2, 4)]) [] 25 rfl rfl rfl rfl (Nat.le_of_ble_eq_true rfl) (Nat.le_of_ble_eq_true rfl) (Nat.le_of_ble_eq_true rfl) (Or.inr rfl) (Cv.imp h (fun mem4 h => ?_))
    refine zW.go 1 26 [(2, 3), (9, 0), (9, 0), (9, 0), (9, 0), (9, 0)] [(2, 3)] _ rfl ?_
    refine w_calli (as := [(2, 3)]) [] 29 rfl rfl rfl rfl (Nat.le_of_ble_eq_true rfl) (Nat.le_of_ble_eq_true rfl) (Nat.le_of_ble_eq_true rfl) (Or.inr rfl) (Ci.imp h (fun r5 mem6 h => ?_))
    refine zW.go 3 32 [(2, 3), (0, r5), (9, 0), (9, 0), (9, 0), (9, 0)] [(0, (-1)), (0, r5)] _ rfl ?_
    refine w_ic_eq rfl (by decide) (pc' := 35) rfl ⟨h.1, by decide⟩ (fun c7 => ?_) (fun c7 => ?_)
    · have h := h.2.1 c7
      refine zW.go 2 54 [(2, 3), (0, r5), (9, 0), (9, 0), (9, 0), (9, 0)] [(0, (-1))] _ rfl ?_
      exact h (9, 0) (9, 0) (9, 0) (9, 0)
    · have h := h.2.2 c7
      refine zW.go 2 39 [(2, 3), (0, r5), (9, 0), (9, 0), (9, 0), (9, 0)] [(0, 20004), (2, 3)] _ rfl ?_
      refine w_calli (as := [(2, 3), (0, 20004)]) [] 42 rfl rfl rfl rfl (Nat.le_of_ble_eq_true rfl) (Nat.le_of_ble_eq_true rfl) (Nat.le_of_ble_eq_true rfl) (Or.inr rfl) (Ci.imp h (fun r8 mem9 h => ?_))
      refine w_if_ne rfl (by decide) (pc' := 45) rfl h.1 (fun c10 => ?_) (fun c10 => ?_)
      · have h := h.2.1 c10
        refine zW.go 2 51 [(2, 3), (0, r5), (9, 0), (9, 0), (9, 0), (9, 0)] [(0, (-1)), (2, 3)] _ rfl ?_
        refine w_calli (as := [(2, 3), (0, (-1))]) [] 54 rfl rfl rfl rfl (Nat.le_of_ble_eq_true rfl) (Nat.le_of_ble_eq_true rfl) (Nat.le_of_ble_eq_true rfl) (Or.inr rfl) (Ci.imp h (fun r11 mem12 h => ?_))
        exact h (9, 0) (9, 0) (9, 0) (9, 0)
      · have h := h.2.2 c10
        refine zW.go 2 54 [(2, 3), (0, r5), (9, 0), (9, 0), (9, 0), (9, 0)] [(0, (-1))] _ rfl ?_
        exact h (9, 0) (9, 0) (9, 0) (9, 0)
  · have h := h.2.2 c3
    refine zW.go 2 14 [(2, 3), (9, 0), (9, 0), (9, 0), (9, 0), (9, 0)] [(0, 6), (2, 3)] _ rfl ?_
    refine w_calli (as := [(2, 3), (0, 6)]) [] 17 rfl rfl rfl rfl (Nat.le_of_ble_eq_true rfl) (Nat.le_of_ble_eq_true rfl) (Nat.le_of_ble_eq_true rfl) (Or.inr rfl) (Ci.imp h (fun r13 mem14 h => ?_))
    exact w_retz rfl rfl h.1 h.2
set_option maxRecDepth 4000 in
theorem s_parser_readOpen {X : zX} {d : Nat} {rf mem : zF} {Q : Int → zF → Prop} (hR : zall rf zRK = true) {p : Nat} (hp : zPln rf p) (hpl : rf 3 1 = ((p : Nat) : Int)) (h : Cv X d 132 [(2, 4)] rf mem (fun mem1 => Ci X d 135 [(2, 4)] rf mem1 (fun r2 mem3 => (inI r2) ∧ ((¬ r2 = 0 → Ci X d 136 [(2, 4)] rf mem3 (fun r5 mem6 => Ci X d 66 [(2, ((p : Nat) : Int)), (0, 0), (0, r5)] rf mem6 (fun r7 mem8 => (inI r7) ∧ ((r7 = (-1) → Ci X d 26 [(2, 3), (0, 3)] rf mem8 (fun r10 mem11 => (r10 = 0 ∨ r10 = 1) ∧ Q r10 mem11)) ∧ (¬ r7 = (-1) → (inI (zand (zshr (mem8 p 5) r7) 1)) ∧ ((¬ (zand (zshr (mem8 p 5) r7) 1) = 1 → Cv X d 132 [(2, 4)] rf (zup mem8 p 5 (zor (mem8 p 5) (zshl 1 r7))) (fun mem13 => Q 1 mem13)) ∧ ((zand (zshr (mem8 p 5) r7) 1) = 1 → Ci X d 26 [(2, 3), (0, 3)] rf mem8 (fun r14 mem15 => (r14 = 0 ∨ r14 = 1) ∧ Q r14 mem15)))))))) ∧ (r2 = 0 → Ci X d 26 [(2, 3), (0, 1)] rf mem3 (fun r16 mem17 => (r16 = 0 ∨ r16 = 1) ∧ Q r16 mem17)))))) : Ci X (d + 1) 32 [(2, 3)] rf mem Q := by
  show zW X (d + 1) 32 0 [(2, 3), (9, 0)] [] (zty, rf, mem) (qi rf Q)
  refine zW.go 1 1 [(2, 3), (9, 0)] [(2, 3)] _ rfl ?_
  refine w_getL (q := 3) (v := 4) rfl (by decide) (pc' := 4) rfl ⟨by decide, rfl⟩ rfl rfl (zall_at hR (by decide)) ?_
  refine w_callv (as := [(2, 4)]) [] 7 rfl rfl rfl rfl (Nat.le_of_ble_eq_true rfl) (Nat.le_of_ble_eq_true rfl) (Nat.le_of_ble_eq_true rfl) (Or.inr rfl) (Cv.imp h (fun mem1 h => ?_))
  refine zW.go 1 8 [(2, 3), (9, 0)] [(2, 3)] _ rfl ?_
  refine w_getL (q := 3) (v := 4) rfl (by decide) (pc' := 11) rfl ⟨by decide, rfl⟩ rfl rfl (zall_at hR (by decide)) ?_
  refine w_calli (as := [(2, 4)]) [] 14 rfl rfl rfl rfl (Nat.le_of_ble_eq_true rfl) (Nat.le_of_ble_eq_true rfl) (Nat.le_of_ble_eq_true rfl) (Or.inr rfl) (Ci.imp h (fun r2 mem3 h => ?_))
  refine w_if_ne rfl (by decide) (pc' := 17) rfl h.1 (fun c4 => ?_) (fun c4 => ?_)
  · have h := h.2.1 c4
    refine zW.go 1 24 [(2, 3), (9, 0)] [(2, 3)] _ rfl ?_
    refine w_getL (q := 3) (v := ((p : Nat) : Int)) rfl (by decide) (pc' := 27) rfl ⟨by decide, rfl⟩ rfl rfl hpl ?_
    refine zW.go 2 29 [(2, 3), (9, 0)] [(2, 3), (0, 0), (2, ((p : Nat) : Int))] _ rfl ?_
    refine w_getL (q := 3) (v := 4) rfl (by decide) (pc' := 32) rfl ⟨by decide, rfl⟩ rfl rfl (zall_at hR (by decide)) ?_
    refine w_calli (as := [(2, 4)]) [(0, 0), (2, ((p : Nat) : Int))] 35 rfl rfl rfl rfl (Nat.le_of_ble_eq_true rfl) (Nat.le_of_ble_eq_true rfl) (Nat.le_of_ble_eq_true rfl) (Or.inr rfl) (Ci.imp h (fun r5 mem6 h => ?_))
    refine w_calli (as := [(2, ((p : Nat) : Int)), (0, 0), (0, r5)]) [] 38 rfl rfl rfl rfl (Nat.le_of_ble_eq_true rfl) (Nat.le_of_ble_eq_true rfl) (Nat.le_of_ble_eq_true rfl) (Or.inr (zrcv_o (zPln_t0 hp))) (Ci.imp h (fun r7 mem8 h => ?_))
    refine zW.go 3 41 [(2, 3), (0, r7)] [(0, (-1)), (0, r7)] _ rfl ?_
    refine w_ic_eq rfl (by decide) (pc' := 44) rfl ⟨h.1, by decide⟩ (fun c9 => ?_) (fun c9 => ?_)
    · have h := h.2.1 c9
      refine zW.go 2 61 [(2, 3), (0, r7)] [(0, 3), (2, 3)] _ rfl ?_
      refine w_calli (as := [(2, 3), (0, 3)]) [] 64 rfl rfl rfl rfl (Nat.le_of_ble_eq_true rfl) (Nat.le_of_ble_eq_true rfl) (Nat.le_of_ble_eq_true rfl) (Or.inr rfl) (Ci.imp h (fun r10 mem11 h => ?_))
      exact w_retz rfl rfl h.1 h.2
    · have h := h.2.2 c9
      refine zW.go 1 45 [(2, 3), (0, r7)] [(2, 3)] _ rfl ?_
      refine w_getL (q := 3) (v := ((p : Nat) : Int)) rfl (by decide) (pc' := 48) rfl ⟨by decide, rfl⟩ rfl rfl hpl ?_
      refine w_getI (q := p) rfl (by decide) (pc' := 51) rfl ⟨Int.natCast_nonneg _, rfl⟩ (zPln_t0 hp) (by decide) ?_
      refine zW.go 5 56 [(2, 3), (0, r7)] [(0, 1), (0, (zand (zshr (mem8 p 5) r7) 1))] _ rfl ?_
      refine w_ic_ne rfl (by decide) (pc' := 59) rfl ⟨h.1, by decide⟩ (fun c12 => ?_) (fun c12 => ?_)
      · have h := h.2.1 c12
        refine zW.go 1 66 [(2, 3), (0, r7)] [(2, 3)] _ rfl ?_
        refine w_getL (q := 3) (v := ((p : Nat) : Int)) rfl (by decide) (pc' := 69) rfl ⟨by decide, rfl⟩ rfl rfl hpl ?_
        refine zW.go 1 70 [(2, 3), (0, r7)] [(2, ((p : Nat) : Int)), (2, ((p : Nat) : Int))] _ rfl ?_
        refine w_getI (q := p) rfl (by decide) (pc' := 73) rfl ⟨Int.natCast_nonneg _, rfl⟩ (zPln_t0 hp) (by decide) ?_
        refine zW.go 4 77 [(2, 3), (0, r7)] [(0, (zor (mem8 p 5) (zshl 1 r7))), (2, ((p : Nat) : Int))] _ rfl ?_
        refine w_putI (q := p) rfl (by decide) (pc' := 80) rfl ⟨Int.natCast_nonneg _, rfl⟩ (zPln_t0 hp) (by decide) ?_
        refine zW.go 1 81 [(2, 3), (0, r7)] [(2, 3)] _ rfl ?_
        refine w_getL (q := 3) (v := 4) rfl (by decide) (pc' := 84) rfl ⟨by decide, rfl⟩ rfl rfl (zall_at hR (by decide)) ?_
        refine w_callv (as := [(2, 4)]) [] 87 rfl rfl rfl rfl (Nat.le_of_ble_eq_true rfl) (Nat.le_of_ble_eq_true rfl) (Nat.le_of_ble_eq_true rfl) (Or.inr rfl) (Cv.imp h (fun mem13 h => ?_))
        refine zW.go 1 88 [(2, 3), (0, r7)] [(0, 1)] _ rfl ?_
        exact w_retz rfl rfl (by decide) h
      · have h := h.2.2 c12
        refine zW.go 2 61 [(2, 3), (0, r7)] [(0, 3), (2, 3)] _ rfl ?_
        refine w_calli (as := [(2, 3), (0, 3)]) [] 64 rfl rfl rfl rfl (Nat.le_of_ble_eq_true rfl) (Nat.le_of_ble_eq_true rfl) (Nat.le_of_ble_eq_true rfl) (Or.inr rfl) (Ci.imp h (fun r14 mem15 h => ?_))
        exact w_retz rfl rfl h.1 h.2
  · have h := h.2.2 c4
    refine zW.go 2 19 [(2, 3), (9, 0)] [(0, 1), (2, 3)] _ rfl ?_
    refine w_calli (as := [(2, 3), (0, 1)]) [] 22 rfl rfl rfl rfl (Nat.le_of_ble_eq_true rfl) (Nat.le_of_ble_eq_true rfl) (Nat.le_of_ble_eq_true rfl) (Or.inr rfl) (Ci.imp h (fun r16 mem17 h => ?_))
    exact w_retz rfl rfl h.1 h.2
def L_parser_readHeir_54 (X : zX) (d : Nat) (rf : zF) (Q : Int → zF → Prop) (mem : zF) (p : Nat) (x1 : Int) (s0 : Int) : Prop := ∀ z2 : zV, ∀ z3 : zV, zW X (d + 1) 33 54 [(2, 3), (0, x1), z2, z3] [(0, s0)] (zty, rf, mem) (qi rf Q)
def L_parser_readHeir_74 (X : zX) (d : Nat) (rf : zF) (Q : Int → zF → Prop) (mem : zF) (p : Nat) (x1 : Int) (x2 : Int) (s0 : Int) : Prop := ∀ z3 : zV, zW X (d + 1) 33 74 [(2, 3), (0, x1), (0, x2), z3] [(0, s0)] (zty, rf, mem) (qi rf Q)
set_option maxRecDepth 4000 in
theorem s_parser_readHeir_54 {X : zX} {d : Nat} {rf mem : zF} {Q : Int → zF → Prop} (hR : zall rf zRK = true) {p : Nat} (hp : zPln rf p) (hpl : rf 3 1 = ((p : Nat) : Int)) {x1 : Int} {s0 : Int} (h : (inI s0) ∧ ((¬ s0 = (-1) → Ci X d 41 [(2, 3), (0, 20009), (0, 0), (0, 9)] rf mem (fun r16 mem17 => L_parser_readHeir_74 X d rf Q mem17 p x1 s0 r16)) ∧ (s0 = (-1) → L_parser_readHeir_74 X d rf Q mem p x1 s0 (-1)))) : L_parser_readHeir_54 X d rf Q mem p x1 s0 := by
  intro z2 z3
  refine zW.go 3 57 [(2, 3), (0, x1), (0, s0), z3] [(0, (-1)), (0, s0)] _ rfl ?_
  refine w_ic_ne rfl (by decide) (pc' := 60) rfl ⟨h.1, by decide⟩ (fun c15 => ?_) (fun c15 => ?_)
  · have h := h.2.1 c15
    refine zW.go 4 71 [(2, 3), (0, x1), (0, s0), z3] [(0, 9), (0, 0), (0, 20009), (2, 3)] _ rfl ?_
    refine w_calli (as := [(2, 3), (0, 20009), (0, 0), (0, 9)]) [] 74 rfl rfl rfl rfl (Nat.le_of_ble_eq_true rfl) (Nat.le_of_ble_eq_true rfl) (Nat.le_of_ble_eq_true rfl) (Or.inr rfl) (Ci.imp h (fun r16 mem17 h => ?_))
    exact h z3
  · have h := h.2.2 c15
    refine zW.go 2 74 [(2, 3), (0, x1), (0, s0), z3] [(0, (-1))] _ rfl ?_
    exact h z3
set_option maxRecDepth 4000 in
theorem s_parser_readHeir_74 {X : zX} {d : Nat} {rf mem : zF} {Q : Int → zF → Prop} (hR : zall rf zRK = true) {p : Nat} (hp : zPln rf p) (hpl : rf 3 1 = ((p : Nat) : Int)) {x1 : Int} {x2 : Int} {s0 : Int} (h : (inI s0) ∧ ((¬ s0 = (-1) → Ci X d 63 [(2, ((p : Nat) : Int)), (0, 1), (0, x1), (0, x2)] rf mem (fun r19 mem20 => (0 ≤ r19 ∧ r19 < 6) ∧ (Q 1 (zup mem20 (p + 6) (r19).toNat s0)))) ∧ (s0 = (-1) → Q 0 mem))) : L_parser_readHeir_74 X d rf Q mem p x1 x2 s0 := by
  intro z3
  refine zW.go 3 77 [(2, 3), (0, x1), (0, x2), (0, s0)] [(0, (-1)), (0, s0)] _ rfl ?_
  refine w_ic_ne rfl (by decide) (pc' := 80) rfl ⟨h.1, by decide⟩ (fun c18 => ?_) (fun c18 => ?_)
  · have h := h.2.1 c18
    refine zW.go 1 83 [(2, 3), (0, x1), (0, x2), (0, s0)] [(2, 3)] _ rfl ?_
    refine w_getL (q := 3) (v := ((p : Nat) : Int)) rfl (by decide) (pc' := 86) rfl ⟨by decide, rfl⟩ rfl rfl hpl ?_
    refine w_getL (q := p) (v := ((p + 6 : Nat) : Int)) rfl (by decide) (pc' := 89) rfl ⟨Int.natCast_nonneg _, rfl⟩ (zPln_t0 hp) rfl (zPln_r0_11 hp) ?_
    refine zW.go 1 90 [(2, 3), (0, x1), (0, x2), (0, s0)] [(2, 3), (2, ((p + 6 : Nat) : Int))] _ rfl ?_
    refine w_getL (q := 3) (v := ((p : Nat) : Int)) rfl (by decide) (pc' := 93) rfl ⟨by decide, rfl⟩ rfl rfl hpl ?_
    refine zW.go 3 96 [(2, 3), (0, x1), (0, x2), (0, s0)] [(0, x2), (0, x1), (0, 1), (2, ((p : Nat) : Int)), (2, ((p + 6 : Nat) : Int))] _ rfl ?_
    refine w_calli (as := [(2, ((p : Nat) : Int)), (0, 1), (0, x1), (0, x2)]) [(2, ((p + 6 : Nat) : Int))] 99 rfl rfl rfl rfl (Nat.le_of_ble_eq_true rfl) (Nat.le_of_ble_eq_true rfl) (Nat.le_of_ble_eq_true rfl) (Or.inr (zrcv_o (zPln_t0 hp))) (Ci.imp h (fun r19 mem20 h => ?_))
    refine zW.go 1 100 [(2, 3), (0, x1), (0, x2), (0, s0)] [(0, s0), (0, r19), (2, ((p + 6 : Nat) : Int))] _ rfl ?_
    obtain ⟨g, h⟩ := h
    refine w_iast (q := (p + 6)) rfl (by decide) (pc' := 101) rfl ⟨Int.natCast_nonneg _, rfl⟩ (zPln_t6 hp) g rfl ?_
    refine zW.go 1 102 [(2, 3), (0, x1), (0, x2), (0, s0)] [(0, 1)] _ rfl ?_
    exact w_retz rfl rfl (by decide) h
  · have h := h.2.2 c18
    refine zW.go 1 81 [(2, 3), (0, x1), (0, x2), (0, s0)] [(0, 0)] _ rfl ?_
    exact w_retz rfl rfl (by decide) h
set_option maxRecDepth 4000 in
theorem s_parser_readHeir {X : zX} {d : Nat} {rf mem : zF} {Q : Int → zF → Prop} (hR : zall rf zRK = true) {p : Nat} (hp : zPln rf p) (hpl : rf 3 1 = ((p : Nat) : Int)) (h : Ci X d 62 [(2, ((p : Nat) : Int)), (0, 1)] rf mem (fun r1 mem2 => (inI r1) ∧ ((r1 = 0 → Cv X d 132 [(2, 4)] rf mem2 (fun mem4 => Ci X d 38 [(2, 3)] rf mem4 (fun r5 mem6 => (inI r5) ∧ ((r5 = (-1) → L_parser_readHeir_54 X d rf Q mem6 p r5 (-1)) ∧ (¬ r5 = (-1) → Ci X d 37 [(2, 3), (0, 20004)] rf mem6 (fun r8 mem9 => (inI r8) ∧ ((¬ r8 = 0 → Ci X d 42 [(2, 3), (0, 1)] rf mem9 (fun r11 mem12 => L_parser_readHeir_54 X d rf Q mem12 p r5 r11)) ∧ (r8 = 0 → L_parser_readHeir_54 X d rf Q mem9 p r5 (-1))))))))) ∧ (¬ r1 = 0 → Ci X d 26 [(2, 3), (0, 6)] rf mem2 (fun r13 mem14 => (r13 = 0 ∨ r13 = 1) ∧ Q r13 mem14))))) : Ci X (d + 1) 33 [(2, 3)] rf mem Q := by
  show zW X (d + 1) 33 0 [(2, 3), (9, 0), (9, 0), (9, 0)] [] (zty, rf, mem) (qi rf Q)
  refine zW.go 1 1 [(2, 3), (9, 0), (9, 0), (9, 0)] [(2, 3)] _ rfl ?_
  refine w_getL (q := 3) (v := ((p : Nat) : Int)) rfl (by decide) (pc' := 4) rfl ⟨by decide, rfl⟩ rfl rfl hpl ?_
  refine zW.go 1 5 [(2, 3), (9, 0), (9, 0), (9, 0)] [(0, 1), (2, ((p : Nat) : Int))] _ rfl ?_
  refine w_calli (as := [(2, ((p : Nat) : Int)), (0, 1)]) [] 8 rfl rfl rfl rfl (Nat.le_of_ble_eq_true rfl) (Nat.le_of_ble_eq_true rfl) (Nat.le_of_ble_eq_true rfl) (Or.inr (zrcv_o (zPln_t0 hp))) (Ci.imp h (fun r1 mem2 h => ?_))
  refine w_if_eq rfl (by decide) (pc' := 11) rfl h.1 (fun c3 => ?_) (fun c3 => ?_)
  · have h := h.2.1 c3
    refine zW.go 1 19 [(2, 3), (9, 0), (9, 0), (9, 0)] [(2, 3)] _ rfl ?_
    refine w_getL (q := 3) (v := 4) rfl (by decide) (pc' := 22) rfl ⟨by decide, rfl⟩ rfl rfl (zall_at hR (by decide)) ?_
    refine w_callv (as := [(2, 4)]) [] 25 rfl rfl rfl rfl (Nat.le_of_ble_eq_true rfl) (Nat.le_of_ble_eq_true rfl) (Nat.le_of_ble_eq_true rfl) (Or.inr rfl) (Cv.imp h (fun mem4 h => ?_))
    refine zW.go 1 26 [(2, 3), (9, 0), (9, 0), (9, 0)] [(2, 3)] _ rfl ?_
    refine w_calli (as := [(2, 3)]) [] 29 rfl rfl rfl rfl (Nat.le_of_ble_eq_true rfl) (Nat.le_of_ble_eq_true rfl) (Nat.le_of_ble_eq_true rfl) (Or.inr rfl) (Ci.imp h (fun r5 mem6 h => ?_))
    refine zW.go 3 32 [(2, 3), (0, r5), (9, 0), (9, 0)] [(0, (-1)), (0, r5)] _ rfl ?_
    refine w_ic_eq rfl (by decide) (pc' := 35) rfl ⟨h.1, by decide⟩ (fun c7 => ?_) (fun c7 => ?_)
    · have h := h.2.1 c7
      refine zW.go 2 54 [(2, 3), (0, r5), (9, 0), (9, 0)] [(0, (-1))] _ rfl ?_
      exact h (9, 0) (9, 0)
    · have h := h.2.2 c7
      refine zW.go 2 39 [(2, 3), (0, r5), (9, 0), (9, 0)] [(0, 20004), (2, 3)] _ rfl ?_
      refine w_calli (as := [(2, 3), (0, 20004)]) [] 42 rfl rfl rfl rfl (Nat.le_of_ble_eq_true rfl) (Nat.le_of_ble_eq_true rfl) (Nat.le_of_ble_eq_true rfl) (Or.inr rfl) (Ci.imp h (fun r8 mem9 h => ?_))
      refine w_if_ne rfl (by decide) (pc' := 45) rfl h.1 (fun c10 => ?_) (fun c10 => ?_)
      · have h := h.2.1 c10
        refine zW.go 2 51 [(2, 3), (0, r5), (9, 0), (9, 0)] [(0, 1), (2, 3)] _ rfl ?_
        refine w_calli (as := [(2, 3), (0, 1)]) [] 54 rfl rfl rfl rfl (Nat.le_of_ble_eq_true rfl) (Nat.le_of_ble_eq_true rfl) (Nat.le_of_ble_eq_true rfl) (Or.inr rfl) (Ci.imp h (fun r11 mem12 h => ?_))
        exact h (9, 0) (9, 0)
      · have h := h.2.2 c10
        refine zW.go 2 54 [(2, 3), (0, r5), (9, 0), (9, 0)] [(0, (-1))] _ rfl ?_
        exact h (9, 0) (9, 0)
  · have h := h.2.2 c3
    refine zW.go 2 14 [(2, 3), (9, 0), (9, 0), (9, 0)] [(0, 6), (2, 3)] _ rfl ?_
    refine w_calli (as := [(2, 3), (0, 6)]) [] 17 rfl rfl rfl rfl (Nat.le_of_ble_eq_true rfl) (Nat.le_of_ble_eq_true rfl) (Nat.le_of_ble_eq_true rfl) (Or.inr rfl) (Ci.imp h (fun r13 mem14 h => ?_))
    exact w_retz rfl rfl h.1 h.2
def L_parser_readBubble_54 (X : zX) (d : Nat) (rf : zF) (Q : Int → zF → Prop) (mem : zF) (p : Nat) (x1 : Int) (s0 : Int) : Prop := ∀ z2 : zV, ∀ z3 : zV, ∀ z4 : zV, ∀ z5 : zV, zW X (d + 1) 34 54 [(2, 3), (0, x1), z2, z3, z4, z5] [(0, s0)] (zty, rf, mem) (qi rf Q)
def L_parser_readBubble_74 (X : zX) (d : Nat) (rf : zF) (Q : Int → zF → Prop) (mem : zF) (p : Nat) (x1 : Int) (x2 : Int) (s0 : Int) : Prop := ∀ z3 : zV, ∀ z4 : zV, ∀ z5 : zV, zW X (d + 1) 34 74 [(2, 3), (0, x1), (0, x2), z3, z4, z5] [(0, s0)] (zty, rf, mem) (qi rf Q)
def L_parser_readBubble_94 (X : zX) (d : Nat) (rf : zF) (Q : Int → zF → Prop) (mem : zF) (p : Nat) (x1 : Int) (x2 : Int) (x3 : Int) (s0 : Int) : Prop := ∀ z4 : zV, ∀ z5 : zV, zW X (d + 1) 34 94 [(2, 3), (0, x1), (0, x2), (0, x3), z4, z5] [(0, s0)] (zty, rf, mem) (qi rf Q)
set_option maxRecDepth 4000 in
theorem s_parser_readBubble_54 {X : zX} {d : Nat} {rf mem : zF} {Q : Int → zF → Prop} (hR : zall rf zRK = true) {p : Nat} (hp : zPln rf p) (hpl : rf 3 1 = ((p : Nat) : Int)) {x1 : Int} {s0 : Int} (h : (inI s0) ∧ ((¬ s0 = (-1) → Ci X d 41 [(2, 3), (0, 20011), (0, 1), (0, 99)] rf mem (fun r16 mem17 => L_parser_readBubble_74 X d rf Q mem17 p x1 s0 r16)) ∧ (s0 = (-1) → L_parser_readBubble_74 X d rf Q mem p x1 s0 (-1)))) : L_parser_readBubble_54 X d rf Q mem p x1 s0 := by
  intro z2 z3 z4 z5
  refine zW.go 3 57 [(2, 3), (0, x1), (0, s0), z3, z4, z5] [(0, (-1)), (0, s0)] _ rfl ?_
  refine w_ic_ne rfl (by decide) (pc' := 60) rfl ⟨h.1, by decide⟩ (fun c15 => ?_) (fun c15 => ?_)
  · have h := h.2.1 c15
    refine zW.go 4 71 [(2, 3), (0, x1), (0, s0), z3, z4, z5] [(0, 99), (0, 1), (0, 20011), (2, 3)] _ rfl ?_
    refine w_calli (as := [(2, 3), (0, 20011), (0, 1), (0, 99)]) [] 74 rfl rfl rfl rfl (Nat.le_of_ble_eq_true rfl) (Nat.le_of_ble_eq_true rfl) (Nat.le_of_ble_eq_true rfl) (Or.inr rfl) (Ci.imp h (fun r16 mem17 h => ?_))
    exact h z3 z4 z5
  · have h := h.2.2 c15
    refine zW.go 2 74 [(2, 3), (0, x1), (0, s0), z3, z4, z5] [(0, (-1))] _ rfl ?_
    exact h z3 z4 z5
set_option maxRecDepth 4000 in
theorem s_parser_readBubble_74 {X : zX} {d : Nat} {rf mem : zF} {Q : Int → zF → Prop} (hR : zall rf zRK = true) {p : Nat} (hp : zPln rf p) (hpl : rf 3 1 = ((p : Nat) : Int)) {x1 : Int} {x2 : Int} {s0 : Int} (h : (inI s0) ∧ ((¬ s0 = (-1) → Ci X d 41 [(2, 3), (0, 20012), (0, 1), (0, 9)] rf mem (fun r19 mem20 => L_parser_readBubble_94 X d rf Q mem20 p x1 x2 s0 r19)) ∧ (s0 = (-1) → L_parser_readBubble_94 X d rf Q mem p x1 x2 s0 (-1)))) : L_parser_readBubble_74 X d rf Q mem p x1 x2 s0 := by
  intro z3 z4 z5
  refine zW.go 3 77 [(2, 3), (0, x1), (0, x2), (0, s0), z4, z5] [(0, (-1)), (0, s0)] _ rfl ?_
  refine w_ic_ne rfl (by decide) (pc' := 80) rfl ⟨h.1, by decide⟩ (fun c18 => ?_) (fun c18 => ?_)
  · have h := h.2.1 c18
    refine zW.go 4 91 [(2, 3), (0, x1), (0, x2), (0, s0), z4, z5] [(0, 9), (0, 1), (0, 20012), (2, 3)] _ rfl ?_
    refine w_calli (as := [(2, 3), (0, 20012), (0, 1), (0, 9)]) [] 94 rfl rfl rfl rfl (Nat.le_of_ble_eq_true rfl) (Nat.le_of_ble_eq_true rfl) (Nat.le_of_ble_eq_true rfl) (Or.inr rfl) (Ci.imp h (fun r19 mem20 h => ?_))
    exact h z4 z5
  · have h := h.2.2 c18
    refine zW.go 2 94 [(2, 3), (0, x1), (0, x2), (0, s0), z4, z5] [(0, (-1))] _ rfl ?_
    exact h z4 z5
set_option maxRecDepth 4000 in
theorem s_parser_readBubble_94 {X : zX} {d : Nat} {rf mem : zF} {Q : Int → zF → Prop} (hR : zall rf zRK = true) {p : Nat} (hp : zPln rf p) (hpl : rf 3 1 = ((p : Nat) : Int)) {x1 : Int} {x2 : Int} {x3 : Int} {s0 : Int} (h : (inI s0) ∧ ((¬ s0 = (-1) → Ci X d 63 [(2, ((p : Nat) : Int)), (0, 2), (0, x1), (0, x2)] rf mem (fun r22 mem23 => (0 ≤ r22 ∧ r22 < 6) ∧ ((0 ≤ r22 ∧ r22 < 6) ∧ (Q 1 (zup (zup mem23 (p + 7) (r22).toNat x3) (p + 8) (r22).toNat s0))))) ∧ (s0 = (-1) → Q 0 mem))) : L_parser_readBubble_94 X d rf Q mem p x1 x2 x3 s0 := by
  intro z4 z5
  refine zW.go 3 99 [(2, 3), (0, x1), (0, x2), (0, x3), (0, s0), z5] [(0, (-1)), (0, s0)] _ rfl ?_
  refine w_ic_ne rfl (by decide) (pc' := 102) rfl ⟨h.1, by decide⟩ (fun c21 => ?_) (fun c21 => ?_)
  · have h := h.2.1 c21
    refine zW.go 1 105 [(2, 3), (0, x1), (0, x2), (0, x3), (0, s0), z5] [(2, 3)] _ rfl ?_
    refine w_getL (q := 3) (v := ((p : Nat) : Int)) rfl (by decide) (pc' := 108) rfl ⟨by decide, rfl⟩ rfl rfl hpl ?_
    refine zW.go 3 111 [(2, 3), (0, x1), (0, x2), (0, x3), (0, s0), z5] [(0, x2), (0, x1), (0, 2), (2, ((p : Nat) : Int))] _ rfl ?_
    refine w_calli (as := [(2, ((p : Nat) : Int)), (0, 2), (0, x1), (0, x2)]) [] 114 rfl rfl rfl rfl (Nat.le_of_ble_eq_true rfl) (Nat.le_of_ble_eq_true rfl) (Nat.le_of_ble_eq_true rfl) (Or.inr (zrcv_o (zPln_t0 hp))) (Ci.imp h (fun r22 mem23 h => ?_))
    refine zW.go 2 117 [(2, 3), (0, x1), (0, x2), (0, x3), (0, s0), (0, r22)] [(2, 3)] _ rfl ?_
    refine w_getL (q := 3) (v := ((p : Nat) : Int)) rfl (by decide) (pc' := 120) rfl ⟨by decide, rfl⟩ rfl rfl hpl ?_
    refine w_getL (q := p) (v := ((p + 7 : Nat) : Int)) rfl (by decide) (pc' := 123) rfl ⟨Int.natCast_nonneg _, rfl⟩ (zPln_t0 hp) rfl (zPln_r0_12 hp) ?_
    refine zW.go 2 126 [(2, 3), (0, x1), (0, x2), (0, x3), (0, s0), (0, r22)] [(0, x3), (0, r22), (2, ((p + 7 : Nat) : Int))] _ rfl ?_
    obtain ⟨g, h⟩ := h
    refine w_iast (q := (p + 7)) rfl (by decide) (pc' := 127) rfl ⟨Int.natCast_nonneg _, rfl⟩ (zPln_t7 hp) g rfl ?_
    refine zW.go 1 128 [(2, 3), (0, x1), (0, x2), (0, x3), (0, s0), (0, r22)] [(2, 3)] _ rfl ?_
    refine w_getL (q := 3) (v := ((p : Nat) : Int)) rfl (by decide) (pc' := 131) rfl ⟨by decide, rfl⟩ rfl rfl hpl ?_
    refine w_getL (q := p) (v := ((p + 8 : Nat) : Int)) rfl (by decide) (pc' := 134) rfl ⟨Int.natCast_nonneg _, rfl⟩ (zPln_t0 hp) rfl (zPln_r0_13 hp) ?_
    refine zW.go 2 138 [(2, 3), (0, x1), (0, x2), (0, x3), (0, s0), (0, r22)] [(0, s0), (0, r22), (2, ((p + 8 : Nat) : Int))] _ rfl ?_
    obtain ⟨g, h⟩ := h
    refine w_iast (q := (p + 8)) rfl (by decide) (pc' := 139) rfl ⟨Int.natCast_nonneg _, rfl⟩ (zPln_t8 hp) g rfl ?_
    refine zW.go 1 140 [(2, 3), (0, x1), (0, x2), (0, x3), (0, s0), (0, r22)] [(0, 1)] _ rfl ?_
    exact w_retz rfl rfl (by decide) h
  · have h := h.2.2 c21
    refine zW.go 1 103 [(2, 3), (0, x1), (0, x2), (0, x3), (0, s0), z5] [(0, 0)] _ rfl ?_
    exact w_retz rfl rfl (by decide) h
set_option maxRecDepth 4000 in
theorem s_parser_readBubble {X : zX} {d : Nat} {rf mem : zF} {Q : Int → zF → Prop} (hR : zall rf zRK = true) {p : Nat} (hp : zPln rf p) (hpl : rf 3 1 = ((p : Nat) : Int)) (h : Ci X d 62 [(2, ((p : Nat) : Int)), (0, 2)] rf mem (fun r1 mem2 => (inI r1) ∧ ((r1 = 0 → Cv X d 132 [(2, 4)] rf mem2 (fun mem4 => Ci X d 38 [(2, 3)] rf mem4 (fun r5 mem6 => (inI r5) ∧ ((r5 = (-1) → L_parser_readBubble_54 X d rf Q mem6 p r5 (-1)) ∧ (¬ r5 = (-1) → Ci X d 37 [(2, 3), (0, 20004)] rf mem6 (fun r8 mem9 => (inI r8) ∧ ((¬ r8 = 0 → Ci X d 42 [(2, 3), (0, 2)] rf mem9 (fun r11 mem12 => L_parser_readBubble_54 X d rf Q mem12 p r5 r11)) ∧ (r8 = 0 → L_parser_readBubble_54 X d rf Q mem9 p r5 (-1))))))))) ∧ (¬ r1 = 0 → Ci X d 26 [(2, 3), (0, 6)] rf mem2 (fun r13 mem14 => (r13 = 0 ∨ r13 = 1) ∧ Q r13 mem14))))) : Ci X (d + 1) 34 [(2, 3)] rf mem Q := by
  show zW X (d + 1) 34 0 [(2, 3), (9, 0), (9, 0), (9, 0), (9, 0), (9, 0)] [] (zty, rf, mem) (qi rf Q)
  refine zW.go 1 1 [(2, 3), (9, 0), (9, 0), (9, 0), (9, 0), (9, 0)] [(2, 3)] _ rfl ?_
  refine w_getL (q := 3) (v := ((p : Nat) : Int)) rfl (by decide) (pc' := 4) rfl ⟨by decide, rfl⟩ rfl rfl hpl ?_
  refine zW.go 1 5 [(2, 3), (9, 0), (9, 0), (9, 0), (9, 0), (9, 0)] [(0, 2), (2, ((p : Nat) : Int))] _ rfl ?_
  refine w_calli (as := [(2, ((p : Nat) : Int)), (0, 2)]) [] 8 rfl rfl rfl rfl (Nat.le_of_ble_eq_true rfl) (Nat.le_of_ble_eq_true rfl) (Nat.le_of_ble_eq_true rfl) (Or.inr (zrcv_o (zPln_t0 hp))) (Ci.imp h (fun r1 mem2 h => ?_))
  refine w_if_eq rfl (by decide) (pc' := 11) rfl h.1 (fun c3 => ?_) (fun c3 => ?_)
  · have h := h.2.1 c3
    refine zW.go 1 19 [(2, 3), (9, 0), (9, 0), (9, 0), (9, 0), (9, 0)] [(2, 3)] _ rfl ?_
    refine w_getL (q := 3) (v := 4) rfl (by decide) (pc' := 22) rfl ⟨by decide, rfl⟩ rfl rfl (zall_at hR (by decide)) ?_
    refine w_callv (as := [(2, 4)]) [] 25 rfl rfl rfl rfl (Nat.le_of_ble_eq_true rfl) (Nat.le_of_ble_eq_true rfl) (Nat.le_of_ble_eq_true rfl) (Or.inr rfl) (Cv.imp h (fun mem4 h => ?_))
    refine zW.go 1 26 [(2, 3), (9, 0), (9, 0), (9, 0), (9, 0), (9, 0)] [(2, 3)] _ rfl ?_
    refine w_calli (as := [(2, 3)]) [] 29 rfl rfl rfl rfl (Nat.le_of_ble_eq_true rfl) (Nat.le_of_ble_eq_true rfl) (Nat.le_of_ble_eq_true rfl) (Or.inr rfl) (Ci.imp h (fun r5 mem6 h => ?_))
    refine zW.go 3 32 [(2, 3), (0, r5), (9, 0), (9, 0), (9, 0), (9, 0)] [(0, (-1)), (0, r5)] _ rfl ?_
    refine w_ic_eq rfl (by decide) (pc' := 35) rfl ⟨h.1, by decide⟩ (fun c7 => ?_) (fun c7 => ?_)
    · have h := h.2.1 c7
      refine zW.go 2 54 [(2, 3), (0, r5), (9, 0), (9, 0), (9, 0), (9, 0)] [(0, (-1))] _ rfl ?_
      exact h (9, 0) (9, 0) (9, 0) (9, 0)
    · have h := h.2.2 c7
      refine zW.go 2 39 [(2, 3), (0, r5), (9, 0), (9, 0), (9, 0), (9, 0)] [(0, 20004), (2, 3)] _ rfl ?_
      refine w_calli (as := [(2, 3), (0, 20004)]) [] 42 rfl rfl rfl rfl (Nat.le_of_ble_eq_true rfl) (Nat.le_of_ble_eq_true rfl) (Nat.le_of_ble_eq_true rfl) (Or.inr rfl) (Ci.imp h (fun r8 mem9 h => ?_))
      refine w_if_ne rfl (by decide) (pc' := 45) rfl h.1 (fun c10 => ?_) (fun c10 => ?_)
      · have h := h.2.1 c10
        refine zW.go 2 51 [(2, 3), (0, r5), (9, 0), (9, 0), (9, 0), (9, 0)] [(0, 2), (2, 3)] _ rfl ?_
        refine w_calli (as := [(2, 3), (0, 2)]) [] 54 rfl rfl rfl rfl (Nat.le_of_ble_eq_true rfl) (Nat.le_of_ble_eq_true rfl) (Nat.le_of_ble_eq_true rfl) (Or.inr rfl) (Ci.imp h (fun r11 mem12 h => ?_))
        exact h (9, 0) (9, 0) (9, 0) (9, 0)
      · have h := h.2.2 c10
        refine zW.go 2 54 [(2, 3), (0, r5), (9, 0), (9, 0), (9, 0), (9, 0)] [(0, (-1))] _ rfl ?_
        exact h (9, 0) (9, 0) (9, 0) (9, 0)
  · have h := h.2.2 c3
    refine zW.go 2 14 [(2, 3), (9, 0), (9, 0), (9, 0), (9, 0), (9, 0)] [(0, 6), (2, 3)] _ rfl ?_
    refine w_calli (as := [(2, 3), (0, 6)]) [] 17 rfl rfl rfl rfl (Nat.le_of_ble_eq_true rfl) (Nat.le_of_ble_eq_true rfl) (Nat.le_of_ble_eq_true rfl) (Or.inr rfl) (Ci.imp h (fun r13 mem14 h => ?_))
    exact w_retz rfl rfl h.1 h.2
def L_parser_readRule_62 (X : zX) (d : Nat) (rf : zF) (Q : Int → zF → Prop) (mem : zF) (p : Nat) (x1 : Int) (s0 : Int) : Prop := ∀ z2 : zV, zW X (d + 1) 35 62 [(2, 3), (0, x1), z2] [(0, s0)] (zty, rf, mem) (qi rf Q)
set_option maxRecDepth 4000 in
theorem s_parser_readRule_62 {X : zX} {d : Nat} {rf mem : zF} {Q : Int → zF → Prop} (hR : zall rf zRK = true) {p : Nat} (hp : zPln rf p) (hpl : rf 3 1 = ((p : Nat) : Int)) {x1 : Int} {s0 : Int} (h : Cv X d 76 [(2, ((p + 9 : Nat) : Int)), (0, x1)] rf mem (fun mem13 => (s0 = 0 ∨ s0 = 1) ∧ Q s0 mem13)) : L_parser_readRule_62 X d rf Q mem p x1 s0 := by
  intro z2
  refine zW.go 2 64 [(2, 3), (0, x1), (0, s0)] [(2, 3)] _ rfl ?_
  refine w_getL (q := 3) (v := ((p : Nat) : Int)) rfl (by decide) (pc' := 67) rfl ⟨by decide, rfl⟩ rfl rfl hpl ?_
  refine w_getL (q := p) (v := ((p + 9 : Nat) : Int)) rfl (by decide) (pc' := 70) rfl ⟨Int.natCast_nonneg _, rfl⟩ (zPln_t0 hp) rfl (zPln_r0_14 hp) ?_
  refine zW.go 1 71 [(2, 3), (0, x1), (0, s0)] [(0, x1), (2, ((p + 9 : Nat) : Int))] _ rfl ?_
  refine w_callv (as := [(2, ((p + 9 : Nat) : Int)), (0, x1)]) [] 74 rfl rfl rfl rfl (Nat.le_of_ble_eq_true rfl) (Nat.le_of_ble_eq_true rfl) (Nat.le_of_ble_eq_true rfl) (Or.inr (zrcv_o (zPln_t9 hp))) (Cv.imp h (fun mem13 h => ?_))
  refine zW.go 1 75 [(2, 3), (0, x1), (0, s0)] [(0, s0)] _ rfl ?_
  exact w_retz rfl rfl h.1 h.2
set_option maxRecDepth 4000 in
theorem s_parser_readRule {X : zX} {d : Nat} {rf mem : zF} {Q : Int → zF → Prop} (hR : zall rf zRK = true) {p : Nat} (hp : zPln rf p) (hpl : rf 3 1 = ((p : Nat) : Int)) {x1 : Int} (h : Ci X d 74 [(2, ((p + 9 : Nat) : Int)), (0, x1)] rf mem (fun r1 mem2 => (inI r1) ∧ ((r1 = 0 → Cv X d 132 [(2, 4)] rf mem2 (fun mem4 => Cv X d 75 [(2, ((p + 9 : Nat) : Int)), (0, x1)] rf (zup mem4 3 2 x1) (fun mem5 => (inI x1) ∧ ((¬ x1 = 1 → Ci X d 43 [(2, 3), (0, 0)] rf mem5 (fun r7 mem8 => L_parser_readRule_62 X d rf Q mem8 p x1 r7)) ∧ (x1 = 1 → Ci X d 53 [(2, 3), (0, 0)] rf mem5 (fun r9 mem10 => L_parser_readRule_62 X d rf Q mem10 p x1 r9)))))) ∧ (¬ r1 = 0 → Ci X d 26 [(2, 3), (0, 6)] rf mem2 (fun r11 mem12 => (r11 = 0 ∨ r11 = 1) ∧ Q r11 mem12))))) : Ci X (d + 1) 35 [(2, 3), (0, x1)] rf mem Q := by
  show zW X (d + 1) 35 0 [(2, 3), (0, x1), (9, 0)] [] (zty, rf, mem) (qi rf Q)
  refine zW.go 1 1 [(2, 3), (0, x1), (9, 0)] [(2, 3)] _ rfl ?_
  refine w_getL (q := 3) (v := ((p : Nat) : Int)) rfl (by decide) (pc' := 4) rfl ⟨by decide, rfl⟩ rfl rfl hpl ?_
  refine w_getL (q := p) (v := ((p + 9 : Nat) : Int)) rfl (by decide) (pc' := 7) rfl ⟨Int.natCast_nonneg _, rfl⟩ (zPln_t0 hp) rfl (zPln_r0_14 hp) ?_
  refine zW.go 1 8 [(2, 3), (0, x1), (9, 0)] [(0, x1), (2, ((p + 9 : Nat) : Int))] _ rfl ?_
  refine w_calli (as := [(2, ((p + 9 : Nat) : Int)), (0, x1)]) [] 11 rfl rfl rfl rfl (Nat.le_of_ble_eq_true rfl) (Nat.le_of_ble_eq_true rfl) (Nat.le_of_ble_eq_true rfl) (Or.inr (zrcv_o (zPln_t9 hp))) (Ci.imp h (fun r1 mem2 h => ?_))
  refine w_if_eq rfl (by decide) (pc' := 14) rfl h.1 (fun c3 => ?_) (fun c3 => ?_)
  · have h := h.2.1 c3
    refine zW.go 1 22 [(2, 3), (0, x1), (9, 0)] [(2, 3)] _ rfl ?_
    refine w_getL (q := 3) (v := 4) rfl (by decide) (pc' := 25) rfl ⟨by decide, rfl⟩ rfl rfl (zall_at hR (by decide)) ?_
    refine w_callv (as := [(2, 4)]) [] 28 rfl rfl rfl rfl (Nat.le_of_ble_eq_true rfl) (Nat.le_of_ble_eq_true rfl) (Nat.le_of_ble_eq_true rfl) (Or.inr rfl) (Cv.imp h (fun mem4 h => ?_))
    refine zW.go 2 30 [(2, 3), (0, x1), (9, 0)] [(0, x1), (2, 3)] _ rfl ?_
    refine w_putI (q := 3) rfl (by decide) (pc' := 33) rfl ⟨by decide, rfl⟩ rfl (by decide) ?_
    refine zW.go 1 34 [(2, 3), (0, x1), (9, 0)] [(2, 3)] _ rfl ?_
    refine w_getL (q := 3) (v := ((p : Nat) : Int)) rfl (by decide) (pc' := 37) rfl ⟨by decide, rfl⟩ rfl rfl hpl ?_
    refine w_getL (q := p) (v := ((p + 9 : Nat) : Int)) rfl (by decide) (pc' := 40) rfl ⟨Int.natCast_nonneg _, rfl⟩ (zPln_t0 hp) rfl (zPln_r0_14 hp) ?_
    refine zW.go 1 41 [(2, 3), (0, x1), (9, 0)] [(0, x1), (2, ((p + 9 : Nat) : Int))] _ rfl ?_
    refine w_callv (as := [(2, ((p + 9 : Nat) : Int)), (0, x1)]) [] 44 rfl rfl rfl rfl (Nat.le_of_ble_eq_true rfl) (Nat.le_of_ble_eq_true rfl) (Nat.le_of_ble_eq_true rfl) (Or.inr (zrcv_o (zPln_t9 hp))) (Cv.imp h (fun mem5 h => ?_))
    refine zW.go 2 46 [(2, 3), (0, x1), (9, 0)] [(0, 1), (0, x1)] _ rfl ?_
    refine w_ic_ne rfl (by decide) (pc' := 49) rfl ⟨h.1, by decide⟩ (fun c6 => ?_) (fun c6 => ?_)
    · have h := h.2.1 c6
      refine zW.go 2 59 [(2, 3), (0, x1), (9, 0)] [(0, 0), (2, 3)] _ rfl ?_
      refine w_calli (as := [(2, 3), (0, 0)]) [] 62 rfl rfl rfl rfl (Nat.le_of_ble_eq_true rfl) (Nat.le_of_ble_eq_true rfl) (Nat.le_of_ble_eq_true rfl) (Or.inr rfl) (Ci.imp h (fun r7 mem8 h => ?_))
      exact h (9, 0)
    · have h := h.2.2 c6
      refine zW.go 2 51 [(2, 3), (0, x1), (9, 0)] [(0, 0), (2, 3)] _ rfl ?_
      refine w_calli (as := [(2, 3), (0, 0)]) [] 54 rfl rfl rfl rfl (Nat.le_of_ble_eq_true rfl) (Nat.le_of_ble_eq_true rfl) (Nat.le_of_ble_eq_true rfl) (Or.inr rfl) (Ci.imp h (fun r9 mem10 h => ?_))
      refine zW.go 1 62 [(2, 3), (0, x1), (9, 0)] [(0, r9)] _ rfl ?_
      exact h (9, 0)
  · have h := h.2.2 c3
    refine zW.go 2 17 [(2, 3), (0, x1), (9, 0)] [(0, 6), (2, 3)] _ rfl ?_
    refine w_calli (as := [(2, 3), (0, 6)]) [] 20 rfl rfl rfl rfl (Nat.le_of_ble_eq_true rfl) (Nat.le_of_ble_eq_true rfl) (Nat.le_of_ble_eq_true rfl) (Or.inr rfl) (Ci.imp h (fun r11 mem12 h => ?_))
    exact w_retz rfl rfl h.1 h.2
set_option maxRecDepth 4000 in
theorem s_parser_readSign {X : zX} {d : Nat} {rf mem : zF} {Q : Int → zF → Prop} (hR : zall rf zRK = true) {p : Nat} (hp : zPln rf p) (hpl : rf 3 1 = ((p : Nat) : Int)) {x1 : Int} (h : Ci X d 133 [(2, 4), (0, x1)] rf mem (fun r1 mem2 => (inI r1) ∧ ((¬ r1 = 0 → Cv X d 132 [(2, 4)] rf mem2 (fun mem4 => Q 1 mem4)) ∧ (r1 = 0 → Ci X d 26 [(2, 3), (0, 1)] rf mem2 (fun r5 mem6 => (r5 = 0 ∨ r5 = 1) ∧ Q r5 mem6))))) : Ci X (d + 1) 36 [(2, 3), (0, x1)] rf mem Q := by
  show zW X (d + 1) 36 0 [(2, 3), (0, x1)] [] (zty, rf, mem) (qi rf Q)
  refine zW.go 1 1 [(2, 3), (0, x1)] [(2, 3)] _ rfl ?_
  refine w_getL (q := 3) (v := 4) rfl (by decide) (pc' := 4) rfl ⟨by decide, rfl⟩ rfl rfl (zall_at hR (by decide)) ?_
  refine zW.go 1 5 [(2, 3), (0, x1)] [(0, x1), (2, 4)] _ rfl ?_
  refine w_calli (as := [(2, 4), (0, x1)]) [] 8 rfl rfl rfl rfl (Nat.le_of_ble_eq_true rfl) (Nat.le_of_ble_eq_true rfl) (Nat.le_of_ble_eq_true rfl) (Or.inr rfl) (Ci.imp h (fun r1 mem2 h => ?_))
  refine w_if_ne rfl (by decide) (pc' := 11) rfl h.1 (fun c3 => ?_) (fun c3 => ?_)
  · have h := h.2.1 c3
    refine zW.go 1 18 [(2, 3), (0, x1)] [(2, 3)] _ rfl ?_
    refine w_getL (q := 3) (v := 4) rfl (by decide) (pc' := 21) rfl ⟨by decide, rfl⟩ rfl rfl (zall_at hR (by decide)) ?_
    refine w_callv (as := [(2, 4)]) [] 24 rfl rfl rfl rfl (Nat.le_of_ble_eq_true rfl) (Nat.le_of_ble_eq_true rfl) (Nat.le_of_ble_eq_true rfl) (Or.inr rfl) (Cv.imp h (fun mem4 h => ?_))
    refine zW.go 1 25 [(2, 3), (0, x1)] [(0, 1)] _ rfl ?_
    exact w_retz rfl rfl (by decide) h
  · have h := h.2.2 c3
    refine zW.go 2 13 [(2, 3), (0, x1)] [(0, 1), (2, 3)] _ rfl ?_
    refine w_calli (as := [(2, 3), (0, 1)]) [] 16 rfl rfl rfl rfl (Nat.le_of_ble_eq_true rfl) (Nat.le_of_ble_eq_true rfl) (Nat.le_of_ble_eq_true rfl) (Or.inr rfl) (Ci.imp h (fun r5 mem6 h => ?_))
    exact w_retz rfl rfl h.1 h.2
set_option maxRecDepth 4000 in
theorem s_parser_readWord {X : zX} {d : Nat} {rf mem : zF} {Q : Int → zF → Prop} (hR : zall rf zRK = true) {p : Nat} (hp : zPln rf p) (hpl : rf 3 1 = ((p : Nat) : Int)) {x1 : Int} (h : (inI (mem 4 8) ∧ inI x1) ∧ (((mem 4 8) = x1 → Cv X d 132 [(2, 4)] rf mem (fun mem2 => Q 1 mem2)) ∧ (¬ (mem 4 8) = x1 → Ci X d 26 [(2, 3), (0, 1)] rf mem (fun r3 mem4 => (r3 = 0 ∨ r3 = 1) ∧ Q r3 mem4)))) : Ci X (d + 1) 37 [(2, 3), (0, x1)] rf mem Q := by
  show zW X (d + 1) 37 0 [(2, 3), (0, x1)] [] (zty, rf, mem) (qi rf Q)
  refine zW.go 1 1 [(2, 3), (0, x1)] [(2, 3)] _ rfl ?_
  refine w_getL (q := 3) (v := 4) rfl (by decide) (pc' := 4) rfl ⟨by decide, rfl⟩ rfl rfl (zall_at hR (by decide)) ?_
  refine w_getI (q := 4) rfl (by decide) (pc' := 7) rfl ⟨by decide, rfl⟩ rfl (by decide) ?_
  refine zW.go 1 8 [(2, 3), (0, x1)] [(0, x1), (0, (mem 4 8))] _ rfl ?_
  refine w_ic_eq rfl (by decide) (pc' := 11) rfl h.1 (fun c1 => ?_) (fun c1 => ?_)
  · have h := h.2.1 c1
    refine zW.go 1 18 [(2, 3), (0, x1)] [(2, 3)] _ rfl ?_
    refine w_getL (q := 3) (v := 4) rfl (by decide) (pc' := 21) rfl ⟨by decide, rfl⟩ rfl rfl (zall_at hR (by decide)) ?_
    refine w_callv (as := [(2, 4)]) [] 24 rfl rfl rfl rfl (Nat.le_of_ble_eq_true rfl) (Nat.le_of_ble_eq_true rfl) (Nat.le_of_ble_eq_true rfl) (Or.inr rfl) (Cv.imp h (fun mem2 h => ?_))
    refine zW.go 1 25 [(2, 3), (0, x1)] [(0, 1)] _ rfl ?_
    exact w_retz rfl rfl (by decide) h
  · have h := h.2.2 c1
    refine zW.go 2 13 [(2, 3), (0, x1)] [(0, 1), (2, 3)] _ rfl ?_
    refine w_calli (as := [(2, 3), (0, 1)]) [] 16 rfl rfl rfl rfl (Nat.le_of_ble_eq_true rfl) (Nat.le_of_ble_eq_true rfl) (Nat.le_of_ble_eq_true rfl) (Or.inr rfl) (Ci.imp h (fun r3 mem4 h => ?_))
    exact w_retz rfl rfl h.1 h.2
def L_parser_readNewName_36 (X : zX) (d : Nat) (rf : zF) (Q : Int → zF → Prop) (mem : zF) (p : Nat) (x1 : Int) (x2 : Int) (s0 : Int) : Prop := ∀ z3 : zV, zW X (d + 1) 38 36 [(2, 3), (0, x1), (0, x2), z3] [(0, s0)] (zty, rf, mem) (qi rf Q)
def L_parser_readNewName_45 (X : zX) (d : Nat) (rf : zF) (Q : Int → zF → Prop) (mem : zF) (p : Nat) (x3 : Int) : Prop := ∀ z1 : zV, ∀ z2 : zV, zW X (d + 1) 38 45 [(2, 3), z1, z2, (0, x3)] [] (zty, rf, mem) (qi rf Q)
set_option maxRecDepth 4000 in
theorem s_parser_readNewName_36 {X : zX} {d : Nat} {rf mem : zF} {Q : Int → zF → Prop} (hR : zall rf zRK = true) {p : Nat} (hp : zPln rf p) (hpl : rf 3 1 = ((p : Nat) : Int)) {x1 : Int} {x2 : Int} {s0 : Int} (h : (inI x1) ∧ ((x1 = 0 → L_parser_readNewName_45 X d rf Q mem p s0) ∧ (¬ x1 = 0 → (inI s0) ∧ ((s0 = 0 → Cv X d 132 [(2, 4)] rf mem (fun mem11 => Q x2 mem11)) ∧ (¬ s0 = 0 → L_parser_readNewName_45 X d rf Q mem p s0))))) : L_parser_readNewName_36 X d rf Q mem p x1 x2 s0 := by
  intro z3
  refine zW.go 2 38 [(2, 3), (0, x1), (0, x2), (0, s0)] [(0, x1)] _ rfl ?_
  refine w_if_eq rfl (by decide) (pc' := 41) rfl h.1 (fun c9 => ?_) (fun c9 => ?_)
  · have h := h.2.1 c9
    exact h (0, x1) (0, x2)
  · have h := h.2.2 c9
    refine zW.go 1 42 [(2, 3), (0, x1), (0, x2), (0, s0)] [(0, s0)] _ rfl ?_
    refine w_if_eq rfl (by decide) (pc' := 45) rfl h.1 (fun c10 => ?_) (fun c10 => ?_)
    · have h := h.2.1 c10
      refine zW.go 1 62 [(2, 3), (0, x1), (0, x2), (0, s0)] [(2, 3)] _ rfl ?_
      refine w_getL (q := 3) (v := 4) rfl (by decide) (pc' := 65) rfl ⟨by decide, rfl⟩ rfl rfl (zall_at hR (by decide)) ?_
      refine w_callv (as := [(2, 4)]) [] 68 rfl rfl rfl rfl (Nat.le_of_ble_eq_true rfl) (Nat.le_of_ble_eq_true rfl) (Nat.le_of_ble_eq_true rfl) (Or.inr rfl) (Cv.imp h (fun mem11 h => ?_))
      refine zW.go 1 69 [(2, 3), (0, x1), (0, x2), (0, s0)] [(0, x2)] _ rfl ?_
      exact w_reti rfl rfl h
    · have h := h.2.2 c10
      exact h (0, x1) (0, x2)
set_option maxRecDepth 4000 in
theorem s_parser_readNewName_45 {X : zX} {d : Nat} {rf mem : zF} {Q : Int → zF → Prop} (hR : zall rf zRK = true) {p : Nat} (hp : zPln rf p) (hpl : rf 3 1 = ((p : Nat) : Int)) {x3 : Int} (h : (inI x3) ∧ ((x3 = 0 → Ci X d 26 [(2, 3), (0, 1)] rf mem (fun r13 mem14 => Q (-1) mem14)) ∧ (¬ x3 = 0 → Ci X d 26 [(2, 3), (0, 2)] rf mem (fun r15 mem16 => Q (-1) mem16)))) : L_parser_readNewName_45 X d rf Q mem p x3 := by
  intro z1 z2
  refine zW.go 2 47 [(2, 3), z1, z2, (0, x3)] [(0, x3), (2, 3)] _ rfl ?_
  refine w_if_eq rfl (by decide) (pc' := 50) rfl h.1 (fun c12 => ?_) (fun c12 => ?_)
  · have h := h.2.1 c12
    refine zW.go 1 55 [(2, 3), z1, z2, (0, x3)] [(0, 1), (2, 3)] _ rfl ?_
    refine w_calli (as := [(2, 3), (0, 1)]) [] 58 rfl rfl rfl rfl (Nat.le_of_ble_eq_true rfl) (Nat.le_of_ble_eq_true rfl) (Nat.le_of_ble_eq_true rfl) (Or.inr rfl) (Ci.imp h (fun r13 mem14 h => ?_))
    refine zW.go 2 60 [(2, 3), z1, z2, (0, x3)] [(0, (-1))] _ rfl ?_
    exact w_reti rfl rfl h
  · have h := h.2.2 c12
    refine zW.go 2 55 [(2, 3), z1, z2, (0, x3)] [(0, 2), (2, 3)] _ rfl ?_
    refine w_calli (as := [(2, 3), (0, 2)]) [] 58 rfl rfl rfl rfl (Nat.le_of_ble_eq_true rfl) (Nat.le_of_ble_eq_true rfl) (Nat.le_of_ble_eq_true rfl) (Or.inr rfl) (Ci.imp h (fun r15 mem16 h => ?_))
    refine zW.go 2 60 [(2, 3), z1, z2, (0, x3)] [(0, (-1))] _ rfl ?_
    exact w_reti rfl rfl h
set_option maxRecDepth 4000 in
theorem s_parser_readNewName {X : zX} {d : Nat} {rf mem : zF} {Q : Int → zF → Prop} (hR : zall rf zRK = true) {p : Nat} (hp : zPln rf p) (hpl : rf 3 1 = ((p : Nat) : Int)) (h : Ci X d 135 [(2, 4)] rf mem (fun r1 mem2 => Ci X d 136 [(2, 4)] rf mem2 (fun r3 mem4 => (inI r1) ∧ ((r1 = 0 → L_parser_readNewName_36 X d rf Q mem4 p r1 r3 0) ∧ (¬ r1 = 0 → Ci X d 67 [(2, ((p : Nat) : Int)), (0, r3)] rf mem4 (fun r6 mem7 => (inI r6) ∧ ((r6 = 0 → L_parser_readNewName_36 X d rf Q mem7 p r1 r3 0) ∧ (¬ r6 = 0 → L_parser_readNewName_36 X d rf Q mem7 p r1 r3 1)))))))) : Ci X (d + 1) 38 [(2, 3)] rf mem Q := by
  show zW X (d + 1) 38 0 [(2, 3), (9, 0), (9, 0), (9, 0)] [] (zty, rf, mem) (qi rf Q)
  refine zW.go 1 1 [(2, 3), (9, 0), (9, 0), (9, 0)] [(2, 3)] _ rfl ?_
  refine w_getL (q := 3) (v := 4) rfl (by decide) (pc' := 4) rfl ⟨by decide, rfl⟩ rfl rfl (zall_at hR (by decide)) ?_
  refine w_calli (as := [(2, 4)]) [] 7 rfl rfl rfl rfl (Nat.le_of_ble_eq_true rfl) (Nat.le_of_ble_eq_true rfl) (Nat.le_of_ble_eq_true rfl) (Or.inr rfl) (Ci.imp h (fun r1 mem2 h => ?_))
  refine zW.go 2 9 [(2, 3), (0, r1), (9, 0), (9, 0)] [(2, 3)] _ rfl ?_
  refine w_getL (q := 3) (v := 4) rfl (by decide) (pc' := 12) rfl ⟨by decide, rfl⟩ rfl rfl (zall_at hR (by decide)) ?_
  refine w_calli (as := [(2, 4)]) [] 15 rfl rfl rfl rfl (Nat.le_of_ble_eq_true rfl) (Nat.le_of_ble_eq_true rfl) (Nat.le_of_ble_eq_true rfl) (Or.inr rfl) (Ci.imp h (fun r3 mem4 h => ?_))
  refine zW.go 2 17 [(2, 3), (0, r1), (0, r3), (9, 0)] [(0, r1)] _ rfl ?_
  refine w_if_eq rfl (by decide) (pc' := 20) rfl h.1 (fun c5 => ?_) (fun c5 => ?_)
  · have h := h.2.1 c5
    refine zW.go 1 36 [(2, 3), (0, r1), (0, r3), (9, 0)] [(0, 0)] _ rfl ?_
    exact h (9, 0)
  · have h := h.2.2 c5
    refine zW.go 1 21 [(2, 3), (0, r1), (0, r3), (9, 0)] [(2, 3)] _ rfl ?_
    refine w_getL (q := 3) (v := ((p : Nat) : Int)) rfl (by decide) (pc' := 24) rfl ⟨by decide, rfl⟩ rfl rfl hpl ?_
    refine zW.go 1 25 [(2, 3), (0, r1), (0, r3), (9, 0)] [(0, r3), (2, ((p : Nat) : Int))] _ rfl ?_
    refine w_calli (as := [(2, ((p : Nat) : Int)), (0, r3)]) [] 28 rfl rfl rfl rfl (Nat.le_of_ble_eq_true rfl) (Nat.le_of_ble_eq_true rfl) (Nat.le_of_ble_eq_true rfl) (Or.inr (zrcv_o (zPln_t0 hp))) (Ci.imp h (fun r6 mem7 h => ?_))
    refine w_if_eq rfl (by decide) (pc' := 31) rfl h.1 (fun c8 => ?_) (fun c8 => ?_)
    · have h := h.2.1 c8
      refine zW.go 1 36 [(2, 3), (0, r1), (0, r3), (9, 0)] [(0, 0)] _ rfl ?_
      exact h (9, 0)
    · have h := h.2.2 c8
      refine zW.go 2 36 [(2, 3), (0, r1), (0, r3), (9, 0)] [(0, 1)] _ rfl ?_
      exact h (9, 0)
def L_parser_numberHere_34 (X : zX) (d : Nat) (rf : zF) (Q : Int → zF → Prop) (mem : zF) (p : Nat) (x3 : Int) : Prop := ∀ z1 : zV, ∀ z2 : zV, zW X (d + 1) 39 34 [(2, 3), z1, z2, (0, x3)] [] (zty, rf, mem) (qi rf Q)
set_option maxRecDepth 4000 in
theorem s_parser_numberHere_34 {X : zX} {d : Nat} {rf mem : zF} {Q : Int → zF → Prop} (hR : zall rf zRK = true) {p : Nat} (hp : zPln rf p) (hpl : rf 3 1 = ((p : Nat) : Int)) {x3 : Int} (h : (inI x3) ∧ ((x3 = 0 → Ci X d 26 [(2, 3), (0, 1)] rf mem (fun r7 mem8 => Q (-1) mem8)) ∧ (¬ x3 = 0 → Ci X d 26 [(2, 3), (0, 4)] rf mem (fun r9 mem10 => Q (-1) mem10)))) : L_parser_numberHere_34 X d rf Q mem p x3 := by
  intro z1 z2
  refine zW.go 2 36 [(2, 3), z1, z2, (0, x3)] [(0, x3), (2, 3)] _ rfl ?_
  refine w_if_eq rfl (by decide) (pc' := 39) rfl h.1 (fun c6 => ?_) (fun c6 => ?_)
  · have h := h.2.1 c6
    refine zW.go 1 44 [(2, 3), z1, z2, (0, x3)] [(0, 1), (2, 3)] _ rfl ?_
    refine w_calli (as := [(2, 3), (0, 1)]) [] 47 rfl rfl rfl rfl (Nat.le_of_ble_eq_true rfl) (Nat.le_of_ble_eq_true rfl) (Nat.le_of_ble_eq_true rfl) (Or.inr rfl) (Ci.imp h (fun r7 mem8 h => ?_))
    refine zW.go 2 49 [(2, 3), z1, z2, (0, x3)] [(0, (-1))] _ rfl ?_
    exact w_reti rfl rfl h
  · have h := h.2.2 c6
    refine zW.go 2 44 [(2, 3), z1, z2, (0, x3)] [(0, 4), (2, 3)] _ rfl ?_
    refine w_calli (as := [(2, 3), (0, 4)]) [] 47 rfl rfl rfl rfl (Nat.le_of_ble_eq_true rfl) (Nat.le_of_ble_eq_true rfl) (Nat.le_of_ble_eq_true rfl) (Or.inr rfl) (Ci.imp h (fun r9 mem10 h => ?_))
    refine zW.go 2 49 [(2, 3), z1, z2, (0, x3)] [(0, (-1))] _ rfl ?_
    exact w_reti rfl rfl h
set_option maxRecDepth 4000 in
theorem s_parser_numberHere {X : zX} {d : Nat} {rf mem : zF} {Q : Int → zF → Prop} (hR : zall rf zRK = true) {p : Nat} (hp : zPln rf p) (hpl : rf 3 1 = ((p : Nat) : Int)) {x1 : Int} {x2 : Int} (h : Ci X d 134 [(2, 4)] rf mem (fun r1 mem2 => (inI r1) ∧ ((r1 = 0 → L_parser_numberHere_34 X d rf Q mem2 p r1) ∧ (¬ r1 = 0 → (inI (mem2 4 8) ∧ inI x1) ∧ (((mem2 4 8) < x1 → L_parser_numberHere_34 X d rf Q mem2 p r1) ∧ (¬ (mem2 4 8) < x1 → (inI (mem2 4 8) ∧ inI x2) ∧ (((mem2 4 8) ≤ x2 → Q (mem2 4 8) mem2) ∧ (¬ (mem2 4 8) ≤ x2 → L_parser_numberHere_34 X d rf Q mem2 p r1)))))))) : Ci X (d + 1) 39 [(2, 3), (0, x1), (0, x2)] rf mem Q := by
  show zW X (d + 1) 39 0 [(2, 3), (0, x1), (0, x2), (9, 0)] [] (zty, rf, mem) (qi rf Q)
  refine zW.go 1 1 [(2, 3), (0, x1), (0, x2), (9, 0)] [(2, 3)] _ rfl ?_
  refine w_getL (q := 3) (v := 4) rfl (by decide) (pc' := 4) rfl ⟨by decide, rfl⟩ rfl rfl (zall_at hR (by decide)) ?_
  refine w_calli (as := [(2, 4)]) [] 7 rfl rfl rfl rfl (Nat.le_of_ble_eq_true rfl) (Nat.le_of_ble_eq_true rfl) (Nat.le_of_ble_eq_true rfl) (Or.inr rfl) (Ci.imp h (fun r1 mem2 h => ?_))
  refine zW.go 2 9 [(2, 3), (0, x1), (0, x2), (0, r1)] [(0, r1)] _ rfl ?_
  refine w_if_eq rfl (by decide) (pc' := 12) rfl h.1 (fun c3 => ?_) (fun c3 => ?_)
  · have h := h.2.1 c3
    exact h (0, x1) (0, x2)
  · have h := h.2.2 c3
    refine zW.go 1 13 [(2, 3), (0, x1), (0, x2), (0, r1)] [(2, 3)] _ rfl ?_
    refine w_getL (q := 3) (v := 4) rfl (by decide) (pc' := 16) rfl ⟨by decide, rfl⟩ rfl rfl (zall_at hR (by decide)) ?_
    refine w_getI (q := 4) rfl (by decide) (pc' := 19) rfl ⟨by decide, rfl⟩ rfl (by decide) ?_
    refine zW.go 1 20 [(2, 3), (0, x1), (0, x2), (0, r1)] [(0, x1), (0, (mem2 4 8))] _ rfl ?_
    refine w_ic_lt rfl (by decide) (pc' := 23) rfl h.1 (fun c4 => ?_) (fun c4 => ?_)
    · have h := h.2.1 c4
      exact h (0, x1) (0, x2)
    · have h := h.2.2 c4
      refine zW.go 1 24 [(2, 3), (0, x1), (0, x2), (0, r1)] [(2, 3)] _ rfl ?_
      refine w_getL (q := 3) (v := 4) rfl (by decide) (pc' := 27) rfl ⟨by decide, rfl⟩ rfl rfl (zall_at hR (by decide)) ?_
      refine w_getI (q := 4) rfl (by decide) (pc' := 30) rfl ⟨by decide, rfl⟩ rfl (by decide) ?_
      refine zW.go 1 31 [(2, 3), (0, x1), (0, x2), (0, r1)] [(0, x2), (0, (mem2 4 8))] _ rfl ?_
      refine w_ic_le rfl (by decide) (pc' := 34) rfl h.1 (fun c5 => ?_) (fun c5 => ?_)
      · have h := h.2.1 c5
        refine zW.go 1 51 [(2, 3), (0, x1), (0, x2), (0, r1)] [(2, 3)] _ rfl ?_
        refine w_getL (q := 3) (v := 4) rfl (by decide) (pc' := 54) rfl ⟨by decide, rfl⟩ rfl rfl (zall_at hR (by decide)) ?_
        refine w_getI (q := 4) rfl (by decide) (pc' := 57) rfl ⟨by decide, rfl⟩ rfl (by decide) ?_
        exact w_reti rfl rfl h
      · have h := h.2.2 c5
        exact h (0, x1) (0, x2)
set_option maxRecDepth 4000 in
theorem s_parser_readNumber {X : zX} {d : Nat} {rf mem : zF} {Q : Int → zF → Prop} (hR : zall rf zRK = true) {p : Nat} (hp : zPln rf p) (hpl : rf 3 1 = ((p : Nat) : Int)) {x1 : Int} {x2 : Int} (h : Ci X d 39 [(2, 3), (0, x1), (0, x2)] rf mem (fun r1 mem2 => (inI r1) ∧ ((r1 = (-1) → Q r1 mem2) ∧ (¬ r1 = (-1) → Cv X d 132 [(2, 4)] rf mem2 (fun mem4 => Q r1 mem4))))) : Ci X (d + 1) 40 [(2, 3), (0, x1), (0, x2)] rf mem Q := by
  show zW X (d + 1) 40 0 [(2, 3), (0, x1), (0, x2), (9, 0)] [] (zty, rf, mem) (qi rf Q)
  refine zW.go 3 3 [(2, 3), (0, x1), (0, x2), (9, 0)] [(0, x2), (0, x1), (2, 3)] _ rfl ?_
  refine w_calli (as := [(2, 3), (0, x1), (0, x2)]) [] 6 rfl rfl rfl rfl (Nat.le_of_ble_eq_true rfl) (Nat.le_of_ble_eq_true rfl) (Nat.le_of_ble_eq_true rfl) (Or.inr rfl) (Ci.imp h (fun r1 mem2 h => ?_))
  refine zW.go 3 9 [(2, 3), (0, x1), (0, x2), (0, r1)] [(0, (-1)), (0, r1)] _ rfl ?_
  refine w_ic_eq rfl (by decide) (pc' := 12) rfl ⟨h.1, by decide⟩ (fun c3 => ?_) (fun c3 => ?_)
  · have h := h.2.1 c3
    refine zW.go 1 20 [(2, 3), (0, x1), (0, x2), (0, r1)] [(0, r1)] _ rfl ?_
    exact w_reti rfl rfl h
  · have h := h.2.2 c3
    refine zW.go 1 13 [(2, 3), (0, x1), (0, x2), (0, r1)] [(2, 3)] _ rfl ?_
    refine w_getL (q := 3) (v := 4) rfl (by decide) (pc' := 16) rfl ⟨by decide, rfl⟩ rfl rfl (zall_at hR (by decide)) ?_
    refine w_callv (as := [(2, 4)]) [] 19 rfl rfl rfl rfl (Nat.le_of_ble_eq_true rfl) (Nat.le_of_ble_eq_true rfl) (Nat.le_of_ble_eq_true rfl) (Or.inr rfl) (Cv.imp h (fun mem4 h => ?_))
    refine zW.go 1 20 [(2, 3), (0, x1), (0, x2), (0, r1)] [(0, r1)] _ rfl ?_
    exact w_reti rfl rfl h
set_option maxRecDepth 4000 in
theorem s_parser_readNumberBehind {X : zX} {d : Nat} {rf mem : zF} {Q : Int → zF → Prop} (hR : zall rf zRK = true) {p : Nat} (hp : zPln rf p) (hpl : rf 3 1 = ((p : Nat) : Int)) {x1 : Int} {x2 : Int} {x3 : Int} (h : Ci X d 37 [(2, 3), (0, x1)] rf mem (fun r1 mem2 => (inI r1) ∧ ((r1 = 0 → Q (-1) mem2) ∧ (¬ r1 = 0 → Ci X d 40 [(2, 3), (0, x2), (0, x3)] rf mem2 (fun r4 mem5 => Q r4 mem5))))) : Ci X (d + 1) 41 [(2, 3), (0, x1), (0, x2), (0, x3)] rf mem Q := by
  show zW X (d + 1) 41 0 [(2, 3), (0, x1), (0, x2), (0, x3)] [] (zty, rf, mem) (qi rf Q)
  refine zW.go 2 2 [(2, 3), (0, x1), (0, x2), (0, x3)] [(0, x1), (2, 3)] _ rfl ?_
  refine w_calli (as := [(2, 3), (0, x1)]) [] 5 rfl rfl rfl rfl (Nat.le_of_ble_eq_true rfl) (Nat.le_of_ble_eq_true rfl) (Nat.le_of_ble_eq_true rfl) (Or.inr rfl) (Ci.imp h (fun r1 mem2 h => ?_))
  refine w_if_eq rfl (by decide) (pc' := 8) rfl h.1 (fun c3 => ?_) (fun c3 => ?_)
  · have h := h.2.1 c3
    refine zW.go 1 18 [(2, 3), (0, x1), (0, x2), (0, x3)] [(0, (-1))] _ rfl ?_
    exact w_reti rfl rfl h
  · have h := h.2.2 c3
    refine zW.go 3 11 [(2, 3), (0, x1), (0, x2), (0, x3)] [(0, x3), (0, x2), (2, 3)] _ rfl ?_
    refine w_calli (as := [(2, 3), (0, x2), (0, x3)]) [] 14 rfl rfl rfl rfl (Nat.le_of_ble_eq_true rfl) (Nat.le_of_ble_eq_true rfl) (Nat.le_of_ble_eq_true rfl) (Or.inr rfl) (Ci.imp h (fun r4 mem5 h => ?_))
    refine zW.go 1 18 [(2, 3), (0, x1), (0, x2), (0, x3)] [(0, r4)] _ rfl ?_
    exact w_reti rfl rfl h
def L_parser_readCell_38 (X : zX) (d : Nat) (rf : zF) (Q : Int → zF → Prop) (mem : zF) (p : Nat) (x1 : Int) (x2 : Int) (s0 : Int) : Prop := ∀ z3 : zV, ∀ z4 : zV, zW X (d + 1) 42 38 [(2, 3), (0, x1), (0, x2), z3, z4] [(0, s0)] (zty, rf, mem) (qi rf Q)
set_option maxRecDepth 4000 in
theorem s_parser_readCell_38 {X : zX} {d : Nat} {rf mem : zF} {Q : Int → zF → Prop} (hR : zall rf zRK = true) {p : Nat} (hp : zPln rf p) (hpl : rf 3 1 = ((p : Nat) : Int)) {x1 : Int} {x2 : Int} {s0 : Int} (h : (inI s0) ∧ ((¬ s0 = (-1) → Ci X d 69 [(2, ((p : Nat) : Int)), (0, x2), (0, s0)] rf mem (fun r7 mem8 => Ci X d 68 [(2, ((p : Nat) : Int)), (0, x1), (0, r7)] rf mem8 (fun r9 mem10 => (inI r9) ∧ ((r9 = 0 → Cv X d 132 [(2, 4)] rf mem10 (fun mem12 => Q r7 mem12)) ∧ (¬ r9 = 0 → Ci X d 26 [(2, 3), (0, 4)] rf mem10 (fun r13 mem14 => Q (-1) mem14)))))) ∧ (s0 = (-1) → Q (-1) mem))) : L_parser_readCell_38 X d rf Q mem p x1 x2 s0 := by
  intro z3 z4
  refine zW.go 3 41 [(2, 3), (0, x1), (0, x2), (0, s0), z4] [(0, (-1)), (0, s0)] _ rfl ?_
  refine w_ic_ne rfl (by decide) (pc' := 44) rfl ⟨h.1, by decide⟩ (fun c6 => ?_) (fun c6 => ?_)
  · have h := h.2.1 c6
    refine zW.go 1 47 [(2, 3), (0, x1), (0, x2), (0, s0), z4] [(2, 3)] _ rfl ?_
    refine w_getL (q := 3) (v := ((p : Nat) : Int)) rfl (by decide) (pc' := 50) rfl ⟨by decide, rfl⟩ rfl rfl hpl ?_
    refine zW.go 2 52 [(2, 3), (0, x1), (0, x2), (0, s0), z4] [(0, s0), (0, x2), (2, ((p : Nat) : Int))] _ rfl ?_
    refine w_calli (as := [(2, ((p : Nat) : Int)), (0, x2), (0, s0)]) [] 55 rfl rfl rfl rfl (Nat.le_of_ble_eq_true rfl) (Nat.le_of_ble_eq_true rfl) (Nat.le_of_ble_eq_true rfl) (Or.inr (zrcv_o (zPln_t0 hp))) (Ci.imp h (fun r7 mem8 h => ?_))
    refine zW.go 2 58 [(2, 3), (0, x1), (0, x2), (0, s0), (0, r7)] [(2, 3)] _ rfl ?_
    refine w_getL (q := 3) (v := ((p : Nat) : Int)) rfl (by decide) (pc' := 61) rfl ⟨by decide, rfl⟩ rfl rfl hpl ?_
    refine zW.go 2 64 [(2, 3), (0, x1), (0, x2), (0, s0), (0, r7)] [(0, r7), (0, x1), (2, ((p : Nat) : Int))] _ rfl ?_
    refine w_calli (as := [(2, ((p : Nat) : Int)), (0, x1), (0, r7)]) [] 67 rfl rfl rfl rfl (Nat.le_of_ble_eq_true rfl) (Nat.le_of_ble_eq_true rfl) (Nat.le_of_ble_eq_true rfl) (Or.inr (zrcv_o (zPln_t0 hp))) (Ci.imp h (fun r9 mem10 h => ?_))
    refine w_if_eq rfl (by decide) (pc' := 70) rfl h.1 (fun c11 => ?_) (fun c11 => ?_)
    · have h := h.2.1 c11
      refine zW.go 1 79 [(2, 3), (0, x1), (0, x2), (0, s0), (0, r7)] [(2, 3)] _ rfl ?_
      refine w_getL (q := 3) (v := 4) rfl (by decide) (pc' := 82) rfl ⟨by decide, rfl⟩ rfl rfl (zall_at hR (by decide)) ?_
      refine w_callv (as := [(2, 4)]) [] 85 rfl rfl rfl rfl (Nat.le_of_ble_eq_true rfl) (Nat.le_of_ble_eq_true rfl) (Nat.le_of_ble_eq_true rfl) (Or.inr rfl) (Cv.imp h (fun mem12 h => ?_))
      refine zW.go 1 87 [(2, 3), (0, x1), (0, x2), (0, s0), (0, r7)] [(0, r7)] _ rfl ?_
      exact w_reti rfl rfl h
    · have h := h.2.2 c11
      refine zW.go 2 72 [(2, 3), (0, x1), (0, x2), (0, s0), (0, r7)] [(0, 4), (2, 3)] _ rfl ?_
      refine w_calli (as := [(2, 3), (0, 4)]) [] 75 rfl rfl rfl rfl (Nat.le_of_ble_eq_true rfl) (Nat.le_of_ble_eq_true rfl) (Nat.le_of_ble_eq_true rfl) (Or.inr rfl) (Ci.imp h (fun r13 mem14 h => ?_))
      refine zW.go 2 77 [(2, 3), (0, x1), (0, x2), (0, s0), (0, r7)] [(0, (-1))] _ rfl ?_
      exact w_reti rfl rfl h
  · have h := h.2.2 c6
    refine zW.go 1 45 [(2, 3), (0, x1), (0, x2), (0, s0), z4] [(0, (-1))] _ rfl ?_
    exact w_reti rfl rfl h
set_option maxRecDepth 4000 in
theorem s_parser_readCell {X : zX} {d : Nat} {rf mem : zF} {Q : Int → zF → Prop} (hR : zall rf zRK = true) {p : Nat} (hp : zPln rf p) (hpl : rf 3 1 = ((p : Nat) : Int)) {x1 : Int} (h : Ci X d 40 [(2, 3), (0, 0), (0, ((mem p 1) - 1))] rf mem (fun r1 mem2 => (inI r1) ∧ ((¬ r1 = (-1) → Ci X d 39 [(2, 3), (0, 0), (0, ((mem2 p 2) - 1))] rf mem2 (fun r4 mem5 => L_parser_readCell_38 X d rf Q mem5 p x1 r1 r4)) ∧ (r1 = (-1) → L_parser_readCell_38 X d rf Q mem2 p x1 r1 (-1))))) : Ci X (d + 1) 42 [(2, 3), (0, x1)] rf mem Q := by
  show zW X (d + 1) 42 0 [(2, 3), (0, x1), (9, 0), (9, 0), (9, 0)] [] (zty, rf, mem) (qi rf Q)
  refine zW.go 3 3 [(2, 3), (0, x1), (9, 0), (9, 0), (9, 0)] [(2, 3), (0, 0), (2, 3)] _ rfl ?_
  refine w_getL (q := 3) (v := ((p : Nat) : Int)) rfl (by decide) (pc' := 6) rfl ⟨by decide, rfl⟩ rfl rfl hpl ?_
  refine w_getI (q := p) rfl (by decide) (pc' := 9) rfl ⟨Int.natCast_nonneg _, rfl⟩ (zPln_t0 hp) (by decide) ?_
  refine zW.go 2 11 [(2, 3), (0, x1), (9, 0), (9, 0), (9, 0)] [(0, ((mem p 1) - 1)), (0, 0), (2, 3)] _ rfl ?_
  refine w_calli (as := [(2, 3), (0, 0), (0, ((mem p 1) - 1))]) [] 14 rfl rfl rfl rfl (Nat.le_of_ble_eq_true rfl) (Nat.le_of_ble_eq_true rfl) (Nat.le_of_ble_eq_true rfl) (Or.inr rfl) (Ci.imp h (fun r1 mem2 h => ?_))
  refine zW.go 3 17 [(2, 3), (0, x1), (0, r1), (9, 0), (9, 0)] [(0, (-1)), (0, r1)] _ rfl ?_
  refine w_ic_ne rfl (by decide) (pc' := 20) rfl ⟨h.1, by decide⟩ (fun c3 => ?_) (fun c3 => ?_)
  · have h := h.2.1 c3
    refine zW.go 3 27 [(2, 3), (0, x1), (0, r1), (9, 0), (9, 0)] [(2, 3), (0, 0), (2, 3)] _ rfl ?_
    refine w_getL (q := 3) (v := ((p : Nat) : Int)) rfl (by decide) (pc' := 30) rfl ⟨by decide, rfl⟩ rfl rfl hpl ?_
    refine w_getI (q := p) rfl (by decide) (pc' := 33) rfl ⟨Int.natCast_nonneg _, rfl⟩ (zPln_t0 hp) (by decide) ?_
    refine zW.go 2 35 [(2, 3), (0, x1), (0, r1), (9, 0), (9, 0)] [(0, ((mem2 p 2) - 1)), (0, 0), (2, 3)] _ rfl ?_
    refine w_calli (as := [(2, 3), (0, 0), (0, ((mem2 p 2) - 1))]) [] 38 rfl rfl rfl rfl (Nat.le_of_ble_eq_true rfl) (Nat.le_of_ble_eq_true rfl) (Nat.le_of_ble_eq_true rfl) (Or.inr rfl) (Ci.imp h (fun r4 mem5 h => ?_))
    exact h (9, 0) (9, 0)
  · have h := h.2.2 c3
    refine zW.go 2 38 [(2, 3), (0, x1), (0, r1), (9, 0), (9, 0)] [(0, (-1))] _ rfl ?_
    exact h (9, 0) (9, 0)
def L_parser_readSum_8 (X : zX) (d : Nat) (rf : zF) (Q : Int → zF → Prop) (mem : zF) (p : Nat) (x1 : Int) (x2 : Int) (x3 : Int) : Prop := ∀ z4 : zV, zW X (d + 1) 43 8 [(2, 3), (0, x1), (0, x2), (0, x3), z4] [] (zty, rf, mem) (qi rf Q)
set_option maxRecDepth 4000 in
theorem s_parser_readSum_8 {X : zX} {d : Nat} {rf mem : zF} {Q : Int → zF → Prop} (hR : zall rf zRK = true) {p : Nat} (hp : zPln rf p) (hpl : rf 3 1 = ((p : Nat) : Int)) {x1 : Int} {x2 : Int} {x3 : Int} (h : (inI x2) ∧ ((x2 = 0 → (x2 = 0 ∨ x2 = 1) ∧ Q x2 mem) ∧ (¬ x2 = 0 → (inI x3) ∧ ((1600 ≤ x3 → (x2 = 0 ∨ x2 = 1) ∧ Q x2 mem) ∧ (¬ 1600 ≤ x3 → Ci X d 44 [(2, 3)] rf mem (fun r5 mem6 => (inI r5) ∧ ((r5 = 0 → (x2 = 0 ∨ x2 = 1) ∧ Q x2 mem6) ∧ (¬ r5 = 0 → Ci X d 44 [(2, 3)] rf mem6 (fun r8 mem9 => Cv X d 132 [(2, 4)] rf mem9 (fun mem10 => Ci X d 45 [(2, 3), (0, x1)] rf mem10 (fun r11 mem12 => Cv X d 77 [(2, ((p + 9 : Nat) : Int)), (0, r8)] rf mem12 (fun mem13 => L_parser_readSum_8 X d rf Q mem13 p x1 r11 (x3 + 1))))))))))))) : L_parser_readSum_8 X d rf Q mem p x1 x2 x3 := by
  intro z4
  refine zW.go 1 9 [(2, 3), (0, x1), (0, x2), (0, x3), z4] [(0, x2)] _ rfl ?_
  refine w_if_eq rfl (by decide) (pc' := 12) rfl h.1 (fun c3 => ?_) (fun c3 => ?_)
  · have h := h.2.1 c3
    refine zW.go 1 64 [(2, 3), (0, x1), (0, x2), (0, x3), z4] [(0, x2)] _ rfl ?_
    exact w_retz rfl rfl h.1 h.2
  · have h := h.2.2 c3
    refine zW.go 2 16 [(2, 3), (0, x1), (0, x2), (0, x3), z4] [(0, 1600), (0, x3)] _ rfl ?_
    refine w_ic_ge rfl (by decide) (pc' := 19) rfl ⟨h.1, by decide⟩ (fun c4 => ?_) (fun c4 => ?_)
    · have h := h.2.1 c4
      refine zW.go 1 64 [(2, 3), (0, x1), (0, x2), (0, x3), z4] [(0, x2)] _ rfl ?_
      exact w_retz rfl rfl h.1 h.2
    · have h := h.2.2 c4
      refine zW.go 1 20 [(2, 3), (0, x1), (0, x2), (0, x3), z4] [(2, 3)] _ rfl ?_
      refine w_calli (as := [(2, 3)]) [] 23 rfl rfl rfl rfl (Nat.le_of_ble_eq_true rfl) (Nat.le_of_ble_eq_true rfl) (Nat.le_of_ble_eq_true rfl) (Or.inr rfl) (Ci.imp h (fun r5 mem6 h => ?_))
      refine w_if_eq rfl (by decide) (pc' := 26) rfl h.1 (fun c7 => ?_) (fun c7 => ?_)
      · have h := h.2.1 c7
        refine zW.go 1 64 [(2, 3), (0, x1), (0, x2), (0, x3), z4] [(0, x2)] _ rfl ?_
        exact w_retz rfl rfl h.1 h.2
      · have h := h.2.2 c7
        refine zW.go 1 27 [(2, 3), (0, x1), (0, x2), (0, x3), z4] [(2, 3)] _ rfl ?_
        refine w_calli (as := [(2, 3)]) [] 30 rfl rfl rfl rfl (Nat.le_of_ble_eq_true rfl) (Nat.le_of_ble_eq_true rfl) (Nat.le_of_ble_eq_true rfl) (Or.inr rfl) (Ci.imp h (fun r8 mem9 h => ?_))
        refine zW.go 2 33 [(2, 3), (0, x1), (0, x2), (0, x3), (0, r8)] [(2, 3)] _ rfl ?_
        refine w_getL (q := 3) (v := 4) rfl (by decide) (pc' := 36) rfl ⟨by decide, rfl⟩ rfl rfl (zall_at hR (by decide)) ?_
        refine w_callv (as := [(2, 4)]) [] 39 rfl rfl rfl rfl (Nat.le_of_ble_eq_true rfl) (Nat.le_of_ble_eq_true rfl) (Nat.le_of_ble_eq_true rfl) (Or.inr rfl) (Cv.imp h (fun mem10 h => ?_))
        refine zW.go 2 41 [(2, 3), (0, x1), (0, x2), (0, x3), (0, r8)] [(0, x1), (2, 3)] _ rfl ?_
        refine w_calli (as := [(2, 3), (0, x1)]) [] 44 rfl rfl rfl rfl (Nat.le_of_ble_eq_true rfl) (Nat.le_of_ble_eq_true rfl) (Nat.le_of_ble_eq_true rfl) (Or.inr rfl) (Ci.imp h (fun r11 mem12 h => ?_))
        refine zW.go 2 46 [(2, 3), (0, x1), (0, r11), (0, x3), (0, r8)] [(2, 3)] _ rfl ?_
        refine w_getL (q := 3) (v := ((p : Nat) : Int)) rfl (by decide) (pc' := 49) rfl ⟨by decide, rfl⟩ rfl rfl hpl ?_
        refine w_getL (q := p) (v := ((p + 9 : Nat) : Int)) rfl (by decide) (pc' := 52) rfl ⟨Int.natCast_nonneg _, rfl⟩ (zPln_t0 hp) rfl (zPln_r0_14 hp) ?_
        refine zW.go 1 54 [(2, 3), (0, x1), (0, r11), (0, x3), (0, r8)] [(0, r8), (2, ((p + 9 : Nat) : Int))] _ rfl ?_
        refine w_callv (as := [(2, ((p + 9 : Nat) : Int)), (0, r8)]) [] 57 rfl rfl rfl rfl (Nat.le_of_ble_eq_true rfl) (Nat.le_of_ble_eq_true rfl) (Nat.le_of_ble_eq_true rfl) (Or.inr (zrcv_o (zPln_t9 hp))) (Cv.imp h (fun mem13 h => ?_))
        refine zW.go 2 8 [(2, 3), (0, x1), (0, r11), (0, (x3 + 1)), (0, r8)] [] _ rfl ?_
        exact h (0, r8)
set_option maxRecDepth 4000 in
theorem s_parser_readSum {X : zX} {d : Nat} {rf mem : zF} {Q : Int → zF → Prop} (hR : zall rf zRK = true) {p : Nat} (hp : zPln rf p) (hpl : rf 3 1 = ((p : Nat) : Int)) {x1 : Int} (h : Ci X d 45 [(2, 3), (0, x1)] rf mem (fun r1 mem2 => L_parser_readSum_8 X d rf Q mem2 p x1 r1 0)) : Ci X (d + 1) 43 [(2, 3), (0, x1)] rf mem Q := by
  show zW X (d + 1) 43 0 [(2, 3), (0, x1), (9, 0), (9, 0), (9, 0)] [] (zty, rf, mem) (qi rf Q)
  refine zW.go 2 2 [(2, 3), (0, x1), (9, 0), (9, 0), (9, 0)] [(0, x1), (2, 3)] _ rfl ?_
  refine w_calli (as := [(2, 3), (0, x1)]) [] 5 rfl rfl rfl rfl (Nat.le_of_ble_eq_true rfl) (Nat.le_of_ble_eq_true rfl) (Nat.le_of_ble_eq_true rfl) (Or.inr rfl) (Ci.imp h (fun r1 mem2 h => ?_))
  refine zW.go 3 8 [(2, 3), (0, x1), (0, r1), (0, 0), (9, 0)] [] _ rfl ?_
  exact h (9, 0)
