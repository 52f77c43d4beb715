set_option maxRecDepth 4000 in
theorem s_works_windIn {X : zX} {d : Nat} {rf mem : zF} {Q : Int → zF → Prop} (hR : zall rf zRK = true) {w : Nat} (hw : zWrk rf w) {x1 : Int} (h : (inI x1) ∧ ((x1 < 0 → Q (-1) mem) ∧ (¬ x1 < 0 → (inI x1) ∧ ((64 ≤ x1 → Q (-1) mem) ∧ (¬ 64 ≤ x1 → (0 ≤ x1 ∧ x1 < 64) ∧ (Q (mem (w + 1) (x1).toNat) mem)))))) : Ci X d 143 [(2, ((w : Nat) : Int)), (0, x1)] rf mem Q := by
  show zW X d 143 0 [(2, ((w : Nat) : Int)), (0, x1)] [] (zty, rf, mem) (qi rf Q)
  refine zW.go 1 1 [(2, ((w : Nat) : Int)), (0, x1)] [(0, x1)] _ rfl ?_
  refine w_if_lt rfl (by decide) (pc' := 4) rfl h.1 (fun c1 => ?_) (fun c1 => ?_)
  · have h := h.2.1 c1
    refine zW.go 1 20 [(2, ((w : Nat) : Int)), (0, x1)] [(0, (-1))] _ rfl ?_
    exact w_reti rfl rfl h
  · have h := h.2.2 c1
    refine zW.go 2 7 [(2, ((w : Nat) : Int)), (0, x1)] [(0, 64), (0, x1)] _ rfl ?_
    refine w_ic_ge rfl (by decide) (pc' := 10) rfl ⟨h.1, by decide⟩ (fun c2 => ?_) (fun c2 => ?_)
    · have h := h.2.1 c2
      refine zW.go 1 20 [(2, ((w : Nat) : Int)), (0, x1)] [(0, (-1))] _ rfl ?_
      exact w_reti rfl rfl h
    · have h := h.2.2 c2
      refine zW.go 1 11 [(2, ((w : Nat) : Int)), (0, x1)] [(2, ((w : Nat) : Int))] _ rfl ?_
      refine w_getL (q := w) (v := ((w + 1 : Nat) : Int)) rfl (by decide) (pc' := 14) rfl ⟨Int.natCast_nonneg _, rfl⟩ (zWrk_t0 hw) rfl (zWrk_r0_0 hw) ?_
      refine zW.go 1 15 [(2, ((w : Nat) : Int)), (0, x1)] [(0, x1), (2, ((w + 1 : Nat) : Int))] _ rfl ?_
      obtain ⟨g, h⟩ := h
      refine w_iald (q := (w + 1)) rfl (by decide) (pc' := 16) rfl ⟨Int.natCast_nonneg _, rfl⟩ (zWrk_t1 hw) g rfl ?_
      refine zW.go 1 20 [(2, ((w : Nat) : Int)), (0, x1)] [(0, (mem (w + 1) (x1).toNat))] _ rfl ?_
      exact w_reti rfl rfl h
def L_works_pass_18 (X : zX) (d : Nat) (rf : zF) (Q : Int → zF → Prop) (mem : zF) (w : Nat) (p : Nat) (o : Nat) (x4 : Int) (x5 : Int) : Prop := ∀ z3 : zV, z3.1 ≠ 1 → zW X (d + 1) 144 18 [(2, ((w : Nat) : Int)), (2, ((p : Nat) : Int)), (2, ((o : Nat) : Int)), z3, (0, x4), (0, x5)] [] (zty, rf, mem) (qi rf Q)
set_option maxRecDepth 4000 in
theorem s_works_pass_18 {X : zX} {d : Nat} {rf mem : zF} {Q : Int → zF → Prop} (hR : zall rf zRK = true) {w : Nat} (hw : zWrk rf w) {p : Nat} (hp : zPln rf p) {o : Nat} (ho : zScn rf o) {x4 : Int} {x5 : Int} (h : (inI x5) ∧ ((6 ≤ x5 → Ci X d 321 [(0, 999), (0, ((mem o 0) + 1))] rf mem (fun r4 mem5 => Q x4 (zup mem5 o 0 r4))) ∧ (¬ 6 ≤ x5 → (0 ≤ x5 ∧ x5 < 6) ∧ ((inI (mem (o + 2) (x5).toNat)) ∧ (((mem (o + 2) (x5).toNat) = (-1) → L_works_pass_18 X d rf Q mem w p o x4 (x5 + 1)) ∧ (¬ (mem (o + 2) (x5).toNat) = (-1) → Ci X d 147 [(2, ((w : Nat) : Int)), (2, ((p : Nat) : Int)), (2, ((o : Nat) : Int)), (0, x5)] rf mem (fun r7 mem8 => (inI r7) ∧ ((r7 = 0 → L_works_pass_18 X d rf Q mem8 w p o (x4 + 0) (x5 + 1)) ∧ (¬ r7 = 0 → L_works_pass_18 X d rf Q mem8 w p o (x4 + 1) (x5 + 1)))))))))) : L_works_pass_18 X d rf Q mem w p o x4 x5 := by
  intro z3 hz3
  refine zW.go 2 22 [(2, ((w : Nat) : Int)), (2, ((p : Nat) : Int)), (2, ((o : Nat) : Int)), z3, (0, x4), (0, x5)] [(0, 6), (0, x5)] _ rfl ?_
  refine w_ic_ge rfl (by decide) (pc' := 25) rfl ⟨h.1, by decide⟩ (fun c3 => ?_) (fun c3 => ?_)
  · have h := h.2.1 c3
    refine zW.go 3 68 [(2, ((w : Nat) : Int)), (2, ((p : Nat) : Int)), (2, ((o : Nat) : Int)), z3, (0, x4), (0, x5)] [(2, ((o : Nat) : Int)), (0, 999), (2, ((o : Nat) : Int))] _ rfl ?_
    refine w_getI (q := o) rfl (by decide) (pc' := 71) rfl ⟨Int.natCast_nonneg _, rfl⟩ (zScn_t0 ho) (by decide) ?_
    refine zW.go 2 73 [(2, ((w : Nat) : Int)), (2, ((p : Nat) : Int)), (2, ((o : Nat) : Int)), z3, (0, x4), (0, x5)] [(0, ((mem o 0) + 1)), (0, 999), (2, ((o : Nat) : Int))] _ rfl ?_
    refine w_calli (as := [(0, 999), (0, ((mem o 0) + 1))]) [(2, ((o : Nat) : Int))] 76 rfl rfl rfl rfl (Nat.le_of_ble_eq_true rfl) (Nat.le_of_ble_eq_true rfl) (Nat.le_of_ble_eq_true rfl) (Or.inl rfl) (Ci.imp h (fun r4 mem5 h => ?_))
    refine w_putI (q := o) rfl (by decide) (pc' := 79) rfl ⟨Int.natCast_nonneg _, rfl⟩ (zScn_t0 ho) (by decide) ?_
    refine zW.go 1 81 [(2, ((w : Nat) : Int)), (2, ((p : Nat) : Int)), (2, ((o : Nat) : Int)), z3, (0, x4), (0, x5)] [(0, x4)] _ rfl ?_
    exact w_reti rfl rfl h
  · have h := h.2.2 c3
    refine zW.go 1 26 [(2, ((w : Nat) : Int)), (2, ((p : Nat) : Int)), (2, ((o : Nat) : Int)), z3, (0, x4), (0, x5)] [(2, ((o : Nat) : Int))] _ rfl ?_
    refine w_getL (q := o) (v := ((o + 2 : Nat) : Int)) rfl (by decide) (pc' := 29) rfl ⟨Int.natCast_nonneg _, rfl⟩ (zScn_t0 ho) rfl (zScn_r0_4 ho) ?_
    refine zW.go 1 31 [(2, ((w : Nat) : Int)), (2, ((p : Nat) : Int)), (2, ((o : Nat) : Int)), z3, (0, x4), (0, x5)] [(0, x5), (2, ((o + 2 : Nat) : Int))] _ rfl ?_
    obtain ⟨g, h⟩ := h
    refine w_iald (q := (o + 2)) rfl (by decide) (pc' := 32) rfl ⟨Int.natCast_nonneg _, rfl⟩ (zScn_t2 ho) g rfl ?_
    refine zW.go 1 33 [(2, ((w : Nat) : Int)), (2, ((p : Nat) : Int)), (2, ((o : Nat) : Int)), z3, (0, x4), (0, x5)] [(0, (-1)), (0, (mem (o + 2) (x5).toNat))] _ rfl ?_
    refine w_ic_eq rfl (by decide) (pc' := 36) rfl ⟨h.1, by decide⟩ (fun c6 => ?_) (fun c6 => ?_)
    · have h := h.2.1 c6
      refine zW.go 2 18 [(2, ((w : Nat) : Int)), (2, ((p : Nat) : Int)), (2, ((o : Nat) : Int)), z3, (0, x4), (0, (x5 + 1))] [] _ rfl ?_
      exact h z3 hz3
    · have h := h.2.2 c6
      refine zW.go 5 43 [(2, ((w : Nat) : Int)), (2, ((p : Nat) : Int)), (2, ((o : Nat) : Int)), z3, (0, x4), (0, x5)] [(0, x5), (2, ((o : Nat) : Int)), (2, ((p : Nat) : Int)), (2, ((w : Nat) : Int)), (0, x4)] _ rfl ?_
      refine w_calli (as := [(2, ((w : Nat) : Int)), (2, ((p : Nat) : Int)), (2, ((o : Nat) : Int)), (0, x5)]) [(0, x4)] 46 rfl rfl rfl rfl (Nat.le_of_ble_eq_true rfl) (Nat.le_of_ble_eq_true rfl) (Nat.le_of_ble_eq_true rfl) (Or.inr (zrcv_o (zWrk_t0 hw))) (Ci.imp h (fun r7 mem8 h => ?_))
      refine w_if_eq rfl (by decide) (pc' := 49) rfl h.1 (fun c9 => ?_) (fun c9 => ?_)
      · have h := h.2.1 c9
        refine zW.go 2 55 [(2, ((w : Nat) : Int)), (2, ((p : Nat) : Int)), (2, ((o : Nat) : Int)), z3, (0, x4), (0, x5)] [(0, (x4 + 0))] _ rfl ?_
        refine zW.step 57 [(2, ((w : Nat) : Int)), (2, ((p : Nat) : Int)), (2, ((o : Nat) : Int)), z3, (0, (x4 + 0)), (0, x5)] [] _ rfl (by decide) (by decide) (by show some (_, zst1 [(2, ((w : Nat) : Int)), (2, ((p : Nat) : Int)), (2, ((o : Nat) : Int)), z3, (0, x4), (0, x5)] 4 _, _, _) = _; rw [zst1_z (ls := [(2, ((w : Nat) : Int)), (2, ((p : Nat) : Int)), (2, ((o : Nat) : Int)), z3, (0, x4), (0, x5)]) (i := 4) hz3]; rfl) ?_
        refine zW.go 2 18 [(2, ((w : Nat) : Int)), (2, ((p : Nat) : Int)), (2, ((o : Nat) : Int)), z3, (0, (x4 + 0)), (0, (x5 + 1))] [] _ rfl ?_
        exact h z3 hz3
      · have h := h.2.2 c9
        refine zW.go 3 55 [(2, ((w : Nat) : Int)), (2, ((p : Nat) : Int)), (2, ((o : Nat) : Int)), z3, (0, x4), (0, x5)] [(0, (x4 + 1))] _ rfl ?_
        refine zW.step 57 [(2, ((w : Nat) : Int)), (2, ((p : Nat) : Int)), (2, ((o : Nat) : Int)), z3, (0, (x4 + 1)), (0, x5)] [] _ rfl (by decide) (by decide) (by show some (_, zst1 [(2, ((w : Nat) : Int)), (2, ((p : Nat) : Int)), (2, ((o : Nat) : Int)), z3, (0, x4), (0, x5)] 4 _, _, _) = _; rw [zst1_z (ls := [(2, ((w : Nat) : Int)), (2, ((p : Nat) : Int)), (2, ((o : Nat) : Int)), z3, (0, x4), (0, x5)]) (i := 4) hz3]; rfl) ?_
        refine zW.go 2 18 [(2, ((w : Nat) : Int)), (2, ((p : Nat) : Int)), (2, ((o : Nat) : Int)), z3, (0, (x4 + 1)), (0, (x5 + 1))] [] _ rfl ?_
        exact h z3 hz3
set_option maxRecDepth 4000 in
theorem s_works_pass {X : zX} {d : Nat} {rf mem : zF} {Q : Int → zF → Prop} (hR : zall rf zRK = true) {w : Nat} (hw : zWrk rf w) {p : Nat} (hp : zPln rf p) {o : Nat} (ho : zScn rf o) {x3 : Int} (h : Cv X d 145 [(2, ((w : Nat) : Int)), (2, ((p : Nat) : Int)), (2, ((o : Nat) : Int)), (0, x3)] rf mem (fun mem1 => Cv X d 146 [(2, ((w : Nat) : Int)), (2, ((o : Nat) : Int))] rf mem1 (fun mem2 => L_works_pass_18 X d rf Q mem2 w p o 0 0))) : Ci X (d + 1) 144 [(2, ((w : Nat) : Int)), (2, ((p : Nat) : Int)), (2, ((o : Nat) : Int)), (0, x3)] rf mem Q := by
  show zW X (d + 1) 144 0 [(2, ((w : Nat) : Int)), (2, ((p : Nat) : Int)), (2, ((o : Nat) : Int)), (0, x3), (9, 0), (9, 0)] [] (zty, rf, mem) (qi rf Q)
  refine zW.go 6 7 [(2, ((w : Nat) : Int)), (2, ((p : Nat) : Int)), (2, ((o : Nat) : Int)), (0, x3), (0, 0), (9, 0)] [(0, x3), (2, ((o : Nat) : Int)), (2, ((p : Nat) : Int)), (2, ((w : Nat) : Int))] _ rfl ?_
  refine w_callv (as := [(2, ((w : Nat) : Int)), (2, ((p : Nat) : Int)), (2, ((o : Nat) : Int)), (0, x3)]) [] 10 rfl rfl rfl rfl (Nat.le_of_ble_eq_true rfl) (Nat.le_of_ble_eq_true rfl) (Nat.le_of_ble_eq_true rfl) (Or.inr (zrcv_o (zWrk_t0 hw))) (Cv.imp h (fun mem1 h => ?_))
  refine zW.go 2 12 [(2, ((w : Nat) : Int)), (2, ((p : Nat) : Int)), (2, ((o : Nat) : Int)), (0, x3), (0, 0), (9, 0)] [(2, ((o : Nat) : Int)), (2, ((w : Nat) : Int))] _ rfl ?_
  refine w_callv (as := [(2, ((w : Nat) : Int)), (2, ((o : Nat) : Int))]) [] 15 rfl rfl rfl rfl (Nat.le_of_ble_eq_true rfl) (Nat.le_of_ble_eq_true rfl) (Nat.le_of_ble_eq_true rfl) (Or.inr (zrcv_o (zWrk_t0 hw))) (Cv.imp h (fun mem2 h => ?_))
  refine zW.go 2 18 [(2, ((w : Nat) : Int)), (2, ((p : Nat) : Int)), (2, ((o : Nat) : Int)), (0, x3), (0, 0), (0, 0)] [] _ rfl ?_
  exact h (0, x3) (by show (0 : Nat) ≠ 1; decide)
def L_works_driftAll_3 (X : zX) (d : Nat) (rf : zF) (Q : zF → Prop) (mem : zF) (w : Nat) (p : Nat) (o : Nat) (x3 : Int) (x4 : Int) : Prop := ∀ z5 : zV, ∀ z6 : zV, ∀ z7 : zV, zW X (d + 1) 145 3 [(2, ((w : Nat) : Int)), (2, ((p : Nat) : Int)), (2, ((o : Nat) : Int)), (0, x3), (0, x4), z5, z6, z7] [] (zty, rf, mem) (qv rf Q)
def L_works_driftAll_42 (X : zX) (d : Nat) (rf : zF) (Q : zF → Prop) (mem : zF) (w : Nat) (p : Nat) (o : Nat) (x3 : Int) (x4 : Int) (s1 : Int) (s2 : Int) : Prop := ∀ z5 : zV, ∀ z6 : zV, z6.1 ≠ 1 → ∀ z7 : zV, zW X (d + 1) 145 42 [(2, ((w : Nat) : Int)), (2, ((p : Nat) : Int)), (2, ((o : Nat) : Int)), (0, x3), (0, x4), z5, z6, z7] [(0, s2), (0, s1), (2, ((p : Nat) : Int))] (zty, rf, mem) (qv rf Q)
def L_works_driftAll_64 (X : zX) (d : Nat) (rf : zF) (Q : zF → Prop) (mem : zF) (w : Nat) (p : Nat) (o : Nat) (x3 : Int) (x4 : Int) (x7 : Int) (s1 : Int) (s2 : Int) : Prop := ∀ z5 : zV, ∀ z6 : zV, zW X (d + 1) 145 64 [(2, ((w : Nat) : Int)), (2, ((p : Nat) : Int)), (2, ((o : Nat) : Int)), (0, x3), (0, x4), z5, z6, (0, x7)] [(0, s2), (0, s1), (2, ((w + 2 : Nat) : Int))] (zty, rf, mem) (qv rf Q)
set_option maxRecDepth 4000 in
theorem s_works_driftAll_3 {X : zX} {d : Nat} {rf mem : zF} {Q : zF → Prop} (hR : zall rf zRK = true) {w : Nat} (hw : zWrk rf w) {p : Nat} (hp : zPln rf p) {o : Nat} (ho : zScn rf o) {x3 : Int} {x4 : Int} (h : (inI x4) ∧ ((6 ≤ x4 → Q mem) ∧ (¬ 6 ≤ x4 → (0 ≤ x4 ∧ x4 < 6) ∧ (Ci X d 143 [(2, ((w : Nat) : Int)), (0, (mem (o + 2) (x4).toNat))] rf mem (fun r2 mem3 => (inI r2) ∧ ((¬ r2 = (-1) → L_works_driftAll_42 X d rf Q mem3 w p o x3 x4 (mem (o + 2) (x4).toNat) r2) ∧ (r2 = (-1) → L_works_driftAll_42 X d rf Q mem3 w p o x3 x4 (mem (o + 2) (x4).toNat) x3))))))) : L_works_driftAll_3 X d rf Q mem w p o x3 x4 := by
  intro z5 z6 z7
  refine zW.go 2 7 [(2, ((w : Nat) : Int)), (2, ((p : Nat) : Int)), (2, ((o : Nat) : Int)), (0, x3), (0, x4), z5, z6, z7] [(0, 6), (0, x4)] _ rfl ?_
  refine w_ic_ge rfl (by decide) (pc' := 10) rfl ⟨h.1, by decide⟩ (fun c1 => ?_) (fun c1 => ?_)
  · have h := h.2.1 c1
    exact w_retv rfl rfl h
  · have h := h.2.2 c1
    refine zW.go 1 11 [(2, ((w : Nat) : Int)), (2, ((p : Nat) : Int)), (2, ((o : Nat) : Int)), (0, x3), (0, x4), z5, z6, z7] [(2, ((o : Nat) : Int))] _ rfl ?_
    refine w_getL (q := o) (v := ((o + 2 : Nat) : Int)) rfl (by decide) (pc' := 14) rfl ⟨Int.natCast_nonneg _, rfl⟩ (zScn_t0 ho) rfl (zScn_r0_4 ho) ?_
    refine zW.go 1 16 [(2, ((w : Nat) : Int)), (2, ((p : Nat) : Int)), (2, ((o : Nat) : Int)), (0, x3), (0, x4), z5, z6, z7] [(0, x4), (2, ((o + 2 : Nat) : Int))] _ rfl ?_
    obtain ⟨g, h⟩ := h
    refine w_iald (q := (o + 2)) rfl (by decide) (pc' := 17) rfl ⟨Int.natCast_nonneg _, rfl⟩ (zScn_t2 ho) g rfl ?_
    refine zW.go 3 22 [(2, ((w : Nat) : Int)), (2, ((p : Nat) : Int)), (2, ((o : Nat) : Int)), (0, x3), (0, x4), (0, (mem (o + 2) (x4).toNat)), z6, z7] [(0, (mem (o + 2) (x4).toNat)), (2, ((w : Nat) : Int))] _ rfl ?_
    refine w_calli (as := [(2, ((w : Nat) : Int)), (0, (mem (o + 2) (x4).toNat))]) [] 25 rfl rfl rfl rfl (Nat.le_of_ble_eq_true rfl) (Nat.le_of_ble_eq_true rfl) (Nat.le_of_ble_eq_true rfl) (Or.inr (zrcv_o (zWrk_t0 hw))) (Ci.imp h (fun r2 mem3 h => ?_))
    refine zW.go 5 33 [(2, ((w : Nat) : Int)), (2, ((p : Nat) : Int)), (2, ((o : Nat) : Int)), (0, x3), (0, x4), (0, (mem (o + 2) (x4).toNat)), (0, r2), z7] [(0, (-1)), (0, r2), (0, (mem (o + 2) (x4).toNat)), (2, ((p : Nat) : Int))] _ rfl ?_
    refine w_ic_ne rfl (by decide) (pc' := 36) rfl ⟨h.1, by decide⟩ (fun c4 => ?_) (fun c4 => ?_)
    · have h := h.2.1 c4
      refine zW.go 1 42 [(2, ((w : Nat) : Int)), (2, ((p : Nat) : Int)), (2, ((o : Nat) : Int)), (0, x3), (0, x4), (0, (mem (o + 2) (x4).toNat)), (0, r2), z7] [(0, r2), (0, (mem (o + 2) (x4).toNat)), (2, ((p : Nat) : Int))] _ rfl ?_
      exact h (0, (mem (o + 2) (x4).toNat)) (0, r2) (by show (0 : Nat) ≠ 1; decide) z7
    · have h := h.2.2 c4
      refine zW.go 2 42 [(2, ((w : Nat) : Int)), (2, ((p : Nat) : Int)), (2, ((o : Nat) : Int)), (0, x3), (0, x4), (0, (mem (o + 2) (x4).toNat)), (0, r2), z7] [(0, x3), (0, (mem (o + 2) (x4).toNat)), (2, ((p : Nat) : Int))] _ rfl ?_
      exact h (0, (mem (o + 2) (x4).toNat)) (0, r2) (by show (0 : Nat) ≠ 1; decide) z7
set_option maxRecDepth 4000 in
theorem s_works_driftAll_42 {X : zX} {d : Nat} {rf mem : zF} {Q : zF → Prop} (hR : zall rf zRK = true) {w : Nat} (hw : zWrk rf w) {p : Nat} (hp : zPln rf p) {o : Nat} (ho : zScn rf o) {x3 : Int} {x4 : Int} {s1 : Int} {s2 : Int} (h : Ci X d 71 [(2, ((p : Nat) : Int)), (0, s1), (0, s2)] rf mem (fun r5 mem6 => (inI r5) ∧ ((¬ r5 = (-1) → L_works_driftAll_64 X d rf Q mem6 w p o x3 x4 r5 x4 1) ∧ (r5 = (-1) → L_works_driftAll_64 X d rf Q mem6 w p o x3 x4 r5 x4 0)))) : L_works_driftAll_42 X d rf Q mem w p o x3 x4 s1 s2 := by
  intro z5 z6 hz6 z7
  refine w_calli (as := [(2, ((p : Nat) : Int)), (0, s1), (0, s2)]) [] 45 rfl rfl rfl rfl (Nat.le_of_ble_eq_true rfl) (Nat.le_of_ble_eq_true rfl) (Nat.le_of_ble_eq_true rfl) (Or.inr (zrcv_o (zPln_t0 hp))) (Ci.imp h (fun r5 mem6 h => ?_))
  refine zW.step 47 [(2, ((w : Nat) : Int)), (2, ((p : Nat) : Int)), (2, ((o : Nat) : Int)), (0, x3), (0, x4), z5, z6, (0, r5)] [] _ rfl (by decide) (by decide) (by show some (_, zst1 [(2, ((w : Nat) : Int)), (2, ((p : Nat) : Int)), (2, ((o : Nat) : Int)), (0, x3), (0, x4), z5, z6, z7] 7 _, _, _) = _; rw [zst1_z (ls := [(2, ((w : Nat) : Int)), (2, ((p : Nat) : Int)), (2, ((o : Nat) : Int)), (0, x3), (0, x4), z5, z6, z7]) (i := 7) hz6]; rfl) ?_
  refine zW.go 1 48 [(2, ((w : Nat) : Int)), (2, ((p : Nat) : Int)), (2, ((o : Nat) : Int)), (0, x3), (0, x4), z5, z6, (0, r5)] [(2, ((w : Nat) : Int))] _ rfl ?_
  refine w_getL (q := w) (v := ((w + 2 : Nat) : Int)) rfl (by decide) (pc' := 51) rfl ⟨Int.natCast_nonneg _, rfl⟩ (zWrk_t0 hw) rfl (zWrk_r0_1 hw) ?_
  refine zW.go 3 56 [(2, ((w : Nat) : Int)), (2, ((p : Nat) : Int)), (2, ((o : Nat) : Int)), (0, x3), (0, x4), z5, z6, (0, r5)] [(0, (-1)), (0, r5), (0, x4), (2, ((w + 2 : Nat) : Int))] _ rfl ?_
  refine w_ic_ne rfl (by decide) (pc' := 59) rfl ⟨h.1, by decide⟩ (fun c7 => ?_) (fun c7 => ?_)
  · have h := h.2.1 c7
    refine zW.go 1 64 [(2, ((w : Nat) : Int)), (2, ((p : Nat) : Int)), (2, ((o : Nat) : Int)), (0, x3), (0, x4), z5, z6, (0, r5)] [(0, 1), (0, x4), (2, ((w + 2 : Nat) : Int))] _ rfl ?_
    exact h z5 z6
  · have h := h.2.2 c7
    refine zW.go 2 64 [(2, ((w : Nat) : Int)), (2, ((p : Nat) : Int)), (2, ((o : Nat) : Int)), (0, x3), (0, x4), z5, z6, (0, r5)] [(0, 0), (0, x4), (2, ((w + 2 : Nat) : Int))] _ rfl ?_
    exact h z5 z6
set_option maxRecDepth 4000 in
theorem s_works_driftAll_64 {X : zX} {d : Nat} {rf mem : zF} {Q : zF → Prop} (hR : zall rf zRK = true) {w : Nat} (hw : zWrk rf w) {p : Nat} (hp : zPln rf p) {o : Nat} (ho : zScn rf o) {x3 : Int} {x4 : Int} {x7 : Int} {s1 : Int} {s2 : Int} (h : (0 ≤ s1 ∧ s1 < 6) ∧ ((inI x7) ∧ ((x7 = (-1) → L_works_driftAll_3 X d rf Q (zup mem (w + 2) (s1).toNat s2) w p o x3 (x4 + 1)) ∧ (¬ x7 = (-1) → (0 ≤ x4 ∧ x4 < 6) ∧ (L_works_driftAll_3 X d rf Q (zup (zup mem (w + 2) (s1).toNat s2) (o + 2) (x4).toNat x7) w p o x3 (x4 + 1)))))) : L_works_driftAll_64 X d rf Q mem w p o x3 x4 x7 s1 s2 := by
  intro z5 z6
  obtain ⟨g, h⟩ := h
  refine w_iast (q := (w + 2)) rfl (by decide) (pc' := 65) rfl ⟨Int.natCast_nonneg _, rfl⟩ (zWrk_t2 hw) g rfl ?_
  refine zW.go 2 68 [(2, ((w : Nat) : Int)), (2, ((p : Nat) : Int)), (2, ((o : Nat) : Int)), (0, x3), (0, x4), z5, z6, (0, x7)] [(0, (-1)), (0, x7)] _ rfl ?_
  refine w_ic_eq rfl (by decide) (pc' := 71) rfl ⟨h.1, by decide⟩ (fun c8 => ?_) (fun c8 => ?_)
  · have h := h.2.1 c8
    refine zW.go 2 3 [(2, ((w : Nat) : Int)), (2, ((p : Nat) : Int)), (2, ((o : Nat) : Int)), (0, x3), (0, (x4 + 1)), z5, z6, (0, x7)] [] _ rfl ?_
    exact h z5 z6 (0, x7)
  · have h := h.2.2 c8
    refine zW.go 1 72 [(2, ((w : Nat) : Int)), (2, ((p : Nat) : Int)), (2, ((o : Nat) : Int)), (0, x3), (0, x4), z5, z6, (0, x7)] [(2, ((o : Nat) : Int))] _ rfl ?_
    refine w_getL (q := o) (v := ((o + 2 : Nat) : Int)) rfl (by decide) (pc' := 75) rfl ⟨Int.natCast_nonneg _, rfl⟩ (zScn_t0 ho) rfl (zScn_r0_4 ho) ?_
    refine zW.go 2 79 [(2, ((w : Nat) : Int)), (2, ((p : Nat) : Int)), (2, ((o : Nat) : Int)), (0, x3), (0, x4), z5, z6, (0, x7)] [(0, x7), (0, x4), (2, ((o + 2 : Nat) : Int))] _ rfl ?_
    obtain ⟨g, h⟩ := h
    refine w_iast (q := (o + 2)) rfl (by decide) (pc' := 80) rfl ⟨Int.natCast_nonneg _, rfl⟩ (zScn_t2 ho) g rfl ?_
    refine zW.go 2 3 [(2, ((w : Nat) : Int)), (2, ((p : Nat) : Int)), (2, ((o : Nat) : Int)), (0, x3), (0, (x4 + 1)), z5, z6, (0, x7)] [] _ rfl ?_
    exact h z5 z6 (0, x7)
set_option maxRecDepth 4000 in
theorem s_works_driftAll {X : zX} {d : Nat} {rf mem : zF} {Q : zF → Prop} (hR : zall rf zRK = true) {w : Nat} (hw : zWrk rf w) {p : Nat} (hp : zPln rf p) {o : Nat} (ho : zScn rf o) {x3 : Int} (h : L_works_driftAll_3 X d rf Q mem w p o x3 0) : Cv X (d + 1) 145 [(2, ((w : Nat) : Int)), (2, ((p : Nat) : Int)), (2, ((o : Nat) : Int)), (0, x3)] rf mem Q := by
  show zW X (d + 1) 145 0 [(2, ((w : Nat) : Int)), (2, ((p : Nat) : Int)), (2, ((o : Nat) : Int)), (0, x3), (9, 0), (9, 0), (9, 0), (9, 0)] [] (zty, rf, mem) (qv rf Q)
  refine zW.go 2 3 [(2, ((w : Nat) : Int)), (2, ((p : Nat) : Int)), (2, ((o : Nat) : Int)), (0, x3), (0, 0), (9, 0), (9, 0), (9, 0)] [] _ rfl ?_
  exact h (9, 0) (9, 0) (9, 0)
def L_works_joinAll_2 (X : zX) (d : Nat) (rf : zF) (Q : zF → Prop) (mem : zF) (w : Nat) (o : Nat) (x2 : Int) : Prop := ∀ z0 : zV, ∀ z3 : zV, ∀ z4 : zV, zW X (d + 1) 146 2 [z0, (2, ((o : Nat) : Int)), (0, x2), z3, z4] [] (zty, rf, mem) (qv rf Q)
def L_works_joinAll_20 (X : zX) (d : Nat) (rf : zF) (Q : zF → Prop) (mem : zF) (w : Nat) (o : Nat) (x2 : Int) (x3 : Int) (x4 : Int) : Prop := ∀ z0 : zV, zW X (d + 1) 146 20 [z0, (2, ((o : Nat) : Int)), (0, x2), (0, x3), (0, x4)] [] (zty, rf, mem) (qv rf Q)
set_option maxRecDepth 4000 in
theorem s_works_joinAll_2 {X : zX} {d : Nat} {rf mem : zF} {Q : zF → Prop} (hR : zall rf zRK = true) {w : Nat} (hw : zWrk rf w) {o : Nat} (ho : zScn rf o) {x2 : Int} (h : (inI x2) ∧ ((6 ≤ x2 → Q mem) ∧ (¬ 6 ≤ x2 → (0 ≤ x2 ∧ x2 < 6) ∧ (L_works_joinAll_20 X d rf Q mem w o x2 (mem (o + 2) (x2).toNat) (x2 + 1))))) : L_works_joinAll_2 X d rf Q mem w o x2 := by
  intro z0 z3 z4
  refine zW.go 2 5 [z0, (2, ((o : Nat) : Int)), (0, x2), z3, z4] [(0, 6), (0, x2)] _ rfl ?_
  refine w_ic_ge rfl (by decide) (pc' := 8) rfl ⟨h.1, by decide⟩ (fun c1 => ?_) (fun c1 => ?_)
  · have h := h.2.1 c1
    exact w_retv rfl rfl h
  · have h := h.2.2 c1
    refine zW.go 1 9 [z0, (2, ((o : Nat) : Int)), (0, x2), z3, z4] [(2, ((o : Nat) : Int))] _ rfl ?_
    refine w_getL (q := o) (v := ((o + 2 : Nat) : Int)) rfl (by decide) (pc' := 12) rfl ⟨Int.natCast_nonneg _, rfl⟩ (zScn_t0 ho) rfl (zScn_r0_4 ho) ?_
    refine zW.go 1 13 [z0, (2, ((o : Nat) : Int)), (0, x2), z3, z4] [(0, x2), (2, ((o + 2 : Nat) : Int))] _ rfl ?_
    obtain ⟨g, h⟩ := h
    refine w_iald (q := (o + 2)) rfl (by decide) (pc' := 14) rfl ⟨Int.natCast_nonneg _, rfl⟩ (zScn_t2 ho) g rfl ?_
    refine zW.go 5 20 [z0, (2, ((o : Nat) : Int)), (0, x2), (0, (mem (o + 2) (x2).toNat)), (0, (x2 + 1))] [] _ rfl ?_
    exact h z0
set_option maxRecDepth 4000 in
theorem s_works_joinAll_20 {X : zX} {d : Nat} {rf mem : zF} {Q : zF → Prop} (hR : zall rf zRK = true) {w : Nat} (hw : zWrk rf w) {o : Nat} (ho : zScn rf o) {x2 : Int} {x3 : Int} {x4 : Int} (h : (inI x4) ∧ ((6 ≤ x4 → L_works_joinAll_2 X d rf Q mem w o (x2 + 1)) ∧ (¬ 6 ≤ x4 → (inI x3) ∧ ((x3 = (-1) → L_works_joinAll_2 X d rf Q mem w o (x2 + 1)) ∧ (¬ x3 = (-1) → (0 ≤ x4 ∧ x4 < 6) ∧ ((inI (mem (o + 2) (x4).toNat) ∧ inI x3) ∧ ((¬ (mem (o + 2) (x4).toNat) = x3 → L_works_joinAll_20 X d rf Q mem w o x2 x3 (x4 + 1)) ∧ ((mem (o + 2) (x4).toNat) = x3 → Cv X d 93 [(2, ((o : Nat) : Int)), (0, x2), (0, x4)] rf mem (fun mem5 => L_works_joinAll_20 X d rf Q mem5 w o x2 x3 (x4 + 1)))))))))) : L_works_joinAll_20 X d rf Q mem w o x2 x3 x4 := by
  intro z0
  refine zW.go 2 24 [z0, (2, ((o : Nat) : Int)), (0, x2), (0, x3), (0, x4)] [(0, 6), (0, x4)] _ rfl ?_
  refine w_ic_ge rfl (by decide) (pc' := 27) rfl ⟨h.1, by decide⟩ (fun c2 => ?_) (fun c2 => ?_)
  · have h := h.2.1 c2
    refine zW.go 2 2 [z0, (2, ((o : Nat) : Int)), (0, (x2 + 1)), (0, x3), (0, x4)] [] _ rfl ?_
    exact h z0 (0, x3) (0, x4)
  · have h := h.2.2 c2
    refine zW.go 2 29 [z0, (2, ((o : Nat) : Int)), (0, x2), (0, x3), (0, x4)] [(0, (-1)), (0, x3)] _ rfl ?_
    refine w_ic_eq rfl (by decide) (pc' := 32) rfl ⟨h.1, by decide⟩ (fun c3 => ?_) (fun c3 => ?_)
    · have h := h.2.1 c3
      refine zW.go 2 2 [z0, (2, ((o : Nat) : Int)), (0, (x2 + 1)), (0, x3), (0, x4)] [] _ rfl ?_
      exact h z0 (0, x3) (0, x4)
    · have h := h.2.2 c3
      refine zW.go 1 33 [z0, (2, ((o : Nat) : Int)), (0, x2), (0, x3), (0, x4)] [(2, ((o : Nat) : Int))] _ rfl ?_
      refine w_getL (q := o) (v := ((o + 2 : Nat) : Int)) rfl (by decide) (pc' := 36) rfl ⟨Int.natCast_nonneg _, rfl⟩ (zScn_t0 ho) rfl (zScn_r0_4 ho) ?_
      refine zW.go 1 38 [z0, (2, ((o : Nat) : Int)), (0, x2), (0, x3), (0, x4)] [(0, x4), (2, ((o + 2 : Nat) : Int))] _ rfl ?_
      obtain ⟨g, h⟩ := h
      refine w_iald (q := (o + 2)) rfl (by decide) (pc' := 39) rfl ⟨Int.natCast_nonneg _, rfl⟩ (zScn_t2 ho) g rfl ?_
      refine zW.go 1 40 [z0, (2, ((o : Nat) : Int)), (0, x2), (0, x3), (0, x4)] [(0, x3), (0, (mem (o + 2) (x4).toNat))] _ rfl ?_
      refine w_ic_ne rfl (by decide) (pc' := 43) rfl h.1 (fun c4 => ?_) (fun c4 => ?_)
      · have h := h.2.1 c4
        refine zW.go 2 20 [z0, (2, ((o : Nat) : Int)), (0, x2), (0, x3), (0, (x4 + 1))] [] _ rfl ?_
        exact h z0
      · have h := h.2.2 c4
        refine zW.go 3 47 [z0, (2, ((o : Nat) : Int)), (0, x2), (0, x3), (0, x4)] [(0, x4), (0, x2), (2, ((o : Nat) : Int))] _ rfl ?_
        refine w_callv (as := [(2, ((o : Nat) : Int)), (0, x2), (0, x4)]) [] 50 rfl rfl rfl rfl (Nat.le_of_ble_eq_true rfl) (Nat.le_of_ble_eq_true rfl) (Nat.le_of_ble_eq_true rfl) (Or.inr (zrcv_o (zScn_t0 ho))) (Cv.imp h (fun mem5 h => ?_))
        refine zW.go 2 20 [z0, (2, ((o : Nat) : Int)), (0, x2), (0, x3), (0, (x4 + 1))] [] _ rfl ?_
        exact h z0
set_option maxRecDepth 4000 in
theorem s_works_joinAll {X : zX} {d : Nat} {rf mem : zF} {Q : zF → Prop} (hR : zall rf zRK = true) {w : Nat} (hw : zWrk rf w) {o : Nat} (ho : zScn rf o) (h : L_works_joinAll_2 X d rf Q mem w o 0) : Cv X (d + 1) 146 [(2, ((w : Nat) : Int)), (2, ((o : Nat) : Int))] rf mem Q := by
  show zW X (d + 1) 146 0 [(2, ((w : Nat) : Int)), (2, ((o : Nat) : Int)), (9, 0), (9, 0), (9, 0)] [] (zty, rf, mem) (qv rf Q)
  refine zW.go 2 2 [(2, ((w : Nat) : Int)), (2, ((o : Nat) : Int)), (0, 0), (9, 0), (9, 0)] [] _ rfl ?_
  exact h (2, ((w : Nat) : Int)) (9, 0) (9, 0)
def L_works_thinOne_74 (X : zX) (d : Nat) (rf : zF) (Q : Int → zF → Prop) (mem : zF) (w : Nat) (p : Nat) (o : Nat) (x3 : Int) (s0 : Int) : Prop := ∀ z0 : zV, ∀ z5 : zV, ∀ z6 : zV, ∀ z7 : zV, ∀ z8 : zV, zW X (d + 1) 147 74 [z0, (2, ((p : Nat) : Int)), (2, ((o : Nat) : Int)), (0, x3), (2, ((p + 9 : Nat) : Int)), z5, z6, z7, z8] [(0, s0)] (zty, rf, mem) (qi rf Q)
def L_works_thinOne_149 (X : zX) (d : Nat) (rf : zF) (Q : Int → zF → Prop) (mem : zF) (w : Nat) (p : Nat) (o : Nat) (x3 : Int) (x6 : Int) (x7 : Int) (s1 : Int) (s2 : Int) : Prop := ∀ z0 : zV, ∀ z1 : zV, ∀ z5 : zV, ∀ z8 : zV, zW X (d + 1) 147 149 [z0, z1, (2, ((o : Nat) : Int)), (0, x3), (2, ((p + 9 : Nat) : Int)), z5, (0, x6), (0, x7), z8] [(0, s2), (0, s1), (2, ((p + 9 : Nat) : Int))] (zty, rf, mem) (qi rf Q)
def L_works_thinOne_227 (X : zX) (d : Nat) (rf : zF) (Q : Int → zF → Prop) (mem : zF) (w : Nat) (p : Nat) (o : Nat) (x3 : Int) (s0 : Int) : Prop := ∀ z0 : zV, ∀ z1 : zV, ∀ z4 : zV, ∀ z5 : zV, ∀ z6 : zV, ∀ z7 : zV, z7.1 ≠ 1 → ∀ z8 : zV, zW X (d + 1) 147 227 [z0, z1, (2, ((o : Nat) : Int)), (0, x3), z4, z5, z6, z7, z8] [(0, s0)] (zty, rf, mem) (qi rf Q)
set_option maxRecDepth 4000 in
theorem s_works_thinOne_74 {X : zX} {d : Nat} {rf mem : zF} {Q : Int → zF → Prop} (hR : zall rf zRK = true) {w : Nat} (hw : zWrk rf w) {p : Nat} (hp : zPln rf p) {o : Nat} (ho : zScn rf o) {x3 : Int} {s0 : Int} (h : (0 ≤ x3 ∧ x3 < 6) ∧ (Ci X d 321 [(0, 99), (0, ((mem (o + 3) (x3).toNat) - s0))] rf mem (fun r10 mem11 => Ci X d 320 [(0, 0), (0, r10)] rf mem11 (fun r12 mem13 => (0 ≤ x3 ∧ x3 < 6) ∧ (Cv X d 78 [(2, ((p + 9 : Nat) : Int)), (0, (-1)), (0, r12)] rf (zup mem13 (o + 3) (x3).toNat r12) (fun mem14 => (0 ≤ x3 ∧ x3 < 6) ∧ (Ci X d 88 [(2, ((o : Nat) : Int)), (0, (mem14 (o + 2) (x3).toNat))] rf mem14 (fun r15 mem16 => Ci X d 60 [(2, ((p : Nat) : Int)), (0, 1), (0, r15)] rf mem16 (fun r17 mem18 => (inI r17) ∧ ((r17 = 0 → L_works_thinOne_149 X d rf Q mem18 w p o x3 r12 r15 (-5) 0) ∧ (¬ r17 = 0 → (0 ≤ r15 ∧ r15 < 6) ∧ (L_works_thinOne_149 X d rf Q mem18 w p o x3 r12 r15 (-5) (mem18 (p + 6) (r15).toNat))))))))))))) : L_works_thinOne_74 X d rf Q mem w p o x3 s0 := by
  intro z0 z5 z6 z7 z8
  refine zW.go 4 80 [z0, (2, ((p : Nat) : Int)), (2, ((o : Nat) : Int)), (0, x3), (2, ((p + 9 : Nat) : Int)), (0, s0), z6, z7, z8] [(2, ((o : Nat) : Int)), (0, 99), (0, 0)] _ rfl ?_
  refine w_getL (q := o) (v := ((o + 3 : Nat) : Int)) rfl (by decide) (pc' := 83) rfl ⟨Int.natCast_nonneg _, rfl⟩ (zScn_t0 ho) rfl (zScn_r0_5 ho) ?_
  refine zW.go 1 84 [z0, (2, ((p : Nat) : Int)), (2, ((o : Nat) : Int)), (0, x3), (2, ((p + 9 : Nat) : Int)), (0, s0), z6, z7, z8] [(0, x3), (2, ((o + 3 : Nat) : Int)), (0, 99), (0, 0)] _ rfl ?_
  obtain ⟨g, h⟩ := h
  refine w_iald (q := (o + 3)) rfl (by decide) (pc' := 85) rfl ⟨Int.natCast_nonneg _, rfl⟩ (zScn_t3 ho) g rfl ?_
  refine zW.go 2 88 [z0, (2, ((p : Nat) : Int)), (2, ((o : Nat) : Int)), (0, x3), (2, ((p + 9 : Nat) : Int)), (0, s0), z6, z7, z8] [(0, ((mem (o + 3) (x3).toNat) - s0)), (0, 99), (0, 0)] _ rfl ?_
  refine w_calli (as := [(0, 99), (0, ((mem (o + 3) (x3).toNat) - s0))]) [(0, 0)] 91 rfl rfl rfl rfl (Nat.le_of_ble_eq_true rfl) (Nat.le_of_ble_eq_true rfl) (Nat.le_of_ble_eq_true rfl) (Or.inl rfl) (Ci.imp h (fun r10 mem11 h => ?_))
  refine w_calli (as := [(0, 0), (0, r10)]) [] 94 rfl rfl rfl rfl (Nat.le_of_ble_eq_true rfl) (Nat.le_of_ble_eq_true rfl) (Nat.le_of_ble_eq_true rfl) (Or.inl rfl) (Ci.imp h (fun r12 mem13 h => ?_))
  refine zW.go 2 97 [z0, (2, ((p : Nat) : Int)), (2, ((o : Nat) : Int)), (0, x3), (2, ((p + 9 : Nat) : Int)), (0, s0), (0, r12), z7, z8] [(2, ((o : Nat) : Int))] _ rfl ?_
  refine w_getL (q := o) (v := ((o + 3 : Nat) : Int)) rfl (by decide) (pc' := 100) rfl ⟨Int.natCast_nonneg _, rfl⟩ (zScn_t0 ho) rfl (zScn_r0_5 ho) ?_
  refine zW.go 2 103 [z0, (2, ((p : Nat) : Int)), (2, ((o : Nat) : Int)), (0, x3), (2, ((p + 9 : Nat) : Int)), (0, s0), (0, r12), z7, z8] [(0, r12), (0, x3), (2, ((o + 3 : Nat) : Int))] _ rfl ?_
  obtain ⟨g, h⟩ := h
  refine w_iast (q := (o + 3)) rfl (by decide) (pc' := 104) rfl ⟨Int.natCast_nonneg _, rfl⟩ (zScn_t3 ho) g rfl ?_
  refine zW.go 3 109 [z0, (2, ((p : Nat) : Int)), (2, ((o : Nat) : Int)), (0, x3), (2, ((p + 9 : Nat) : Int)), (0, s0), (0, r12), z7, z8] [(0, r12), (0, (-1)), (2, ((p + 9 : Nat) : Int))] _ rfl ?_
  refine w_callv (as := [(2, ((p + 9 : Nat) : Int)), (0, (-1)), (0, r12)]) [] 112 rfl rfl rfl rfl (Nat.le_of_ble_eq_true rfl) (Nat.le_of_ble_eq_true rfl) (Nat.le_of_ble_eq_true rfl) (Or.inr (zrcv_o (zPln_t9 hp))) (Cv.imp h (fun mem14 h => ?_))
  refine zW.go 2 114 [z0, (2, ((p : Nat) : Int)), (2, ((o : Nat) : Int)), (0, x3), (2, ((p + 9 : Nat) : Int)), (0, s0), (0, r12), z7, z8] [(2, ((o : Nat) : Int)), (2, ((o : Nat) : Int))] _ rfl ?_
  refine w_getL (q := o) (v := ((o + 2 : Nat) : Int)) rfl (by decide) (pc' := 117) rfl ⟨Int.natCast_nonneg _, rfl⟩ (zScn_t0 ho) rfl (zScn_r0_4 ho) ?_
  refine zW.go 1 118 [z0, (2, ((p : Nat) : Int)), (2, ((o : Nat) : Int)), (0, x3), (2, ((p + 9 : Nat) : Int)), (0, s0), (0, r12), z7, z8] [(0, x3), (2, ((o + 2 : Nat) : Int)), (2, ((o : Nat) : Int))] _ rfl ?_
  obtain ⟨g, h⟩ := h
  refine w_iald (q := (o + 2)) rfl (by decide) (pc' := 119) rfl ⟨Int.natCast_nonneg _, rfl⟩ (zScn_t2 ho) g rfl ?_
  refine w_calli (as := [(2, ((o : Nat) : Int)), (0, (mem14 (o + 2) (x3).toNat))]) [] 122 rfl rfl rfl rfl (Nat.le_of_ble_eq_true rfl) (Nat.le_of_ble_eq_true rfl) (Nat.le_of_ble_eq_true rfl) (Or.inr (zrcv_o (zScn_t0 ho))) (Ci.imp h (fun r15 mem16 h => ?_))
  refine zW.go 6 132 [z0, (2, ((p : Nat) : Int)), (2, ((o : Nat) : Int)), (0, x3), (2, ((p + 9 : Nat) : Int)), (0, s0), (0, r12), (0, r15), z8] [(0, r15), (0, 1), (2, ((p : Nat) : Int)), (0, (-5)), (2, ((p + 9 : Nat) : Int))] _ rfl ?_
  refine w_calli (as := [(2, ((p : Nat) : Int)), (0, 1), (0, r15)]) [(0, (-5)), (2, ((p + 9 : Nat) : Int))] 135 rfl rfl rfl rfl (Nat.le_of_ble_eq_true rfl) (Nat.le_of_ble_eq_true rfl) (Nat.le_of_ble_eq_true rfl) (Or.inr (zrcv_o (zPln_t0 hp))) (Ci.imp h (fun r17 mem18 h => ?_))
  refine w_if_eq rfl (by decide) (pc' := 138) rfl h.1 (fun c19 => ?_) (fun c19 => ?_)
  · have h := h.2.1 c19
    refine zW.go 1 149 [z0, (2, ((p : Nat) : Int)), (2, ((o : Nat) : Int)), (0, x3), (2, ((p + 9 : Nat) : Int)), (0, s0), (0, r12), (0, r15), z8] [(0, 0), (0, (-5)), (2, ((p + 9 : Nat) : Int))] _ rfl ?_
    exact h z0 (2, ((p : Nat) : Int)) (0, s0) z8
  · have h := h.2.2 c19
    refine zW.go 1 139 [z0, (2, ((p : Nat) : Int)), (2, ((o : Nat) : Int)), (0, x3), (2, ((p + 9 : Nat) : Int)), (0, s0), (0, r12), (0, r15), z8] [(2, ((p : Nat) : Int)), (0, (-5)), (2, ((p + 9 : Nat) : Int))] _ rfl ?_
    refine w_getL (q := p) (v := ((p + 6 : Nat) : Int)) rfl (by decide) (pc' := 142) rfl ⟨Int.natCast_nonneg _, rfl⟩ (zPln_t0 hp) rfl (zPln_r0_11 hp) ?_
    refine zW.go 1 144 [z0, (2, ((p : Nat) : Int)), (2, ((o : Nat) : Int)), (0, x3), (2, ((p + 9 : Nat) : Int)), (0, s0), (0, r12), (0, r15), z8] [(0, r15), (2, ((p + 6 : Nat) : Int)), (0, (-5)), (2, ((p + 9 : Nat) : Int))] _ rfl ?_
    obtain ⟨g, h⟩ := h
    refine w_iald (q := (p + 6)) rfl (by decide) (pc' := 145) rfl ⟨Int.natCast_nonneg _, rfl⟩ (zPln_t6 hp) g rfl ?_
    refine zW.go 1 149 [z0, (2, ((p : Nat) : Int)), (2, ((o : Nat) : Int)), (0, x3), (2, ((p + 9 : Nat) : Int)), (0, s0), (0, r12), (0, r15), z8] [(0, (mem18 (p + 6) (r15).toNat)), (0, (-5)), (2, ((p + 9 : Nat) : Int))] _ rfl ?_
    exact h z0 (2, ((p : Nat) : Int)) (0, s0) z8
set_option maxRecDepth 4000 in
theorem s_works_thinOne_149 {X : zX} {d : Nat} {rf mem : zF} {Q : Int → zF → Prop} (hR : zall rf zRK = true) {w : Nat} (hw : zWrk rf w) {p : Nat} (hp : zPln rf p) {o : Nat} (ho : zScn rf o) {x3 : Int} {x6 : Int} {x7 : Int} {s1 : Int} {s2 : Int} (h : Cv X d 78 [(2, ((p + 9 : Nat) : Int)), (0, s1), (0, s2)] rf mem (fun mem20 => (inI x6) ∧ ((x6 = 0 → Cv X d 94 [(2, ((o : Nat) : Int)), (0, x3), (0, x7)] rf mem20 (fun mem22 => Q 1 mem22)) ∧ (¬ x6 = 0 → Ci X d 79 [(2, ((p + 9 : Nat) : Int)), (0, 1)] rf mem20 (fun r23 mem24 => (inI r23) ∧ ((r23 = 0 → (0 ≤ x3 ∧ x3 < 6) ∧ ((inI (mem24 (o + 2) (x3).toNat) ∧ inI (mem24 o 1)) ∧ ((¬ (mem24 (o + 2) (x3).toNat) = (mem24 o 1) → Q 0 mem24) ∧ ((mem24 (o + 2) (x3).toNat) = (mem24 o 1) → (0 ≤ x3 ∧ x3 < 6) ∧ (Ci X d 317 [(0, (mem24 (o + 5) (x3).toNat))] rf mem24 (fun r27 mem28 => Cv X d 78 [(2, ((p + 9 : Nat) : Int)), (0, (-6)), (0, r27)] rf mem28 (fun mem29 => Ci X d 74 [(2, ((p + 9 : Nat) : Int)), (0, 2)] rf mem29 (fun r30 mem31 => (inI r30) ∧ ((r30 = 0 → (inI x6) ∧ (L_works_thinOne_227 X d rf Q mem31 w p o x3 (x6.tdiv 10))) ∧ (¬ r30 = 0 → Ci X d 79 [(2, ((p + 9 : Nat) : Int)), (0, 2)] rf mem31 (fun r33 mem34 => L_works_thinOne_227 X d rf Q mem34 w p o x3 r33))))))))))) ∧ (¬ r23 = 0 → Cv X d 94 [(2, ((o : Nat) : Int)), (0, x3), (0, x7)] rf mem24 (fun mem35 => Q 1 mem35)))))))) : L_works_thinOne_149 X d rf Q mem w p o x3 x6 x7 s1 s2 := by
  intro z0 z1 z5 z8
  refine w_callv (as := [(2, ((p + 9 : Nat) : Int)), (0, s1), (0, s2)]) [] 152 rfl rfl rfl rfl (Nat.le_of_ble_eq_true rfl) (Nat.le_of_ble_eq_true rfl) (Nat.le_of_ble_eq_true rfl) (Or.inr (zrcv_o (zPln_t9 hp))) (Cv.imp h (fun mem20 h => ?_))
  refine zW.go 1 154 [z0, z1, (2, ((o : Nat) : Int)), (0, x3), (2, ((p + 9 : Nat) : Int)), z5, (0, x6), (0, x7), z8] [(0, x6)] _ rfl ?_
  refine w_if_eq rfl (by decide) (pc' := 157) rfl h.1 (fun c21 => ?_) (fun c21 => ?_)
  · have h := h.2.1 c21
    refine zW.go 3 170 [z0, z1, (2, ((o : Nat) : Int)), (0, x3), (2, ((p + 9 : Nat) : Int)), z5, (0, x6), (0, x7), z8] [(0, x7), (0, x3), (2, ((o : Nat) : Int))] _ rfl ?_
    refine w_callv (as := [(2, ((o : Nat) : Int)), (0, x3), (0, x7)]) [] 173 rfl rfl rfl rfl (Nat.le_of_ble_eq_true rfl) (Nat.le_of_ble_eq_true rfl) (Nat.le_of_ble_eq_true rfl) (Or.inr (zrcv_o (zScn_t0 ho))) (Cv.imp h (fun mem22 h => ?_))
    refine zW.go 1 174 [z0, z1, (2, ((o : Nat) : Int)), (0, x3), (2, ((p + 9 : Nat) : Int)), z5, (0, x6), (0, x7), z8] [(0, 1)] _ rfl ?_
    exact w_retz rfl rfl (by decide) h
  · have h := h.2.2 c21
    refine zW.go 2 160 [z0, z1, (2, ((o : Nat) : Int)), (0, x3), (2, ((p + 9 : Nat) : Int)), z5, (0, x6), (0, x7), z8] [(0, 1), (2, ((p + 9 : Nat) : Int))] _ rfl ?_
    refine w_calli (as := [(2, ((p + 9 : Nat) : Int)), (0, 1)]) [] 163 rfl rfl rfl rfl (Nat.le_of_ble_eq_true rfl) (Nat.le_of_ble_eq_true rfl) (Nat.le_of_ble_eq_true rfl) (Or.inr (zrcv_o (zPln_t9 hp))) (Ci.imp h (fun r23 mem24 h => ?_))
    refine w_if_eq rfl (by decide) (pc' := 166) rfl h.1 (fun c25 => ?_) (fun c25 => ?_)
    · have h := h.2.1 c25
      refine zW.go 1 176 [z0, z1, (2, ((o : Nat) : Int)), (0, x3), (2, ((p + 9 : Nat) : Int)), z5, (0, x6), (0, x7), z8] [(2, ((o : Nat) : Int))] _ rfl ?_
      refine w_getL (q := o) (v := ((o + 2 : Nat) : Int)) rfl (by decide) (pc' := 179) rfl ⟨Int.natCast_nonneg _, rfl⟩ (zScn_t0 ho) rfl (zScn_r0_4 ho) ?_
      refine zW.go 1 180 [z0, z1, (2, ((o : Nat) : Int)), (0, x3), (2, ((p + 9 : Nat) : Int)), z5, (0, x6), (0, x7), z8] [(0, x3), (2, ((o + 2 : Nat) : Int))] _ rfl ?_
      obtain ⟨g, h⟩ := h
      refine w_iald (q := (o + 2)) rfl (by decide) (pc' := 181) rfl ⟨Int.natCast_nonneg _, rfl⟩ (zScn_t2 ho) g rfl ?_
      refine zW.go 1 182 [z0, z1, (2, ((o : Nat) : Int)), (0, x3), (2, ((p + 9 : Nat) : Int)), z5, (0, x6), (0, x7), z8] [(2, ((o : Nat) : Int)), (0, (mem24 (o + 2) (x3).toNat))] _ rfl ?_
      refine w_getI (q := o) rfl (by decide) (pc' := 185) rfl ⟨Int.natCast_nonneg _, rfl⟩ (zScn_t0 ho) (by decide) ?_
      refine w_ic_ne rfl (by decide) (pc' := 188) rfl h.1 (fun c26 => ?_) (fun c26 => ?_)
      · have h := h.2.1 c26
        refine zW.go 1 246 [z0, z1, (2, ((o : Nat) : Int)), (0, x3), (2, ((p + 9 : Nat) : Int)), z5, (0, x6), (0, x7), z8] [(0, 0)] _ rfl ?_
        exact w_retz rfl rfl (by decide) h
      · have h := h.2.2 c26
        refine zW.go 3 193 [z0, z1, (2, ((o : Nat) : Int)), (0, x3), (2, ((p + 9 : Nat) : Int)), z5, (0, x6), (0, x7), z8] [(2, ((o : Nat) : Int)), (0, (-6)), (2, ((p + 9 : Nat) : Int))] _ rfl ?_
        refine w_getL (q := o) (v := ((o + 5 : Nat) : Int)) rfl (by decide) (pc' := 196) rfl ⟨Int.natCast_nonneg _, rfl⟩ (zScn_t0 ho) rfl (zScn_r0_7 ho) ?_
        refine zW.go 1 197 [z0, z1, (2, ((o : Nat) : Int)), (0, x3), (2, ((p + 9 : Nat) : Int)), z5, (0, x6), (0, x7), z8] [(0, x3), (2, ((o + 5 : Nat) : Int)), (0, (-6)), (2, ((p + 9 : Nat) : Int))] _ rfl ?_
        obtain ⟨g, h⟩ := h
        refine w_iald (q := (o + 5)) rfl (by decide) (pc' := 198) rfl ⟨Int.natCast_nonneg _, rfl⟩ (zScn_t5 ho) g rfl ?_
        refine w_calli (as := [(0, (mem24 (o + 5) (x3).toNat))]) [(0, (-6)), (2, ((p + 9 : Nat) : Int))] 201 rfl rfl rfl rfl (Nat.le_of_ble_eq_true rfl) (Nat.le_of_ble_eq_true rfl) (Nat.le_of_ble_eq_true rfl) (Or.inl rfl) (Ci.imp h (fun r27 mem28 h => ?_))
        refine w_callv (as := [(2, ((p + 9 : Nat) : Int)), (0, (-6)), (0, r27)]) [] 204 rfl rfl rfl rfl (Nat.le_of_ble_eq_true rfl) (Nat.le_of_ble_eq_true rfl) (Nat.le_of_ble_eq_true rfl) (Or.inr (zrcv_o (zPln_t9 hp))) (Cv.imp h (fun mem29 h => ?_))
        refine zW.go 2 207 [z0, z1, (2, ((o : Nat) : Int)), (0, x3), (2, ((p + 9 : Nat) : Int)), z5, (0, x6), (0, x7), z8] [(0, 2), (2, ((p + 9 : Nat) : Int))] _ rfl ?_
        refine w_calli (as := [(2, ((p + 9 : Nat) : Int)), (0, 2)]) [] 210 rfl rfl rfl rfl (Nat.le_of_ble_eq_true rfl) (Nat.le_of_ble_eq_true rfl) (Nat.le_of_ble_eq_true rfl) (Or.inr (zrcv_o (zPln_t9 hp))) (Ci.imp h (fun r30 mem31 h => ?_))
        refine w_if_eq rfl (by decide) (pc' := 213) rfl h.1 (fun c32 => ?_) (fun c32 => ?_)
        · have h := h.2.1 c32
          refine zW.go 2 226 [z0, z1, (2, ((o : Nat) : Int)), (0, x3), (2, ((p + 9 : Nat) : Int)), z5, (0, x6), (0, x7), z8] [(0, 10), (0, x6)] _ rfl ?_
          obtain ⟨g, h⟩ := h
          refine w_idiv rfl (by decide) (pc' := 227) rfl ⟨g, by decide, by decide⟩ ?_
          exact h z0 z1 (2, ((p + 9 : Nat) : Int)) z5 (0, x6) (0, x7) (by show (0 : Nat) ≠ 1; decide) z8
        · have h := h.2.2 c32
          refine zW.go 2 216 [z0, z1, (2, ((o : Nat) : Int)), (0, x3), (2, ((p + 9 : Nat) : Int)), z5, (0, x6), (0, x7), z8] [(0, 2), (2, ((p + 9 : Nat) : Int))] _ rfl ?_
          refine w_calli (as := [(2, ((p + 9 : Nat) : Int)), (0, 2)]) [] 219 rfl rfl rfl rfl (Nat.le_of_ble_eq_true rfl) (Nat.le_of_ble_eq_true rfl) (Nat.le_of_ble_eq_true rfl) (Or.inr (zrcv_o (zPln_t9 hp))) (Ci.imp h (fun r33 mem34 h => ?_))
          refine zW.go 1 227 [z0, z1, (2, ((o : Nat) : Int)), (0, x3), (2, ((p + 9 : Nat) : Int)), z5, (0, x6), (0, x7), z8] [(0, r33)] _ rfl ?_
          exact h z0 z1 (2, ((p + 9 : Nat) : Int)) z5 (0, x6) (0, x7) (by show (0 : Nat) ≠ 1; decide) z8
    · have h := h.2.2 c25
      refine zW.go 3 170 [z0, z1, (2, ((o : Nat) : Int)), (0, x3), (2, ((p + 9 : Nat) : Int)), z5, (0, x6), (0, x7), z8] [(0, x7), (0, x3), (2, ((o : Nat) : Int))] _ rfl ?_
      refine w_callv (as := [(2, ((o : Nat) : Int)), (0, x3), (0, x7)]) [] 173 rfl rfl rfl rfl (Nat.le_of_ble_eq_true rfl) (Nat.le_of_ble_eq_true rfl) (Nat.le_of_ble_eq_true rfl) (Or.inr (zrcv_o (zScn_t0 ho))) (Cv.imp h (fun mem35 h => ?_))
      refine zW.go 1 174 [z0, z1, (2, ((o : Nat) : Int)), (0, x3), (2, ((p + 9 : Nat) : Int)), z5, (0, x6), (0, x7), z8] [(0, 1)] _ rfl ?_
      exact w_retz rfl rfl (by decide) h
set_option maxRecDepth 4000 in
theorem s_works_thinOne_227 {X : zX} {d : Nat} {rf mem : zF} {Q : Int → zF → Prop} (hR : zall rf zRK = true) {w : Nat} (hw : zWrk rf w) {p : Nat} (hp : zPln rf p) {o : Nat} (ho : zScn rf o) {x3 : Int} {s0 : Int} (h : Ci X d 321 [(0, 9), (0, s0)] rf mem (fun r36 mem37 => Ci X d 320 [(0, 0), (0, r36)] rf mem37 (fun r38 mem39 => Cv X d 95 [(2, ((o : Nat) : Int)), (0, x3), (0, r38)] rf mem39 (fun mem40 => Q 0 mem40)))) : L_works_thinOne_227 X d rf Q mem w p o x3 s0 := by
  intro z0 z1 z4 z5 z6 z7 hz7 z8
  refine zW.step 229 [z0, z1, (2, ((o : Nat) : Int)), (0, x3), z4, z5, z6, z7, (0, s0)] [] _ rfl (by decide) (by decide) (by show some (_, zst1 [z0, z1, (2, ((o : Nat) : Int)), (0, x3), z4, z5, z6, z7, z8] 8 _, _, _) = _; rw [zst1_z (ls := [z0, z1, (2, ((o : Nat) : Int)), (0, x3), z4, z5, z6, z7, z8]) (i := 8) hz7]; rfl) ?_
  refine zW.go 5 236 [z0, z1, (2, ((o : Nat) : Int)), (0, x3), z4, z5, z6, z7, (0, s0)] [(0, s0), (0, 9), (0, 0), (0, x3), (2, ((o : Nat) : Int))] _ rfl ?_
  refine w_calli (as := [(0, 9), (0, s0)]) [(0, 0), (0, x3), (2, ((o : Nat) : Int))] 239 rfl rfl rfl rfl (Nat.le_of_ble_eq_true rfl) (Nat.le_of_ble_eq_true rfl) (Nat.le_of_ble_eq_true rfl) (Or.inl rfl) (Ci.imp h (fun r36 mem37 h => ?_))
  refine w_calli (as := [(0, 0), (0, r36)]) [(0, x3), (2, ((o : Nat) : Int))] 242 rfl rfl rfl rfl (Nat.le_of_ble_eq_true rfl) (Nat.le_of_ble_eq_true rfl) (Nat.le_of_ble_eq_true rfl) (Or.inl rfl) (Ci.imp h (fun r38 mem39 h => ?_))
  refine w_callv (as := [(2, ((o : Nat) : Int)), (0, x3), (0, r38)]) [] 245 rfl rfl rfl rfl (Nat.le_of_ble_eq_true rfl) (Nat.le_of_ble_eq_true rfl) (Nat.le_of_ble_eq_true rfl) (Or.inr (zrcv_o (zScn_t0 ho))) (Cv.imp h (fun mem40 h => ?_))
  refine zW.go 1 246 [z0, z1, (2, ((o : Nat) : Int)), (0, x3), z4, z5, z6, z7, (0, s0)] [(0, 0)] _ rfl ?_
  exact w_retz rfl rfl (by decide) h
set_option maxRecDepth 4000 in
theorem s_works_thinOne {X : zX} {d : Nat} {rf mem : zF} {Q : Int → zF → Prop} (hR : zall rf zRK = true) {w : Nat} (hw : zWrk rf w) {p : Nat} (hp : zPln rf p) {o : Nat} (ho : zScn rf o) {x3 : Int} (h : (0 ≤ x3 ∧ x3 < 6) ∧ (Cv X d 78 [(2, ((p + 9 : Nat) : Int)), (0, (-1)), (0, (mem (o + 3) (x3).toNat))] rf mem (fun mem1 => (0 ≤ x3 ∧ x3 < 6) ∧ (Cv X d 78 [(2, ((p + 9 : Nat) : Int)), (0, (-2)), (0, (mem1 (o + 4) (x3).toNat))] rf mem1 (fun mem2 => Cv X d 78 [(2, ((p + 9 : Nat) : Int)), (0, (-3)), (0, (mem2 o 0))] rf mem2 (fun mem3 => (0 ≤ x3 ∧ x3 < 6) ∧ (Cv X d 78 [(2, ((p + 9 : Nat) : Int)), (0, (-4)), (0, (mem3 (w + 2) (x3).toNat))] rf mem3 (fun mem4 => Ci X d 74 [(2, ((p + 9 : Nat) : Int)), (0, 0)] rf mem4 (fun r5 mem6 => (inI r5) ∧ ((r5 = 0 → L_works_thinOne_74 X d rf Q mem6 w p o x3 1) ∧ (¬ r5 = 0 → Ci X d 79 [(2, ((p + 9 : Nat) : Int)), (0, 0)] rf mem6 (fun r8 mem9 => L_works_thinOne_74 X d rf Q mem9 w p o x3 r8)))))))))))) : Ci X (d + 1) 147 [(2, ((w : Nat) : Int)), (2, ((p : Nat) : Int)), (2, ((o : Nat) : Int)), (0, x3)] rf mem Q := by
  show zW X (d + 1) 147 0 [(2, ((w : Nat) : Int)), (2, ((p : Nat) : Int)), (2, ((o : Nat) : Int)), (0, x3), (9, 0), (9, 0), (9, 0), (9, 0), (9, 0)] [] (zty, rf, mem) (qi rf Q)
  refine zW.go 1 1 [(2, ((w : Nat) : Int)), (2, ((p : Nat) : Int)), (2, ((o : Nat) : Int)), (0, x3), (9, 0), (9, 0), (9, 0), (9, 0), (9, 0)] [(2, ((p : Nat) : Int))] _ rfl ?_
  refine w_getL (q := p) (v := ((p + 9 : Nat) : Int)) rfl (by decide) (pc' := 4) rfl ⟨Int.natCast_nonneg _, rfl⟩ (zPln_t0 hp) rfl (zPln_r0_14 hp) ?_
  refine zW.go 4 10 [(2, ((w : Nat) : Int)), (2, ((p : Nat) : Int)), (2, ((o : Nat) : Int)), (0, x3), (2, ((p + 9 : Nat) : Int)), (9, 0), (9, 0), (9, 0), (9, 0)] [(2, ((o : Nat) : Int)), (0, (-1)), (2, ((p + 9 : Nat) : Int))] _ rfl ?_
  refine w_getL (q := o) (v := ((o + 3 : Nat) : Int)) rfl (by decide) (pc' := 13) rfl ⟨Int.natCast_nonneg _, rfl⟩ (zScn_t0 ho) rfl (zScn_r0_5 ho) ?_
  refine zW.go 1 14 [(2, ((w : Nat) : Int)), (2, ((p : Nat) : Int)), (2, ((o : Nat) : Int)), (0, x3), (2, ((p + 9 : Nat) : Int)), (9, 0), (9, 0), (9, 0), (9, 0)] [(0, x3), (2, ((o + 3 : Nat) : Int)), (0, (-1)), (2, ((p + 9 : Nat) : Int))] _ rfl ?_
  obtain ⟨g, h⟩ := h
  refine w_iald (q := (o + 3)) rfl (by decide) (pc' := 15) rfl ⟨Int.natCast_nonneg _, rfl⟩ (zScn_t3 ho) g rfl ?_
  refine w_callv (as := [(2, ((p + 9 : Nat) : Int)), (0, (-1)), (0, (mem (o + 3) (x3).toNat))]) [] 18 rfl rfl rfl rfl (Nat.le_of_ble_eq_true rfl) (Nat.le_of_ble_eq_true rfl) (Nat.le_of_ble_eq_true rfl) (Or.inr (zrcv_o (zPln_t9 hp))) (Cv.imp h (fun mem1 h => ?_))
  refine zW.go 3 23 [(2, ((w : Nat) : Int)), (2, ((p : Nat) : Int)), (2, ((o : Nat) : Int)), (0, x3), (2, ((p + 9 : Nat) : Int)), (9, 0), (9, 0), (9, 0), (9, 0)] [(2, ((o : Nat) : Int)), (0, (-2)), (2, ((p + 9 : Nat) : Int))] _ rfl ?_
  refine w_getL (q := o) (v := ((o + 4 : Nat) : Int)) rfl (by decide) (pc' := 26) rfl ⟨Int.natCast_nonneg _, rfl⟩ (zScn_t0 ho) rfl (zScn_r0_6 ho) ?_
  refine zW.go 1 27 [(2, ((w : Nat) : Int)), (2, ((p : Nat) : Int)), (2, ((o : Nat) : Int)), (0, x3), (2, ((p + 9 : Nat) : Int)), (9, 0), (9, 0), (9, 0), (9, 0)] [(0, x3), (2, ((o + 4 : Nat) : Int)), (0, (-2)), (2, ((p + 9 : Nat) : Int))] _ rfl ?_
  obtain ⟨g, h⟩ := h
  refine w_iald (q := (o + 4)) rfl (by decide) (pc' := 28) rfl ⟨Int.natCast_nonneg _, rfl⟩ (zScn_t4 ho) g rfl ?_
  refine w_callv (as := [(2, ((p + 9 : Nat) : Int)), (0, (-2)), (0, (mem1 (o + 4) (x3).toNat))]) [] 31 rfl rfl rfl rfl (Nat.le_of_ble_eq_true rfl) (Nat.le_of_ble_eq_true rfl) (Nat.le_of_ble_eq_true rfl) (Or.inr (zrcv_o (zPln_t9 hp))) (Cv.imp h (fun mem2 h => ?_))
  refine zW.go 3 36 [(2, ((w : Nat) : Int)), (2, ((p : Nat) : Int)), (2, ((o : Nat) : Int)), (0, x3), (2, ((p + 9 : Nat) : Int)), (9, 0), (9, 0), (9, 0), (9, 0)] [(2, ((o : Nat) : Int)), (0, (-3)), (2, ((p + 9 : Nat) : Int))] _ rfl ?_
  refine w_getI (q := o) rfl (by decide) (pc' := 39) rfl ⟨Int.natCast_nonneg _, rfl⟩ (zScn_t0 ho) (by decide) ?_
  refine w_callv (as := [(2, ((p + 9 : Nat) : Int)), (0, (-3)), (0, (mem2 o 0))]) [] 42 rfl rfl rfl rfl (Nat.le_of_ble_eq_true rfl) (Nat.le_of_ble_eq_true rfl) (Nat.le_of_ble_eq_true rfl) (Or.inr (zrcv_o (zPln_t9 hp))) (Cv.imp h (fun mem3 h => ?_))
  refine zW.go 3 47 [(2, ((w : Nat) : Int)), (2, ((p : Nat) : Int)), (2, ((o : Nat) : Int)), (0, x3), (2, ((p + 9 : Nat) : Int)), (9, 0), (9, 0), (9, 0), (9, 0)] [(2, ((w : Nat) : Int)), (0, (-4)), (2, ((p + 9 : Nat) : Int))] _ rfl ?_
  refine w_getL (q := w) (v := ((w + 2 : Nat) : Int)) rfl (by decide) (pc' := 50) rfl ⟨Int.natCast_nonneg _, rfl⟩ (zWrk_t0 hw) rfl (zWrk_r0_1 hw) ?_
  refine zW.go 1 51 [(2, ((w : Nat) : Int)), (2, ((p : Nat) : Int)), (2, ((o : Nat) : Int)), (0, x3), (2, ((p + 9 : Nat) : Int)), (9, 0), (9, 0), (9, 0), (9, 0)] [(0, x3), (2, ((w + 2 : Nat) : Int)), (0, (-4)), (2, ((p + 9 : Nat) : Int))] _ rfl ?_
  obtain ⟨g, h⟩ := h
  refine w_iald (q := (w + 2)) rfl (by decide) (pc' := 52) rfl ⟨Int.natCast_nonneg _, rfl⟩ (zWrk_t2 hw) g rfl ?_
  refine w_callv (as := [(2, ((p + 9 : Nat) : Int)), (0, (-4)), (0, (mem3 (w + 2) (x3).toNat))]) [] 55 rfl rfl rfl rfl (Nat.le_of_ble_eq_true rfl) (Nat.le_of_ble_eq_true rfl) (Nat.le_of_ble_eq_true rfl) (Or.inr (zrcv_o (zPln_t9 hp))) (Cv.imp h (fun mem4 h => ?_))
  refine zW.go 2 58 [(2, ((w : Nat) : Int)), (2, ((p : Nat) : Int)), (2, ((o : Nat) : Int)), (0, x3), (2, ((p + 9 : Nat) : Int)), (9, 0), (9, 0), (9, 0), (9, 0)] [(0, 0), (2, ((p + 9 : Nat) : Int))] _ rfl ?_
  refine w_calli (as := [(2, ((p + 9 : Nat) : Int)), (0, 0)]) [] 61 rfl rfl rfl rfl (Nat.le_of_ble_eq_true rfl) (Nat.le_of_ble_eq_true rfl) (Nat.le_of_ble_eq_true rfl) (Or.inr (zrcv_o (zPln_t9 hp))) (Ci.imp h (fun r5 mem6 h => ?_))
  refine w_if_eq rfl (by decide) (pc' := 64) rfl h.1 (fun c7 => ?_) (fun c7 => ?_)
  · have h := h.2.1 c7
    refine zW.go 1 74 [(2, ((w : Nat) : Int)), (2, ((p : Nat) : Int)), (2, ((o : Nat) : Int)), (0, x3), (2, ((p + 9 : Nat) : Int)), (9, 0), (9, 0), (9, 0), (9, 0)] [(0, 1)] _ rfl ?_
    exact h (2, ((w : Nat) : Int)) (9, 0) (9, 0) (9, 0) (9, 0)
  · have h := h.2.2 c7
    refine zW.go 2 67 [(2, ((w : Nat) : Int)), (2, ((p : Nat) : Int)), (2, ((o : Nat) : Int)), (0, x3), (2, ((p + 9 : Nat) : Int)), (9, 0), (9, 0), (9, 0), (9, 0)] [(0, 0), (2, ((p + 9 : Nat) : Int))] _ rfl ?_
    refine w_calli (as := [(2, ((p + 9 : Nat) : Int)), (0, 0)]) [] 70 rfl rfl rfl rfl (Nat.le_of_ble_eq_true rfl) (Nat.le_of_ble_eq_true rfl) (Nat.le_of_ble_eq_true rfl) (Or.inr (zrcv_o (zPln_t9 hp))) (Ci.imp h (fun r8 mem9 h => ?_))
    refine zW.go 1 74 [(2, ((w : Nat) : Int)), (2, ((p : Nat) : Int)), (2, ((o : Nat) : Int)), (0, x3), (2, ((p + 9 : Nat) : Int)), (9, 0), (9, 0), (9, 0), (9, 0)] [(0, r8)] _ rfl ?_
    exact h (2, ((w : Nat) : Int)) (9, 0) (9, 0) (9, 0) (9, 0)
set_option maxRecDepth 4000 in
theorem s_c_feed {X : zX} {d : Nat} {rf mem : zF} {Q : Int → zF → Prop} (hR : zall rf zRK = true) {p : Nat} (hp : zPln rf p) (hpl : rf 0 8 = ((p : Nat) : Int)) {x1 : Int} {x2 : Int} {x3 : Int} {x4 : Int} {x5 : Int} (h : (inI ((mem 1 1) + 20)) ∧ ((((mem 1 1) + 20) ≤ 1600 → Cv X d 124 [(2, 1), (0, x1)] rf mem (fun mem2 => Cv X d 124 [(2, 1), (0, x2)] rf mem2 (fun mem3 => Cv X d 124 [(2, 1), (0, x3)] rf mem3 (fun mem4 => Cv X d 124 [(2, 1), (0, x4)] rf mem4 (fun mem5 => Cv X d 124 [(2, 1), (0, x5)] rf mem5 (fun mem6 => Q (mem6 1 1) mem6)))))) ∧ (¬ ((mem 1 1) + 20) ≤ 1600 → Ci X d 185 [(2, 0), (0, 0)] rf mem (fun r7 mem8 => Q r7 mem8)))) : Ci X (d + 1) 149 [(2, 0), (0, x1), (0, x2), (0, x3), (0, x4), (0, x5)] rf mem Q := by
  show zW X (d + 1) 149 0 [(2, 0), (0, x1), (0, x2), (0, x3), (0, x4), (0, x5)] [] (zty, rf, mem) (qi rf Q)
  refine zW.go 1 1 [(2, 0), (0, x1), (0, x2), (0, x3), (0, x4), (0, x5)] [(2, 0)] _ rfl ?_
  refine w_getL (q := 0) (v := 1) rfl (by decide) (pc' := 4) rfl ⟨by decide, rfl⟩ rfl rfl (zall_at hR (by decide)) ?_
  refine w_getI (q := 1) rfl (by decide) (pc' := 7) rfl ⟨by decide, rfl⟩ rfl (by decide) ?_
  refine zW.go 3 13 [(2, 0), (0, x1), (0, x2), (0, x3), (0, x4), (0, x5)] [(0, 1600), (0, ((mem 1 1) + 20))] _ rfl ?_
  refine w_ic_le rfl (by decide) (pc' := 16) rfl ⟨h.1, by decide⟩ (fun c1 => ?_) (fun c1 => ?_)
  · have h := h.2.1 c1
    refine zW.go 1 23 [(2, 0), (0, x1), (0, x2), (0, x3), (0, x4), (0, x5)] [(2, 0)] _ rfl ?_
    refine w_getL (q := 0) (v := 1) rfl (by decide) (pc' := 26) rfl ⟨by decide, rfl⟩ rfl rfl (zall_at hR (by decide)) ?_
    refine zW.go 1 27 [(2, 0), (0, x1), (0, x2), (0, x3), (0, x4), (0, x5)] [(0, x1), (2, 1)] _ rfl ?_
    refine w_callv (as := [(2, 1), (0, x1)]) [] 30 rfl rfl rfl rfl (Nat.le_of_ble_eq_true rfl) (Nat.le_of_ble_eq_true rfl) (Nat.le_of_ble_eq_true rfl) (Or.inr rfl) (Cv.imp h (fun mem2 h => ?_))
    refine zW.go 1 31 [(2, 0), (0, x1), (0, x2), (0, x3), (0, x4), (0, x5)] [(2, 0)] _ rfl ?_
    refine w_getL (q := 0) (v := 1) rfl (by decide) (pc' := 34) rfl ⟨by decide, rfl⟩ rfl rfl (zall_at hR (by decide)) ?_
    refine zW.go 1 35 [(2, 0), (0, x1), (0, x2), (0, x3), (0, x4), (0, x5)] [(0, x2), (2, 1)] _ rfl ?_
    refine w_callv (as := [(2, 1), (0, x2)]) [] 38 rfl rfl rfl rfl (Nat.le_of_ble_eq_true rfl) (Nat.le_of_ble_eq_true rfl) (Nat.le_of_ble_eq_true rfl) (Or.inr rfl) (Cv.imp h (fun mem3 h => ?_))
    refine zW.go 1 39 [(2, 0), (0, x1), (0, x2), (0, x3), (0, x4), (0, x5)] [(2, 0)] _ rfl ?_
    refine w_getL (q := 0) (v := 1) rfl (by decide) (pc' := 42) rfl ⟨by decide, rfl⟩ rfl rfl (zall_at hR (by decide)) ?_
    refine zW.go 1 43 [(2, 0), (0, x1), (0, x2), (0, x3), (0, x4), (0, x5)] [(0, x3), (2, 1)] _ rfl ?_
    refine w_callv (as := [(2, 1), (0, x3)]) [] 46 rfl rfl rfl rfl (Nat.le_of_ble_eq_true rfl) (Nat.le_of_ble_eq_true rfl) (Nat.le_of_ble_eq_true rfl) (Or.inr rfl) (Cv.imp h (fun mem4 h => ?_))
    refine zW.go 1 47 [(2, 0), (0, x1), (0, x2), (0, x3), (0, x4), (0, x5)] [(2, 0)] _ rfl ?_
    refine w_getL (q := 0) (v := 1) rfl (by decide) (pc' := 50) rfl ⟨by decide, rfl⟩ rfl rfl (zall_at hR (by decide)) ?_
    refine zW.go 1 52 [(2, 0), (0, x1), (0, x2), (0, x3), (0, x4), (0, x5)] [(0, x4), (2, 1)] _ rfl ?_
    refine w_callv (as := [(2, 1), (0, x4)]) [] 55 rfl rfl rfl rfl (Nat.le_of_ble_eq_true rfl) (Nat.le_of_ble_eq_true rfl) (Nat.le_of_ble_eq_true rfl) (Or.inr rfl) (Cv.imp h (fun mem5 h => ?_))
    refine zW.go 1 56 [(2, 0), (0, x1), (0, x2), (0, x3), (0, x4), (0, x5)] [(2, 0)] _ rfl ?_
    refine w_getL (q := 0) (v := 1) rfl (by decide) (pc' := 59) rfl ⟨by decide, rfl⟩ rfl rfl (zall_at hR (by decide)) ?_
    refine zW.go 1 61 [(2, 0), (0, x1), (0, x2), (0, x3), (0, x4), (0, x5)] [(0, x5), (2, 1)] _ rfl ?_
    refine w_callv (as := [(2, 1), (0, x5)]) [] 64 rfl rfl rfl rfl (Nat.le_of_ble_eq_true rfl) (Nat.le_of_ble_eq_true rfl) (Nat.le_of_ble_eq_true rfl) (Or.inr rfl) (Cv.imp h (fun mem6 h => ?_))
    refine zW.go 1 65 [(2, 0), (0, x1), (0, x2), (0, x3), (0, x4), (0, x5)] [(2, 0)] _ rfl ?_
    refine w_getL (q := 0) (v := 1) rfl (by decide) (pc' := 68) rfl ⟨by decide, rfl⟩ rfl rfl (zall_at hR (by decide)) ?_
    refine w_getI (q := 1) rfl (by decide) (pc' := 71) rfl ⟨by decide, rfl⟩ rfl (by decide) ?_
    exact w_reti rfl rfl h
  · have h := h.2.2 c1
    refine zW.go 2 18 [(2, 0), (0, x1), (0, x2), (0, x3), (0, x4), (0, x5)] [(0, 0), (2, 0)] _ rfl ?_
    refine w_calli (as := [(2, 0), (0, 0)]) [] 21 rfl rfl rfl rfl (Nat.le_of_ble_eq_true rfl) (Nat.le_of_ble_eq_true rfl) (Nat.le_of_ble_eq_true rfl) (Or.inr rfl) (Ci.imp h (fun r7 mem8 h => ?_))
    exact w_reti rfl rfl h
set_option maxRecDepth 4000 in
theorem s_c_end {X : zX} {d : Nat} {rf mem : zF} {Q : Int → zF → Prop} (hR : zall rf zRK = true) {p : Nat} (hp : zPln rf p) (hpl : rf 0 8 = ((p : Nat) : Int)) {x1 : Int} (h : (inI x1) ∧ ((x1 < 0 → Ci X d 184 [(2, 0), (0, 0)] rf mem (fun r2 mem3 => (r2 = 0 ∨ r2 = 1) ∧ Q r2 mem3)) ∧ (¬ x1 < 0 → (inI x1 ∧ inI (mem 1 1)) ∧ ((x1 ≤ (mem 1 1) → Q 1 (zup mem 1 1 x1)) ∧ (¬ x1 ≤ (mem 1 1) → Ci X d 184 [(2, 0), (0, 0)] rf mem (fun r5 mem6 => (r5 = 0 ∨ r5 = 1) ∧ Q r5 mem6)))))) : Ci X (d + 1) 150 [(2, 0), (0, x1)] rf mem Q := by
  show zW X (d + 1) 150 0 [(2, 0), (0, x1)] [] (zty, rf, mem) (qi rf Q)
  refine zW.go 1 1 [(2, 0), (0, x1)] [(0, x1)] _ rfl ?_
  refine w_if_lt rfl (by decide) (pc' := 4) rfl h.1 (fun c1 => ?_) (fun c1 => ?_)
  · have h := h.2.1 c1
    refine zW.go 2 17 [(2, 0), (0, x1)] [(0, 0), (2, 0)] _ rfl ?_
    refine w_calli (as := [(2, 0), (0, 0)]) [] 20 rfl rfl rfl rfl (Nat.le_of_ble_eq_true rfl) (Nat.le_of_ble_eq_true rfl) (Nat.le_of_ble_eq_true rfl) (Or.inr rfl) (Ci.imp h (fun r2 mem3 h => ?_))
    exact w_retz rfl rfl h.1 h.2
  · have h := h.2.2 c1
    refine zW.go 2 6 [(2, 0), (0, x1)] [(2, 0), (0, x1)] _ rfl ?_
    refine w_getL (q := 0) (v := 1) rfl (by decide) (pc' := 9) rfl ⟨by decide, rfl⟩ rfl rfl (zall_at hR (by decide)) ?_
    refine w_getI (q := 1) rfl (by decide) (pc' := 12) rfl ⟨by decide, rfl⟩ rfl (by decide) ?_
    refine w_ic_le rfl (by decide) (pc' := 15) rfl h.1 (fun c4 => ?_) (fun c4 => ?_)
    · have h := h.2.1 c4
      refine zW.go 1 22 [(2, 0), (0, x1)] [(2, 0)] _ rfl ?_
      refine w_getL (q := 0) (v := 1) rfl (by decide) (pc' := 25) rfl ⟨by decide, rfl⟩ rfl rfl (zall_at hR (by decide)) ?_
      refine zW.go 1 26 [(2, 0), (0, x1)] [(0, x1), (2, 1)] _ rfl ?_
      refine w_putI (q := 1) rfl (by decide) (pc' := 29) rfl ⟨by decide, rfl⟩ rfl (by decide) ?_
      refine zW.go 1 30 [(2, 0), (0, x1)] [(0, 1)] _ rfl ?_
      exact w_retz rfl rfl (by decide) h
    · have h := h.2.2 c4
      refine zW.go 2 17 [(2, 0), (0, x1)] [(0, 0), (2, 0)] _ rfl ?_
      refine w_calli (as := [(2, 0), (0, 0)]) [] 20 rfl rfl rfl rfl (Nat.le_of_ble_eq_true rfl) (Nat.le_of_ble_eq_true rfl) (Nat.le_of_ble_eq_true rfl) (Or.inr rfl) (Ci.imp h (fun r5 mem6 h => ?_))
      exact w_retz rfl rfl h.1 h.2
set_option maxRecDepth 4000 in
theorem s_c_fault {X : zX} {d : Nat} {rf mem : zF} {Q : Int → zF → Prop} (hR : zall rf zRK = true) {p : Nat} (hp : zPln rf p) (hpl : rf 0 8 = ((p : Nat) : Int)) {x1 : Int} (h : (inI x1) ∧ ((x1 = 0 → Q (mem 3 3) mem) ∧ (x1 = 1 → Q (mem 3 4) mem) ∧ ((x1 ≠ 0 ∧ x1 ≠ 1) → Q (-1) mem))) : Ci X d 152 [(2, 0), (0, x1)] rf mem Q := by
  show zW X d 152 0 [(2, 0), (0, x1)] [] (zty, rf, mem) (qi rf Q)
  refine zW.go 1 1 [(2, 0), (0, x1)] [(0, x1)] _ rfl ?_
  obtain ⟨g, h⟩ := h
  by_cases e0 : x1 = 0
  · refine w_look 28 rfl (by decide) g (by decide) (by rw [e0]; rfl) ?_
    have h := h.1 e0
    refine zW.go 1 29 [(2, 0), (0, x1)] [(2, 0)] _ rfl ?_
    refine w_getL (q := 0) (v := 3) rfl (by decide) (pc' := 32) rfl ⟨by decide, rfl⟩ rfl rfl (zall_at hR (by decide)) ?_
    refine w_getI (q := 3) rfl (by decide) (pc' := 35) rfl ⟨by decide, rfl⟩ rfl (by decide) ?_
    exact w_reti rfl rfl h
  · by_cases e1 : x1 = 1
    · refine w_look 36 rfl (by decide) g (by decide) (by rw [e1]; rfl) ?_
      have h := h.2.1 e1
      refine zW.go 1 37 [(2, 0), (0, x1)] [(2, 0)] _ rfl ?_
      refine w_getL (q := 0) (v := 3) rfl (by decide) (pc' := 40) rfl ⟨by decide, rfl⟩ rfl rfl (zall_at hR (by decide)) ?_
      refine w_getI (q := 3) rfl (by decide) (pc' := 43) rfl ⟨by decide, rfl⟩ rfl (by decide) ?_
      exact w_reti rfl rfl h
    · refine w_look 44 rfl (by decide) g (by decide) (by simp [Op.lookupswitch.offset, e0, Ne.symm e0, e1, Ne.symm e1]) ?_
      have h := h.2.2 ⟨e0, e1⟩
      refine zW.go 1 45 [(2, 0), (0, x1)] [(0, (-1))] _ rfl ?_
      exact w_reti rfl rfl h
set_option maxRecDepth 4000 in
theorem s_c_has {X : zX} {d : Nat} {rf mem : zF} {Q : Int → zF → Prop} (hR : zall rf zRK = true) {p : Nat} (hp : zPln rf p) (hpl : rf 0 8 = ((p : Nat) : Int)) {x1 : Int} (h : (inI x1) ∧ ((x1 = 0 → Q (mem p 1) mem) ∧ (x1 = 1 → Q (mem p 2) mem) ∧ (x1 = 2 → Ci X d 61 [(2, ((p : Nat) : Int)), (0, 0)] rf mem (fun r1 mem2 => Q r1 mem2)) ∧ (x1 = 3 → Ci X d 61 [(2, ((p : Nat) : Int)), (0, 1)] rf mem (fun r3 mem4 => Q r3 mem4)) ∧ (x1 = 4 → Ci X d 61 [(2, ((p : Nat) : Int)), (0, 2)] rf mem (fun r5 mem6 => Q r5 mem6)) ∧ (x1 = 5 → Q (mem 23 0) mem) ∧ (x1 = 6 → Ci X d 87 [(2, 23)] rf mem (fun r7 mem8 => Q r7 mem8)) ∧ (x1 = 7 → Ci X d 187 [(2, 0)] rf mem (fun r9 mem10 => Q r9 mem10)) ∧ (x1 = 8 → Ci X d 188 [(2, 0)] rf mem (fun r11 mem12 => Q r11 mem12)) ∧ (x1 = 9 → Q (mem 23 11) mem) ∧ (x1 = 10 → Q (mem 35 7) mem) ∧ (x1 = 11 → Q (mem 52 2) mem) ∧ (x1 = 12 → Q (mem 0 9) mem) ∧ ((x1 ≠ 0 ∧ x1 ≠ 1 ∧ x1 ≠ 2 ∧ x1 ≠ 3 ∧ x1 ≠ 4 ∧ x1 ≠ 5 ∧ x1 ≠ 6 ∧ x1 ≠ 7 ∧ x1 ≠ 8 ∧ x1 ≠ 9 ∧ x1 ≠ 10 ∧ x1 ≠ 11 ∧ x1 ≠ 12) → Q (-1) mem))) : Ci X (d + 1) 153 [(2, 0), (0, x1)] rf mem Q := by
  show zW X (d + 1) 153 0 [(2, 0), (0, x1)] [] (zty, rf, mem) (qi rf Q)
  refine zW.go 1 1 [(2, 0), (0, x1)] [(0, x1)] _ rfl ?_
  obtain ⟨g, h⟩ := h
  by_cases e0 : x1 = 0
  · refine w_tabIn 68 rfl (by decide) g (by omega) (by rw [e0]; rfl) rfl ?_
    have h := h.1 e0
    refine zW.go 1 69 [(2, 0), (0, x1)] [(2, 0)] _ rfl ?_
    refine w_getL (q := 0) (v := ((p : Nat) : Int)) rfl (by decide) (pc' := 72) rfl ⟨by decide, rfl⟩ rfl rfl hpl ?_
    refine w_getI (q := p) rfl (by decide) (pc' := 75) rfl ⟨Int.natCast_nonneg _, rfl⟩ (zPln_t0 hp) (by decide) ?_
    exact w_reti rfl rfl h
  · by_cases e1 : x1 = 1
    · refine w_tabIn 76 rfl (by decide) g (by omega) (by rw [e1]; rfl) rfl ?_
      have h := h.2.1 e1
      refine zW.go 1 77 [(2, 0), (0, x1)] [(2, 0)] _ rfl ?_
      refine w_getL (q := 0) (v := ((p : Nat) : Int)) rfl (by decide) (pc' := 80) rfl ⟨by decide, rfl⟩ rfl rfl hpl ?_
      refine w_getI (q := p) rfl (by decide) (pc' := 83) rfl ⟨Int.natCast_nonneg _, rfl⟩ (zPln_t0 hp) (by decide) ?_
      exact w_reti rfl rfl h
    · by_cases e2 : x1 = 2
      · refine w_tabIn 84 rfl (by decide) g (by omega) (by rw [e2]; rfl) rfl ?_
        have h := h.2.2.1 e2
        refine zW.go 1 85 [(2, 0), (0, x1)] [(2, 0)] _ rfl ?_
        refine w_getL (q := 0) (v := ((p : Nat) : Int)) rfl (by decide) (pc' := 88) rfl ⟨by decide, rfl⟩ rfl rfl hpl ?_
        refine zW.go 1 89 [(2, 0), (0, x1)] [(0, 0), (2, ((p : Nat) : Int))] _ rfl ?_
        refine w_calli (as := [(2, ((p : Nat) : Int)), (0, 0)]) [] 92 rfl rfl rfl rfl (Nat.le_of_ble_eq_true rfl) (Nat.le_of_ble_eq_true rfl) (Nat.le_of_ble_eq_true rfl) (Or.inr (zrcv_o (zPln_t0 hp))) (Ci.imp h (fun r1 mem2 h => ?_))
        exact w_reti rfl rfl h
      · by_cases e3 : x1 = 3
        · refine w_tabIn 93 rfl (by decide) g (by omega) (by rw [e3]; rfl) rfl ?_
          have h := h.2.2.2.1 e3
          refine zW.go 1 94 [(2, 0), (0, x1)] [(2, 0)] _ rfl ?_
          refine w_getL (q := 0) (v := ((p : Nat) : Int)) rfl (by decide) (pc' := 97) rfl ⟨by decide, rfl⟩ rfl rfl hpl ?_
          refine zW.go 1 98 [(2, 0), (0, x1)] [(0, 1), (2, ((p : Nat) : Int))] _ rfl ?_
          refine w_calli (as := [(2, ((p : Nat) : Int)), (0, 1)]) [] 101 rfl rfl rfl rfl (Nat.le_of_ble_eq_true rfl) (Nat.le_of_ble_eq_true rfl) (Nat.le_of_ble_eq_true rfl) (Or.inr (zrcv_o (zPln_t0 hp))) (Ci.imp h (fun r3 mem4 h => ?_))
          exact w_reti rfl rfl h
        · by_cases e4 : x1 = 4
          · refine w_tabIn 102 rfl (by decide) g (by omega) (by rw [e4]; rfl) rfl ?_
            have h := h.2.2.2.2.1 e4
            refine zW.go 1 103 [(2, 0), (0, x1)] [(2, 0)] _ rfl ?_
            refine w_getL (q := 0) (v := ((p : Nat) : Int)) rfl (by decide) (pc' := 106) rfl ⟨by decide, rfl⟩ rfl rfl hpl ?_
            refine zW.go 1 107 [(2, 0), (0, x1)] [(0, 2), (2, ((p : Nat) : Int))] _ rfl ?_
            refine w_calli (as := [(2, ((p : Nat) : Int)), (0, 2)]) [] 110 rfl rfl rfl rfl (Nat.le_of_ble_eq_true rfl) (Nat.le_of_ble_eq_true rfl) (Nat.le_of_ble_eq_true rfl) (Or.inr (zrcv_o (zPln_t0 hp))) (Ci.imp h (fun r5 mem6 h => ?_))
            exact w_reti rfl rfl h
          · by_cases e5 : x1 = 5
            · refine w_tabIn 111 rfl (by decide) g (by omega) (by rw [e5]; rfl) rfl ?_
              have h := h.2.2.2.2.2.1 e5
              refine zW.go 1 112 [(2, 0), (0, x1)] [(2, 0)] _ rfl ?_
              refine w_getL (q := 0) (v := 23) rfl (by decide) (pc' := 115) rfl ⟨by decide, rfl⟩ rfl rfl (zall_at hR (by decide)) ?_
              refine w_getI (q := 23) rfl (by decide) (pc' := 118) rfl ⟨by decide, rfl⟩ rfl (by decide) ?_
              exact w_reti rfl rfl h
            · by_cases e6 : x1 = 6
              · refine w_tabIn 119 rfl (by decide) g (by omega) (by rw [e6]; rfl) rfl ?_
                have h := h.2.2.2.2.2.2.1 e6
                refine zW.go 1 120 [(2, 0), (0, x1)] [(2, 0)] _ rfl ?_
                refine w_getL (q := 0) (v := 23) rfl (by decide) (pc' := 123) rfl ⟨by decide, rfl⟩ rfl rfl (zall_at hR (by decide)) ?_
                refine w_calli (as := [(2, 23)]) [] 126 rfl rfl rfl rfl (Nat.le_of_ble_eq_true rfl) (Nat.le_of_ble_eq_true rfl) (Nat.le_of_ble_eq_true rfl) (Or.inr rfl) (Ci.imp h (fun r7 mem8 h => ?_))
                exact w_reti rfl rfl h
              · by_cases e7 : x1 = 7
                · refine w_tabIn 127 rfl (by decide) g (by omega) (by rw [e7]; rfl) rfl ?_
                  have h := h.2.2.2.2.2.2.2.1 e7
                  refine zW.go 1 128 [(2, 0), (0, x1)] [(2, 0)] _ rfl ?_
                  refine w_calli (as := [(2, 0)]) [] 131 rfl rfl rfl rfl (Nat.le_of_ble_eq_true rfl) (Nat.le_of_ble_eq_true rfl) (Nat.le_of_ble_eq_true rfl) (Or.inr rfl) (Ci.imp h (fun r9 mem10 h => ?_))
                  exact w_reti rfl rfl h
                · by_cases e8 : x1 = 8
                  · refine w_tabIn 132 rfl (by decide) g (by omega) (by rw [e8]; rfl) rfl ?_
                    have h := h.2.2.2.2.2.2.2.2.1 e8
                    refine zW.go 1 133 [(2, 0), (0, x1)] [(2, 0)] _ rfl ?_
                    refine w_calli (as := [(2, 0)]) [] 136 rfl rfl rfl rfl (Nat.le_of_ble_eq_true rfl) (Nat.le_of_ble_eq_true rfl) (Nat.le_of_ble_eq_true rfl) (Or.inr rfl) (Ci.imp h (fun r11 mem12 h => ?_))
                    exact w_reti rfl rfl h
                  · by_cases e9 : x1 = 9
                    · refine w_tabIn 137 rfl (by decide) g (by omega) (by rw [e9]; rfl) rfl ?_
                      have h := h.2.2.2.2.2.2.2.2.2.1 e9
                      refine zW.go 1 138 [(2, 0), (0, x1)] [(2, 0)] _ rfl ?_
                      refine w_getL (q := 0) (v := 23) rfl (by decide) (pc' := 141) rfl ⟨by decide, rfl⟩ rfl rfl (zall_at hR (by decide)) ?_
                      refine w_getI (q := 23) rfl (by decide) (pc' := 144) rfl ⟨by decide, rfl⟩ rfl (by decide) ?_
                      exact w_reti rfl rfl h
                    · by_cases e10 : x1 = 10
                      · refine w_tabIn 145 rfl (by decide) g (by omega) (by rw [e10]; rfl) rfl ?_
                        have h := h.2.2.2.2.2.2.2.2.2.2.1 e10
                        refine zW.go 1 146 [(2, 0), (0, x1)] [(2, 0)] _ rfl ?_
                        refine w_getL (q := 0) (v := 35) rfl (by decide) (pc' := 149) rfl ⟨by decide, rfl⟩ rfl rfl (zall_at hR (by decide)) ?_
                        refine w_getI (q := 35) rfl (by decide) (pc' := 152) rfl ⟨by decide, rfl⟩ rfl (by decide) ?_
                        exact w_reti rfl rfl h
                      · by_cases e11 : x1 = 11
                        · refine w_tabIn 153 rfl (by decide) g (by omega) (by rw [e11]; rfl) rfl ?_
                          have h := h.2.2.2.2.2.2.2.2.2.2.2.1 e11
                          refine zW.go 1 154 [(2, 0), (0, x1)] [(2, 0)] _ rfl ?_
                          refine w_getL (q := 0) (v := 52) rfl (by decide) (pc' := 157) rfl ⟨by decide, rfl⟩ rfl rfl (zall_at hR (by decide)) ?_
                          refine w_getI (q := 52) rfl (by decide) (pc' := 160) rfl ⟨by decide, rfl⟩ rfl (by decide) ?_
                          exact w_reti rfl rfl h
                        · by_cases e12 : x1 = 12
                          · refine w_tabIn 161 rfl (by decide) g (by omega) (by rw [e12]; rfl) rfl ?_
                            have h := h.2.2.2.2.2.2.2.2.2.2.2.2.1 e12
                            refine zW.go 1 162 [(2, 0), (0, x1)] [(2, 0)] _ rfl ?_
                            refine w_getI (q := 0) rfl (by decide) (pc' := 165) rfl ⟨by decide, rfl⟩ rfl (by decide) ?_
                            exact w_reti rfl rfl h
                          · refine w_tabOut 166 rfl (by decide) g (by omega) rfl ?_
                            have h := h.2.2.2.2.2.2.2.2.2.2.2.2.2 ⟨e0, e1, e2, e3, e4, e5, e6, e7, e8, e9, e10, e11, e12⟩
                            refine zW.go 1 167 [(2, 0), (0, x1)] [(0, (-1))] _ rfl ?_
                            exact w_reti rfl rfl h
set_option maxRecDepth 4000 in
theorem s_c_letter {X : zX} {d : Nat} {rf mem : zF} {Q : Int → zF → Prop} (hR : zall rf zRK = true) {p : Nat} (hp : zPln rf p) (hpl : rf 0 8 = ((p : Nat) : Int)) {x1 : Int} {x2 : Int} {x3 : Int} (h : (inI x3) ∧ ((x3 < 0 → Q (-1) mem) ∧ (¬ x3 < 0 → (inI x3) ∧ ((6 ≤ x3 → Q (-1) mem) ∧ (¬ 6 ≤ x3 → Ci X d 60 [(2, ((p : Nat) : Int)), (0, x1), (0, x2)] rf mem (fun r3 mem4 => (inI r3) ∧ ((¬ r3 = 0 → Ci X d 64 [(2, ((p : Nat) : Int)), (0, x1), (0, x2)] rf mem4 (fun r6 mem7 => Q (zand (zshr r6 (5 * x3)) 31) mem7)) ∧ (r3 = 0 → Q (-1) mem4)))))))) : Ci X (d + 1) 154 [(2, 0), (0, x1), (0, x2), (0, x3)] rf mem Q := by
  show zW X (d + 1) 154 0 [(2, 0), (0, x1), (0, x2), (0, x3)] [] (zty, rf, mem) (qi rf Q)
  refine zW.go 1 1 [(2, 0), (0, x1), (0, x2), (0, x3)] [(0, x3)] _ rfl ?_
  refine w_if_lt rfl (by decide) (pc' := 4) rfl h.1 (fun c1 => ?_) (fun c1 => ?_)
  · have h := h.2.1 c1
    refine zW.go 1 23 [(2, 0), (0, x1), (0, x2), (0, x3)] [(0, (-1))] _ rfl ?_
    exact w_reti rfl rfl h
  · have h := h.2.2 c1
    refine zW.go 2 7 [(2, 0), (0, x1), (0, x2), (0, x3)] [(0, 6), (0, x3)] _ rfl ?_
    refine w_ic_ge rfl (by decide) (pc' := 10) rfl ⟨h.1, by decide⟩ (fun c2 => ?_) (fun c2 => ?_)
    · have h := h.2.1 c2
      refine zW.go 1 23 [(2, 0), (0, x1), (0, x2), (0, x3)] [(0, (-1))] _ rfl ?_
      exact w_reti rfl rfl h
    · have h := h.2.2 c2
      refine zW.go 1 11 [(2, 0), (0, x1), (0, x2), (0, x3)] [(2, 0)] _ rfl ?_
      refine w_getL (q := 0) (v := ((p : Nat) : Int)) rfl (by decide) (pc' := 14) rfl ⟨by decide, rfl⟩ rfl rfl hpl ?_
      refine zW.go 2 16 [(2, 0), (0, x1), (0, x2), (0, x3)] [(0, x2), (0, x1), (2, ((p : Nat) : Int))] _ rfl ?_
      refine w_calli (as := [(2, ((p : Nat) : Int)), (0, x1), (0, x2)]) [] 19 rfl rfl rfl rfl (Nat.le_of_ble_eq_true rfl) (Nat.le_of_ble_eq_true rfl) (Nat.le_of_ble_eq_true rfl) (Or.inr (zrcv_o (zPln_t0 hp))) (Ci.imp h (fun r3 mem4 h => ?_))
      refine w_if_ne rfl (by decide) (pc' := 22) rfl h.1 (fun c5 => ?_) (fun c5 => ?_)
      · have h := h.2.1 c5
        refine zW.go 1 25 [(2, 0), (0, x1), (0, x2), (0, x3)] [(2, 0)] _ rfl ?_
        refine w_getL (q := 0) (v := ((p : Nat) : Int)) rfl (by decide) (pc' := 28) rfl ⟨by decide, rfl⟩ rfl rfl hpl ?_
        refine zW.go 2 30 [(2, 0), (0, x1), (0, x2), (0, x3)] [(0, x2), (0, x1), (2, ((p : Nat) : Int))] _ rfl ?_
        refine w_calli (as := [(2, ((p : Nat) : Int)), (0, x1), (0, x2)]) [] 33 rfl rfl rfl rfl (Nat.le_of_ble_eq_true rfl) (Nat.le_of_ble_eq_true rfl) (Nat.le_of_ble_eq_true rfl) (Or.inr (zrcv_o (zPln_t0 hp))) (Ci.imp h (fun r6 mem7 h => ?_))
        refine zW.go 6 40 [(2, 0), (0, x1), (0, x2), (0, x3)] [(0, (zand (zshr r6 (5 * x3)) 31))] _ rfl ?_
        exact w_reti rfl rfl h
      · have h := h.2.2 c5
        refine zW.go 1 23 [(2, 0), (0, x1), (0, x2), (0, x3)] [(0, (-1))] _ rfl ?_
        exact w_reti rfl rfl h
set_option maxRecDepth 4000 in
theorem s_c_lamp {X : zX} {d : Nat} {rf mem : zF} {Q : Int → zF → Prop} (hR : zall rf zRK = true) {p : Nat} (hp : zPln rf p) (hpl : rf 0 8 = ((p : Nat) : Int)) {x1 : Int} (h : Ci X d 186 [(2, 0), (0, (mem 23 1)), (0, x1)] rf mem (fun r1 mem2 => Q r1 mem2)) : Ci X (d + 1) 155 [(2, 0), (0, x1)] rf mem Q := by
  show zW X (d + 1) 155 0 [(2, 0), (0, x1)] [] (zty, rf, mem) (qi rf Q)
  refine zW.go 2 2 [(2, 0), (0, x1)] [(2, 0), (2, 0)] _ rfl ?_
  refine w_getL (q := 0) (v := 23) rfl (by decide) (pc' := 5) rfl ⟨by decide, rfl⟩ rfl rfl (zall_at hR (by decide)) ?_
  refine w_getI (q := 23) rfl (by decide) (pc' := 8) rfl ⟨by decide, rfl⟩ rfl (by decide) ?_
  refine zW.go 1 9 [(2, 0), (0, x1)] [(0, x1), (0, (mem 23 1)), (2, 0)] _ rfl ?_
  refine w_calli (as := [(2, 0), (0, (mem 23 1)), (0, x1)]) [] 12 rfl rfl rfl rfl (Nat.le_of_ble_eq_true rfl) (Nat.le_of_ble_eq_true rfl) (Nat.le_of_ble_eq_true rfl) (Or.inr rfl) (Ci.imp h (fun r1 mem2 h => ?_))
  exact w_reti rfl rfl h
set_option maxRecDepth 4000 in
theorem s_c_door {X : zX} {d : Nat} {rf mem : zF} {Q : Int → zF → Prop} (hR : zall rf zRK = true) {p : Nat} (hp : zPln rf p) (hpl : rf 0 8 = ((p : Nat) : Int)) {x1 : Int} {x2 : Int} (h : Ci X d 60 [(2, ((p : Nat) : Int)), (0, 0), (0, x1)] rf mem (fun r1 mem2 => (inI r1) ∧ ((¬ r1 = 0 → (inI x2) ∧ ((x2 = 0 → Ci X d 65 [(2, ((p : Nat) : Int)), (0, 0), (0, x1)] rf mem2 (fun r4 mem5 => Ci X d 186 [(2, 0), (0, r4), (0, x2)] rf mem5 (fun r6 mem7 => Q r6 mem7))) ∧ (x2 = 1 → Ci X d 65 [(2, ((p : Nat) : Int)), (0, 0), (0, x1)] rf mem2 (fun r8 mem9 => Ci X d 186 [(2, 0), (0, r8), (0, x2)] rf mem9 (fun r10 mem11 => Q r10 mem11))) ∧ (x2 = 2 → (0 ≤ x1 ∧ x1 < 6) ∧ (Q (mem2 (p + 4) (x1).toNat) mem2)) ∧ (x2 = 3 → (0 ≤ x1 ∧ x1 < 6) ∧ (Q (mem2 (p + 5) (x1).toNat) mem2)) ∧ (x2 = 4 → Q (zand (zshr (mem2 23 2) x1) 1) mem2) ∧ ((x2 ≠ 0 ∧ x2 ≠ 1 ∧ x2 ≠ 2 ∧ x2 ≠ 3 ∧ x2 ≠ 4) → Q (-1) mem2))) ∧ (r1 = 0 → Q (-1) mem2)))) : Ci X (d + 1) 156 [(2, 0), (0, x1), (0, x2)] rf mem Q := by
  show zW X (d + 1) 156 0 [(2, 0), (0, x1), (0, x2)] [] (zty, rf, mem) (qi rf Q)
  refine zW.go 1 1 [(2, 0), (0, x1), (0, x2)] [(2, 0)] _ rfl ?_
  refine w_getL (q := 0) (v := ((p : Nat) : Int)) rfl (by decide) (pc' := 4) rfl ⟨by decide, rfl⟩ rfl rfl hpl ?_
  refine zW.go 2 6 [(2, 0), (0, x1), (0, x2)] [(0, x1), (0, 0), (2, ((p : Nat) : Int))] _ rfl ?_
  refine w_calli (as := [(2, ((p : Nat) : Int)), (0, 0), (0, x1)]) [] 9 rfl rfl rfl rfl (Nat.le_of_ble_eq_true rfl) (Nat.le_of_ble_eq_true rfl) (Nat.le_of_ble_eq_true rfl) (Or.inr (zrcv_o (zPln_t0 hp))) (Ci.imp h (fun r1 mem2 h => ?_))
  refine w_if_ne rfl (by decide) (pc' := 12) rfl h.1 (fun c3 => ?_) (fun c3 => ?_)
  · have h := h.2.1 c3
    refine zW.go 1 15 [(2, 0), (0, x1), (0, x2)] [(0, x2)] _ rfl ?_
    obtain ⟨g, h⟩ := h
    by_cases e0 : x2 = 0
    · refine w_tabIn 48 rfl (by decide) g (by omega) (by rw [e0]; rfl) rfl ?_
      have h := h.1 e0
      refine zW.go 2 50 [(2, 0), (0, x1), (0, x2)] [(2, 0), (2, 0)] _ rfl ?_
      refine w_getL (q := 0) (v := ((p : Nat) : Int)) rfl (by decide) (pc' := 53) rfl ⟨by decide, rfl⟩ rfl rfl hpl ?_
      refine zW.go 2 55 [(2, 0), (0, x1), (0, x2)] [(0, x1), (0, 0), (2, ((p : Nat) : Int)), (2, 0)] _ rfl ?_
      refine w_calli (as := [(2, ((p : Nat) : Int)), (0, 0), (0, x1)]) [(2, 0)] 58 rfl rfl rfl rfl (Nat.le_of_ble_eq_true rfl) (Nat.le_of_ble_eq_true rfl) (Nat.le_of_ble_eq_true rfl) (Or.inr (zrcv_o (zPln_t0 hp))) (Ci.imp h (fun r4 mem5 h => ?_))
      refine zW.go 1 59 [(2, 0), (0, x1), (0, x2)] [(0, x2), (0, r4), (2, 0)] _ rfl ?_
      refine w_calli (as := [(2, 0), (0, r4), (0, x2)]) [] 62 rfl rfl rfl rfl (Nat.le_of_ble_eq_true rfl) (Nat.le_of_ble_eq_true rfl) (Nat.le_of_ble_eq_true rfl) (Or.inr rfl) (Ci.imp h (fun r6 mem7 h => ?_))
      exact w_reti rfl rfl h
    · by_cases e1 : x2 = 1
      · refine w_tabIn 48 rfl (by decide) g (by omega) (by rw [e1]; rfl) rfl ?_
        have h := h.2.1 e1
        refine zW.go 2 50 [(2, 0), (0, x1), (0, x2)] [(2, 0), (2, 0)] _ rfl ?_
        refine w_getL (q := 0) (v := ((p : Nat) : Int)) rfl (by decide) (pc' := 53) rfl ⟨by decide, rfl⟩ rfl rfl hpl ?_
        refine zW.go 2 55 [(2, 0), (0, x1), (0, x2)] [(0, x1), (0, 0), (2, ((p : Nat) : Int)), (2, 0)] _ rfl ?_
        refine w_calli (as := [(2, ((p : Nat) : Int)), (0, 0), (0, x1)]) [(2, 0)] 58 rfl rfl rfl rfl (Nat.le_of_ble_eq_true rfl) (Nat.le_of_ble_eq_true rfl) (Nat.le_of_ble_eq_true rfl) (Or.inr (zrcv_o (zPln_t0 hp))) (Ci.imp h (fun r8 mem9 h => ?_))
        refine zW.go 1 59 [(2, 0), (0, x1), (0, x2)] [(0, x2), (0, r8), (2, 0)] _ rfl ?_
        refine w_calli (as := [(2, 0), (0, r8), (0, x2)]) [] 62 rfl rfl rfl rfl (Nat.le_of_ble_eq_true rfl) (Nat.le_of_ble_eq_true rfl) (Nat.le_of_ble_eq_true rfl) (Or.inr rfl) (Ci.imp h (fun r10 mem11 h => ?_))
        exact w_reti rfl rfl h
      · by_cases e2 : x2 = 2
        · refine w_tabIn 63 rfl (by decide) g (by omega) (by rw [e2]; rfl) rfl ?_
          have h := h.2.2.1 e2
          refine zW.go 1 64 [(2, 0), (0, x1), (0, x2)] [(2, 0)] _ rfl ?_
          refine w_getL (q := 0) (v := ((p : Nat) : Int)) rfl (by decide) (pc' := 67) rfl ⟨by decide, rfl⟩ rfl rfl hpl ?_
          refine w_getL (q := p) (v := ((p + 4 : Nat) : Int)) rfl (by decide) (pc' := 70) rfl ⟨Int.natCast_nonneg _, rfl⟩ (zPln_t0 hp) rfl (zPln_r0_9 hp) ?_
          refine zW.go 1 71 [(2, 0), (0, x1), (0, x2)] [(0, x1), (2, ((p + 4 : Nat) : Int))] _ rfl ?_
          obtain ⟨g, h⟩ := h
          refine w_iald (q := (p + 4)) rfl (by decide) (pc' := 72) rfl ⟨Int.natCast_nonneg _, rfl⟩ (zPln_t4 hp) g rfl ?_
          exact w_reti rfl rfl h
        · by_cases e3 : x2 = 3
          · refine w_tabIn 73 rfl (by decide) g (by omega) (by rw [e3]; rfl) rfl ?_
            have h := h.2.2.2.1 e3
            refine zW.go 1 74 [(2, 0), (0, x1), (0, x2)] [(2, 0)] _ rfl ?_
            refine w_getL (q := 0) (v := ((p : Nat) : Int)) rfl (by decide) (pc' := 77) rfl ⟨by decide, rfl⟩ rfl rfl hpl ?_
            refine w_getL (q := p) (v := ((p + 5 : Nat) : Int)) rfl (by decide) (pc' := 80) rfl ⟨Int.natCast_nonneg _, rfl⟩ (zPln_t0 hp) rfl (zPln_r0_10 hp) ?_
            refine zW.go 1 81 [(2, 0), (0, x1), (0, x2)] [(0, x1), (2, ((p + 5 : Nat) : Int))] _ rfl ?_
            obtain ⟨g, h⟩ := h
            refine w_iald (q := (p + 5)) rfl (by decide) (pc' := 82) rfl ⟨Int.natCast_nonneg _, rfl⟩ (zPln_t5 hp) g rfl ?_
            exact w_reti rfl rfl h
          · by_cases e4 : x2 = 4
            · refine w_tabIn 83 rfl (by decide) g (by omega) (by rw [e4]; rfl) rfl ?_
              have h := h.2.2.2.2.1 e4
              refine zW.go 1 84 [(2, 0), (0, x1), (0, x2)] [(2, 0)] _ rfl ?_
              refine w_getL (q := 0) (v := 23) rfl (by decide) (pc' := 87) rfl ⟨by decide, rfl⟩ rfl rfl (zall_at hR (by decide)) ?_
              refine w_getI (q := 23) rfl (by decide) (pc' := 90) rfl ⟨by decide, rfl⟩ rfl (by decide) ?_
              refine zW.go 4 94 [(2, 0), (0, x1), (0, x2)] [(0, (zand (zshr (mem2 23 2) x1) 1))] _ rfl ?_
              exact w_reti rfl rfl h
            · refine w_tabOut 95 rfl (by decide) g (by omega) rfl ?_
              have h := h.2.2.2.2.2 ⟨e0, e1, e2, e3, e4⟩
              refine zW.go 1 96 [(2, 0), (0, x1), (0, x2)] [(0, (-1))] _ rfl ?_
              exact w_reti rfl rfl h
  · have h := h.2.2 c3
    refine zW.go 1 13 [(2, 0), (0, x1), (0, x2)] [(0, (-1))] _ rfl ?_
    exact w_reti rfl rfl h
set_option maxRecDepth 4000 in
theorem s_c_heir {X : zX} {d : Nat} {rf mem : zF} {Q : Int → zF → Prop} (hR : zall rf zRK = true) {p : Nat} (hp : zPln rf p) (hpl : rf 0 8 = ((p : Nat) : Int)) {x1 : Int} {x2 : Int} (h : Ci X d 60 [(2, ((p : Nat) : Int)), (0, 1), (0, x1)] rf mem (fun r1 mem2 => (inI r1) ∧ ((¬ r1 = 0 → (inI x2) ∧ ((x2 = 0 → (0 ≤ x1 ∧ x1 < 6) ∧ (Ci X d 186 [(2, 0), (0, (mem2 24 (x1).toNat)), (0, x2)] rf mem2 (fun r4 mem5 => Q r4 mem5))) ∧ (x2 = 1 → (0 ≤ x1 ∧ x1 < 6) ∧ (Ci X d 186 [(2, 0), (0, (mem2 24 (x1).toNat)), (0, x2)] rf mem2 (fun r6 mem7 => Q r6 mem7))) ∧ (x2 = 2 → (0 ≤ x1 ∧ x1 < 6) ∧ (Q (mem2 (p + 6) (x1).toNat) mem2)) ∧ (x2 = 3 → Ci X d 90 [(2, 23), (0, x1)] rf mem2 (fun r8 mem9 => Q r8 mem9)) ∧ (x2 = 4 → Ci X d 91 [(2, 23), (0, x1)] rf mem2 (fun r10 mem11 => Q r10 mem11)) ∧ ((x2 ≠ 0 ∧ x2 ≠ 1 ∧ x2 ≠ 2 ∧ x2 ≠ 3 ∧ x2 ≠ 4) → Q (-1) mem2))) ∧ (r1 = 0 → Q (-1) mem2)))) : Ci X (d + 1) 157 [(2, 0), (0, x1), (0, x2)] rf mem Q := by
  show zW X (d + 1) 157 0 [(2, 0), (0, x1), (0, x2)] [] (zty, rf, mem) (qi rf Q)
  refine zW.go 1 1 [(2, 0), (0, x1), (0, x2)] [(2, 0)] _ rfl ?_
  refine w_getL (q := 0) (v := ((p : Nat) : Int)) rfl (by decide) (pc' := 4) rfl ⟨by decide, rfl⟩ rfl rfl hpl ?_
  refine zW.go 2 6 [(2, 0), (0, x1), (0, x2)] [(0, x1), (0, 1), (2, ((p : Nat) : Int))] _ rfl ?_
  refine w_calli (as := [(2, ((p : Nat) : Int)), (0, 1), (0, x1)]) [] 9 rfl rfl rfl rfl (Nat.le_of_ble_eq_true rfl) (Nat.le_of_ble_eq_true rfl) (Nat.le_of_ble_eq_true rfl) (Or.inr (zrcv_o (zPln_t0 hp))) (Ci.imp h (fun r1 mem2 h => ?_))
  refine w_if_ne rfl (by decide) (pc' := 12) rfl h.1 (fun c3 => ?_) (fun c3 => ?_)
  · have h := h.2.1 c3
    refine zW.go 1 15 [(2, 0), (0, x1), (0, x2)] [(0, x2)] _ rfl ?_
    obtain ⟨g, h⟩ := h
    by_cases e0 : x2 = 0
    · refine w_tabIn 48 rfl (by decide) g (by omega) (by rw [e0]; rfl) rfl ?_
      have h := h.1 e0
      refine zW.go 2 50 [(2, 0), (0, x1), (0, x2)] [(2, 0), (2, 0)] _ rfl ?_
      refine w_getL (q := 0) (v := 23) rfl (by decide) (pc' := 53) rfl ⟨by decide, rfl⟩ rfl rfl (zall_at hR (by decide)) ?_
      refine w_getL (q := 23) (v := 24) rfl (by decide) (pc' := 56) rfl ⟨by decide, rfl⟩ rfl rfl (zall_at hR (by decide)) ?_
      refine zW.go 1 57 [(2, 0), (0, x1), (0, x2)] [(0, x1), (2, 24), (2, 0)] _ rfl ?_
      obtain ⟨g, h⟩ := h
      refine w_iald (q := 24) rfl (by decide) (pc' := 58) rfl ⟨by decide, rfl⟩ rfl g rfl ?_
      refine zW.go 1 59 [(2, 0), (0, x1), (0, x2)] [(0, x2), (0, (mem2 24 (x1).toNat)), (2, 0)] _ rfl ?_
      refine w_calli (as := [(2, 0), (0, (mem2 24 (x1).toNat)), (0, x2)]) [] 62 rfl rfl rfl rfl (Nat.le_of_ble_eq_true rfl) (Nat.le_of_ble_eq_true rfl) (Nat.le_of_ble_eq_true rfl) (Or.inr rfl) (Ci.imp h (fun r4 mem5 h => ?_))
      exact w_reti rfl rfl h
    · by_cases e1 : x2 = 1
      · refine w_tabIn 48 rfl (by decide) g (by omega) (by rw [e1]; rfl) rfl ?_
        have h := h.2.1 e1
        refine zW.go 2 50 [(2, 0), (0, x1), (0, x2)] [(2, 0), (2, 0)] _ rfl ?_
        refine w_getL (q := 0) (v := 23) rfl (by decide) (pc' := 53) rfl ⟨by decide, rfl⟩ rfl rfl (zall_at hR (by decide)) ?_
        refine w_getL (q := 23) (v := 24) rfl (by decide) (pc' := 56) rfl ⟨by decide, rfl⟩ rfl rfl (zall_at hR (by decide)) ?_
        refine zW.go 1 57 [(2, 0), (0, x1), (0, x2)] [(0, x1), (2, 24), (2, 0)] _ rfl ?_
        obtain ⟨g, h⟩ := h
        refine w_iald (q := 24) rfl (by decide) (pc' := 58) rfl ⟨by decide, rfl⟩ rfl g rfl ?_
        refine zW.go 1 59 [(2, 0), (0, x1), (0, x2)] [(0, x2), (0, (mem2 24 (x1).toNat)), (2, 0)] _ rfl ?_
        refine w_calli (as := [(2, 0), (0, (mem2 24 (x1).toNat)), (0, x2)]) [] 62 rfl rfl rfl rfl (Nat.le_of_ble_eq_true rfl) (Nat.le_of_ble_eq_true rfl) (Nat.le_of_ble_eq_true rfl) (Or.inr rfl) (Ci.imp h (fun r6 mem7 h => ?_))
        exact w_reti rfl rfl h
      · by_cases e2 : x2 = 2
        · refine w_tabIn 63 rfl (by decide) g (by omega) (by rw [e2]; rfl) rfl ?_
          have h := h.2.2.1 e2
          refine zW.go 1 64 [(2, 0), (0, x1), (0, x2)] [(2, 0)] _ rfl ?_
          refine w_getL (q := 0) (v := ((p : Nat) : Int)) rfl (by decide) (pc' := 67) rfl ⟨by decide, rfl⟩ rfl rfl hpl ?_
          refine w_getL (q := p) (v := ((p + 6 : Nat) : Int)) rfl (by decide) (pc' := 70) rfl ⟨Int.natCast_nonneg _, rfl⟩ (zPln_t0 hp) rfl (zPln_r0_11 hp) ?_
          refine zW.go 1 71 [(2, 0), (0, x1), (0, x2)] [(0, x1), (2, ((p + 6 : Nat) : Int))] _ rfl ?_
          obtain ⟨g, h⟩ := h
          refine w_iald (q := (p + 6)) rfl (by decide) (pc' := 72) rfl ⟨Int.natCast_nonneg _, rfl⟩ (zPln_t6 hp) g rfl ?_
          exact w_reti rfl rfl h
        · by_cases e3 : x2 = 3
          · refine w_tabIn 73 rfl (by decide) g (by omega) (by rw [e3]; rfl) rfl ?_
            have h := h.2.2.2.1 e3
            refine zW.go 1 74 [(2, 0), (0, x1), (0, x2)] [(2, 0)] _ rfl ?_
            refine w_getL (q := 0) (v := 23) rfl (by decide) (pc' := 77) rfl ⟨by decide, rfl⟩ rfl rfl (zall_at hR (by decide)) ?_
            refine zW.go 1 78 [(2, 0), (0, x1), (0, x2)] [(0, x1), (2, 23)] _ rfl ?_
            refine w_calli (as := [(2, 23), (0, x1)]) [] 81 rfl rfl rfl rfl (Nat.le_of_ble_eq_true rfl) (Nat.le_of_ble_eq_true rfl) (Nat.le_of_ble_eq_true rfl) (Or.inr rfl) (Ci.imp h (fun r8 mem9 h => ?_))
            exact w_reti rfl rfl h
          · by_cases e4 : x2 = 4
            · refine w_tabIn 82 rfl (by decide) g (by omega) (by rw [e4]; rfl) rfl ?_
              have h := h.2.2.2.2.1 e4
              refine zW.go 1 83 [(2, 0), (0, x1), (0, x2)] [(2, 0)] _ rfl ?_
              refine w_getL (q := 0) (v := 23) rfl (by decide) (pc' := 86) rfl ⟨by decide, rfl⟩ rfl rfl (zall_at hR (by decide)) ?_
              refine zW.go 1 87 [(2, 0), (0, x1), (0, x2)] [(0, x1), (2, 23)] _ rfl ?_
              refine w_calli (as := [(2, 23), (0, x1)]) [] 90 rfl rfl rfl rfl (Nat.le_of_ble_eq_true rfl) (Nat.le_of_ble_eq_true rfl) (Nat.le_of_ble_eq_true rfl) (Or.inr rfl) (Ci.imp h (fun r10 mem11 h => ?_))
              exact w_reti rfl rfl h
            · refine w_tabOut 91 rfl (by decide) g (by omega) rfl ?_
              have h := h.2.2.2.2.2 ⟨e0, e1, e2, e3, e4⟩
              refine zW.go 1 92 [(2, 0), (0, x1), (0, x2)] [(0, (-1))] _ rfl ?_
              exact w_reti rfl rfl h
  · have h := h.2.2 c3
    refine zW.go 1 13 [(2, 0), (0, x1), (0, x2)] [(0, (-1))] _ rfl ?_
    exact w_reti rfl rfl h
set_option maxRecDepth 4000 in
theorem s_c_bubble {X : zX} {d : Nat} {rf mem : zF} {Q : Int → zF → Prop} (hR : zall rf zRK = true) {p : Nat} (hp : zPln rf p) (hpl : rf 0 8 = ((p : Nat) : Int)) {x1 : Int} {x2 : Int} (h : Ci X d 60 [(2, ((p : Nat) : Int)), (0, 2), (0, x1)] rf mem (fun r1 mem2 => (inI r1) ∧ ((¬ r1 = 0 → (inI x2) ∧ ((x2 = 0 → (0 ≤ x1 ∧ x1 < 6) ∧ (Ci X d 186 [(2, 0), (0, (mem2 25 (x1).toNat)), (0, x2)] rf mem2 (fun r4 mem5 => Q r4 mem5))) ∧ (x2 = 1 → (0 ≤ x1 ∧ x1 < 6) ∧ (Ci X d 186 [(2, 0), (0, (mem2 25 (x1).toNat)), (0, x2)] rf mem2 (fun r6 mem7 => Q r6 mem7))) ∧ (x2 = 2 → (0 ≤ x1 ∧ x1 < 6) ∧ (Q (mem2 26 (x1).toNat) mem2)) ∧ (x2 = 3 → (0 ≤ x1 ∧ x1 < 6) ∧ (Q (mem2 27 (x1).toNat) mem2)) ∧ (x2 = 4 → (0 ≤ x1 ∧ x1 < 6) ∧ (Q (mem2 28 (x1).toNat) mem2)) ∧ ((x2 ≠ 0 ∧ x2 ≠ 1 ∧ x2 ≠ 2 ∧ x2 ≠ 3 ∧ x2 ≠ 4) → Q (-1) mem2))) ∧ (r1 = 0 → Q (-1) mem2)))) : Ci X (d + 1) 158 [(2, 0), (0, x1), (0, x2)] rf mem Q := by
  show zW X (d + 1) 158 0 [(2, 0), (0, x1), (0, x2)] [] (zty, rf, mem) (qi rf Q)
  refine zW.go 1 1 [(2, 0), (0, x1), (0, x2)] [(2, 0)] _ rfl ?_
  refine w_getL (q := 0) (v := ((p : Nat) : Int)) rfl (by decide) (pc' := 4) rfl ⟨by decide, rfl⟩ rfl rfl hpl ?_
  refine zW.go 2 6 [(2, 0), (0, x1), (0, x2)] [(0, x1), (0, 2), (2, ((p : Nat) : Int))] _ rfl ?_
  refine w_calli (as := [(2, ((p : Nat) : Int)), (0, 2), (0, x1)]) [] 9 rfl rfl rfl rfl (Nat.le_of_ble_eq_true rfl) (Nat.le_of_ble_eq_true rfl) (Nat.le_of_ble_eq_true rfl) (Or.inr (zrcv_o (zPln_t0 hp))) (Ci.imp h (fun r1 mem2 h => ?_))
  refine w_if_ne rfl (by decide) (pc' := 12) rfl h.1 (fun c3 => ?_) (fun c3 => ?_)
  · have h := h.2.1 c3
    refine zW.go 1 15 [(2, 0), (0, x1), (0, x2)] [(0, x2)] _ rfl ?_
    obtain ⟨g, h⟩ := h
    by_cases e0 : x2 = 0
    · refine w_tabIn 48 rfl (by decide) g (by omega) (by rw [e0]; rfl) rfl ?_
      have h := h.1 e0
      refine zW.go 2 50 [(2, 0), (0, x1), (0, x2)] [(2, 0), (2, 0)] _ rfl ?_
      refine w_getL (q := 0) (v := 23) rfl (by decide) (pc' := 53) rfl ⟨by decide, rfl⟩ rfl rfl (zall_at hR (by decide)) ?_
      refine w_getL (q := 23) (v := 25) rfl (by decide) (pc' := 56) rfl ⟨by decide, rfl⟩ rfl rfl (zall_at hR (by decide)) ?_
      refine zW.go 1 57 [(2, 0), (0, x1), (0, x2)] [(0, x1), (2, 25), (2, 0)] _ rfl ?_
      obtain ⟨g, h⟩ := h
      refine w_iald (q := 25) rfl (by decide) (pc' := 58) rfl ⟨by decide, rfl⟩ rfl g rfl ?_
      refine zW.go 1 59 [(2, 0), (0, x1), (0, x2)] [(0, x2), (0, (mem2 25 (x1).toNat)), (2, 0)] _ rfl ?_
      refine w_calli (as := [(2, 0), (0, (mem2 25 (x1).toNat)), (0, x2)]) [] 62 rfl rfl rfl rfl (Nat.le_of_ble_eq_true rfl) (Nat.le_of_ble_eq_true rfl) (Nat.le_of_ble_eq_true rfl) (Or.inr rfl) (Ci.imp h (fun r4 mem5 h => ?_))
      exact w_reti rfl rfl h
    · by_cases e1 : x2 = 1
      · refine w_tabIn 48 rfl (by decide) g (by omega) (by rw [e1]; rfl) rfl ?_
        have h := h.2.1 e1
        refine zW.go 2 50 [(2, 0), (0, x1), (0, x2)] [(2, 0), (2, 0)] _ rfl ?_
        refine w_getL (q := 0) (v := 23) rfl (by decide) (pc' := 53) rfl ⟨by decide, rfl⟩ rfl rfl (zall_at hR (by decide)) ?_
        refine w_getL (q := 23) (v := 25) rfl (by decide) (pc' := 56) rfl ⟨by decide, rfl⟩ rfl rfl (zall_at hR (by decide)) ?_
        refine zW.go 1 57 [(2, 0), (0, x1), (0, x2)] [(0, x1), (2, 25), (2, 0)] _ rfl ?_
        obtain ⟨g, h⟩ := h
        refine w_iald (q := 25) rfl (by decide) (pc' := 58) rfl ⟨by decide, rfl⟩ rfl g rfl ?_
        refine zW.go 1 59 [(2, 0), (0, x1), (0, x2)] [(0, x2), (0, (mem2 25 (x1).toNat)), (2, 0)] _ rfl ?_
        refine w_calli (as := [(2, 0), (0, (mem2 25 (x1).toNat)), (0, x2)]) [] 62 rfl rfl rfl rfl (Nat.le_of_ble_eq_true rfl) (Nat.le_of_ble_eq_true rfl) (Nat.le_of_ble_eq_true rfl) (Or.inr rfl) (Ci.imp h (fun r6 mem7 h => ?_))
        exact w_reti rfl rfl h
      · by_cases e2 : x2 = 2
        · refine w_tabIn 63 rfl (by decide) g (by omega) (by rw [e2]; rfl) rfl ?_
          have h := h.2.2.1 e2
          refine zW.go 1 64 [(2, 0), (0, x1), (0, x2)] [(2, 0)] _ rfl ?_
          refine w_getL (q := 0) (v := 23) rfl (by decide) (pc' := 67) rfl ⟨by decide, rfl⟩ rfl rfl (zall_at hR (by decide)) ?_
          refine w_getL (q := 23) (v := 26) rfl (by decide) (pc' := 70) rfl ⟨by decide, rfl⟩ rfl rfl (zall_at hR (by decide)) ?_
          refine zW.go 1 71 [(2, 0), (0, x1), (0, x2)] [(0, x1), (2, 26)] _ rfl ?_
          obtain ⟨g, h⟩ := h
          refine w_iald (q := 26) rfl (by decide) (pc' := 72) rfl ⟨by decide, rfl⟩ rfl g rfl ?_
          exact w_reti rfl rfl h
        · by_cases e3 : x2 = 3
          · refine w_tabIn 73 rfl (by decide) g (by omega) (by rw [e3]; rfl) rfl ?_
            have h := h.2.2.2.1 e3
            refine zW.go 1 74 [(2, 0), (0, x1), (0, x2)] [(2, 0)] _ rfl ?_
            refine w_getL (q := 0) (v := 23) rfl (by decide) (pc' := 77) rfl ⟨by decide, rfl⟩ rfl rfl (zall_at hR (by decide)) ?_
            refine w_getL (q := 23) (v := 27) rfl (by decide) (pc' := 80) rfl ⟨by decide, rfl⟩ rfl rfl (zall_at hR (by decide)) ?_
            refine zW.go 1 81 [(2, 0), (0, x1), (0, x2)] [(0, x1), (2, 27)] _ rfl ?_
            obtain ⟨g, h⟩ := h
            refine w_iald (q := 27) rfl (by decide) (pc' := 82) rfl ⟨by decide, rfl⟩ rfl g rfl ?_
            exact w_reti rfl rfl h
          · by_cases e4 : x2 = 4
            · refine w_tabIn 83 rfl (by decide) g (by omega) (by rw [e4]; rfl) rfl ?_
              have h := h.2.2.2.2.1 e4
              refine zW.go 1 84 [(2, 0), (0, x1), (0, x2)] [(2, 0)] _ rfl ?_
              refine w_getL (q := 0) (v := 23) rfl (by decide) (pc' := 87) rfl ⟨by decide, rfl⟩ rfl rfl (zall_at hR (by decide)) ?_
              refine w_getL (q := 23) (v := 28) rfl (by decide) (pc' := 90) rfl ⟨by decide, rfl⟩ rfl rfl (zall_at hR (by decide)) ?_
              refine zW.go 1 91 [(2, 0), (0, x1), (0, x2)] [(0, x1), (2, 28)] _ rfl ?_
              obtain ⟨g, h⟩ := h
              refine w_iald (q := 28) rfl (by decide) (pc' := 92) rfl ⟨by decide, rfl⟩ rfl g rfl ?_
              exact w_reti rfl rfl h
            · refine w_tabOut 93 rfl (by decide) g (by omega) rfl ?_
              have h := h.2.2.2.2.2 ⟨e0, e1, e2, e3, e4⟩
              refine zW.go 1 94 [(2, 0), (0, x1), (0, x2)] [(0, (-1))] _ rfl ?_
              exact w_reti rfl rfl h
  · have h := h.2.2 c3
    refine zW.go 1 13 [(2, 0), (0, x1), (0, x2)] [(0, (-1))] _ rfl ?_
    exact w_reti rfl rfl h
set_option maxRecDepth 4000 in
theorem s_c_deed {X : zX} {d : Nat} {rf mem : zF} {Q : Int → zF → Prop} (hR : zall rf zRK = true) {p : Nat} (hp : zPln rf p) (hpl : rf 0 8 = ((p : Nat) : Int)) {x1 : Int} {x2 : Int} (h : Ci X d 60 [(2, ((p : Nat) : Int)), (0, 2), (0, x1)] rf mem (fun r1 mem2 => (inI r1) ∧ ((¬ r1 = 0 → (inI x2) ∧ ((x2 = 0 → (0 ≤ x1 ∧ x1 < 6) ∧ (Q (mem2 29 (x1).toNat) mem2)) ∧ (x2 = 1 → Ci X d 89 [(2, 23), (0, x1)] rf mem2 (fun r4 mem5 => Q r4 mem5)) ∧ (x2 = 2 → (0 ≤ x1 ∧ x1 < 6) ∧ (Q (mem2 30 (x1).toNat) mem2)) ∧ ((x2 ≠ 0 ∧ x2 ≠ 1 ∧ x2 ≠ 2) → Q (-1) mem2))) ∧ (r1 = 0 → Q (-1) mem2)))) : Ci X (d + 1) 159 [(2, 0), (0, x1), (0, x2)] rf mem Q := by
  show zW X (d + 1) 159 0 [(2, 0), (0, x1), (0, x2)] [] (zty, rf, mem) (qi rf Q)
  refine zW.go 1 1 [(2, 0), (0, x1), (0, x2)] [(2, 0)] _ rfl ?_
  refine w_getL (q := 0) (v := ((p : Nat) : Int)) rfl (by decide) (pc' := 4) rfl ⟨by decide, rfl⟩ rfl rfl hpl ?_
  refine zW.go 2 6 [(2, 0), (0, x1), (0, x2)] [(0, x1), (0, 2), (2, ((p : Nat) : Int))] _ rfl ?_
  refine w_calli (as := [(2, ((p : Nat) : Int)), (0, 2), (0, x1)]) [] 9 rfl rfl rfl rfl (Nat.le_of_ble_eq_true rfl) (Nat.le_of_ble_eq_true rfl) (Nat.le_of_ble_eq_true rfl) (Or.inr (zrcv_o (zPln_t0 hp))) (Ci.imp h (fun r1 mem2 h => ?_))
  refine w_if_ne rfl (by decide) (pc' := 12) rfl h.1 (fun c3 => ?_) (fun c3 => ?_)
  · have h := h.2.1 c3
    refine zW.go 1 15 [(2, 0), (0, x1), (0, x2)] [(0, x2)] _ rfl ?_
    obtain ⟨g, h⟩ := h
    by_cases e0 : x2 = 0
    · refine w_tabIn 40 rfl (by decide) g (by omega) (by rw [e0]; rfl) rfl ?_
      have h := h.1 e0
      refine zW.go 1 41 [(2, 0), (0, x1), (0, x2)] [(2, 0)] _ rfl ?_
      refine w_getL (q := 0) (v := 23) rfl (by decide) (pc' := 44) rfl ⟨by decide, rfl⟩ rfl rfl (zall_at hR (by decide)) ?_
      refine w_getL (q := 23) (v := 29) rfl (by decide) (pc' := 47) rfl ⟨by decide, rfl⟩ rfl rfl (zall_at hR (by decide)) ?_
      refine zW.go 1 48 [(2, 0), (0, x1), (0, x2)] [(0, x1), (2, 29)] _ rfl ?_
      obtain ⟨g, h⟩ := h
      refine w_iald (q := 29) rfl (by decide) (pc' := 49) rfl ⟨by decide, rfl⟩ rfl g rfl ?_
      exact w_reti rfl rfl h
    · by_cases e1 : x2 = 1
      · refine w_tabIn 50 rfl (by decide) g (by omega) (by rw [e1]; rfl) rfl ?_
        have h := h.2.1 e1
        refine zW.go 1 51 [(2, 0), (0, x1), (0, x2)] [(2, 0)] _ rfl ?_
        refine w_getL (q := 0) (v := 23) rfl (by decide) (pc' := 54) rfl ⟨by decide, rfl⟩ rfl rfl (zall_at hR (by decide)) ?_
        refine zW.go 1 55 [(2, 0), (0, x1), (0, x2)] [(0, x1), (2, 23)] _ rfl ?_
        refine w_calli (as := [(2, 23), (0, x1)]) [] 58 rfl rfl rfl rfl (Nat.le_of_ble_eq_true rfl) (Nat.le_of_ble_eq_true rfl) (Nat.le_of_ble_eq_true rfl) (Or.inr rfl) (Ci.imp h (fun r4 mem5 h => ?_))
        exact w_reti rfl rfl h
      · by_cases e2 : x2 = 2
        · refine w_tabIn 59 rfl (by decide) g (by omega) (by rw [e2]; rfl) rfl ?_
          have h := h.2.2.1 e2
          refine zW.go 1 60 [(2, 0), (0, x1), (0, x2)] [(2, 0)] _ rfl ?_
          refine w_getL (q := 0) (v := 23) rfl (by decide) (pc' := 63) rfl ⟨by decide, rfl⟩ rfl rfl (zall_at hR (by decide)) ?_
          refine w_getL (q := 23) (v := 30) rfl (by decide) (pc' := 66) rfl ⟨by decide, rfl⟩ rfl rfl (zall_at hR (by decide)) ?_
          refine zW.go 1 67 [(2, 0), (0, x1), (0, x2)] [(0, x1), (2, 30)] _ rfl ?_
          obtain ⟨g, h⟩ := h
          refine w_iald (q := 30) rfl (by decide) (pc' := 68) rfl ⟨by decide, rfl⟩ rfl g rfl ?_
          exact w_reti rfl rfl h
        · refine w_tabOut 69 rfl (by decide) g (by omega) rfl ?_
          have h := h.2.2.2 ⟨e0, e1, e2⟩
          refine zW.go 1 70 [(2, 0), (0, x1), (0, x2)] [(0, (-1))] _ rfl ?_
          exact w_reti rfl rfl h
  · have h := h.2.2 c3
    refine zW.go 1 13 [(2, 0), (0, x1), (0, x2)] [(0, (-1))] _ rfl ?_
    exact w_reti rfl rfl h
set_option maxRecDepth 4000 in
theorem s_c_draught {X : zX} {d : Nat} {rf mem : zF} {Q : Int → zF → Prop} (hR : zall rf zRK = true) {p : Nat} (hp : zPln rf p) (hpl : rf 0 8 = ((p : Nat) : Int)) {x1 : Int} {x2 : Int} (h : Ci X d 69 [(2, ((p : Nat) : Int)), (0, x1), (0, x2)] rf mem (fun r1 mem2 => (inI r1) ∧ ((¬ r1 = (-1) → Cv X d 141 [(2, 32), (2, ((p : Nat) : Int)), (2, 23)] rf mem2 (fun mem4 => Ci X d 143 [(2, 32), (0, r1)] rf mem4 (fun r5 mem6 => Q r5 mem6))) ∧ (r1 = (-1) → Q (-1) mem2)))) : Ci X (d + 1) 160 [(2, 0), (0, x1), (0, x2)] rf mem Q := by
  show zW X (d + 1) 160 0 [(2, 0), (0, x1), (0, x2), (9, 0)] [] (zty, rf, mem) (qi rf Q)
  refine zW.go 1 1 [(2, 0), (0, x1), (0, x2), (9, 0)] [(2, 0)] _ rfl ?_
  refine w_getL (q := 0) (v := ((p : Nat) : Int)) rfl (by decide) (pc' := 4) rfl ⟨by decide, rfl⟩ rfl rfl hpl ?_
  refine zW.go 2 6 [(2, 0), (0, x1), (0, x2), (9, 0)] [(0, x2), (0, x1), (2, ((p : Nat) : Int))] _ rfl ?_
  refine w_calli (as := [(2, ((p : Nat) : Int)), (0, x1), (0, x2)]) [] 9 rfl rfl rfl rfl (Nat.le_of_ble_eq_true rfl) (Nat.le_of_ble_eq_true rfl) (Nat.le_of_ble_eq_true rfl) (Or.inr (zrcv_o (zPln_t0 hp))) (Ci.imp h (fun r1 mem2 h => ?_))
  refine zW.go 3 12 [(2, 0), (0, x1), (0, x2), (0, r1)] [(0, (-1)), (0, r1)] _ rfl ?_
  refine w_ic_ne rfl (by decide) (pc' := 15) rfl ⟨h.1, by decide⟩ (fun c3 => ?_) (fun c3 => ?_)
  · have h := h.2.1 c3
    refine zW.go 1 18 [(2, 0), (0, x1), (0, x2), (0, r1)] [(2, 0)] _ rfl ?_
    refine w_getL (q := 0) (v := 32) rfl (by decide) (pc' := 21) rfl ⟨by decide, rfl⟩ rfl rfl (zall_at hR (by decide)) ?_
    refine zW.go 1 22 [(2, 0), (0, x1), (0, x2), (0, r1)] [(2, 0), (2, 32)] _ rfl ?_
    refine w_getL (q := 0) (v := ((p : Nat) : Int)) rfl (by decide) (pc' := 25) rfl ⟨by decide, rfl⟩ rfl rfl hpl ?_
    refine zW.go 1 26 [(2, 0), (0, x1), (0, x2), (0, r1)] [(2, 0), (2, ((p : Nat) : Int)), (2, 32)] _ rfl ?_
    refine w_getL (q := 0) (v := 23) rfl (by decide) (pc' := 29) rfl ⟨by decide, rfl⟩ rfl rfl (zall_at hR (by decide)) ?_
    refine w_callv (as := [(2, 32), (2, ((p : Nat) : Int)), (2, 23)]) [] 32 rfl rfl rfl rfl (Nat.le_of_ble_eq_true rfl) (Nat.le_of_ble_eq_true rfl) (Nat.le_of_ble_eq_true rfl) (Or.inr rfl) (Cv.imp h (fun mem4 h => ?_))
    refine zW.go 1 33 [(2, 0), (0, x1), (0, x2), (0, r1)] [(2, 0)] _ rfl ?_
    refine w_getL (q := 0) (v := 32) rfl (by decide) (pc' := 36) rfl ⟨by decide, rfl⟩ rfl rfl (zall_at hR (by decide)) ?_
    refine zW.go 1 37 [(2, 0), (0, x1), (0, x2), (0, r1)] [(0, r1), (2, 32)] _ rfl ?_
    refine w_calli (as := [(2, 32), (0, r1)]) [] 40 rfl rfl rfl rfl (Nat.le_of_ble_eq_true rfl) (Nat.le_of_ble_eq_true rfl) (Nat.le_of_ble_eq_true rfl) (Or.inr rfl) (Ci.imp h (fun r5 mem6 h => ?_))
    exact w_reti rfl rfl h
  · have h := h.2.2 c3
    refine zW.go 1 16 [(2, 0), (0, x1), (0, x2), (0, r1)] [(0, (-1))] _ rfl ?_
    exact w_reti rfl rfl h
set_option maxRecDepth 4000 in
theorem s_c_later {X : zX} {d : Nat} {rf mem : zF} {Q : Int → zF → Prop} (hR : zall rf zRK = true) {p : Nat} (hp : zPln rf p) (hpl : rf 0 8 = ((p : Nat) : Int)) {x1 : Int} {x2 : Int} {x3 : Int} (h : Ci X d 60 [(2, ((p : Nat) : Int)), (0, 2), (0, x1)] rf mem (fun r1 mem2 => (inI r1) ∧ ((r1 = 0 → Q (-1) mem2) ∧ (¬ r1 = 0 → Ci X d 190 [(2, 0), (0, x2), (0, 0), (0, 40)] rf mem2 (fun r4 mem5 => (inI r4) ∧ ((¬ r4 = 0 → Cr X d 102 [(2, 35), (2, ((p : Nat) : Int)), (2, 23), (0, x2)] rf mem5 (fun r7 mem8 => r7 = 39 ∧ ((inI x3) ∧ ((¬ x3 = 2 → (0 ≤ x1 ∧ x1 < 6) ∧ (Ci X d 186 [(2, 0), (0, (mem8 41 (x1).toNat)), (0, x3)] rf mem8 (fun r10 mem11 => Q r10 mem11))) ∧ (x3 = 2 → (0 ≤ x1 ∧ x1 < 6) ∧ (Q (mem8 42 (x1).toNat) mem8)))))) ∧ (r4 = 0 → Q (-1) mem5))))))) : Ci X (d + 1) 161 [(2, 0), (0, x1), (0, x2), (0, x3)] rf mem Q := by
  show zW X (d + 1) 161 0 [(2, 0), (0, x1), (0, x2), (0, x3), (9, 0)] [] (zty, rf, mem) (qi rf Q)
  refine zW.go 1 1 [(2, 0), (0, x1), (0, x2), (0, x3), (9, 0)] [(2, 0)] _ rfl ?_
  refine w_getL (q := 0) (v := ((p : Nat) : Int)) rfl (by decide) (pc' := 4) rfl ⟨by decide, rfl⟩ rfl rfl hpl ?_
  refine zW.go 2 6 [(2, 0), (0, x1), (0, x2), (0, x3), (9, 0)] [(0, x1), (0, 2), (2, ((p : Nat) : Int))] _ rfl ?_
  refine w_calli (as := [(2, ((p : Nat) : Int)), (0, 2), (0, x1)]) [] 9 rfl rfl rfl rfl (Nat.le_of_ble_eq_true rfl) (Nat.le_of_ble_eq_true rfl) (Nat.le_of_ble_eq_true rfl) (Or.inr (zrcv_o (zPln_t0 hp))) (Ci.imp h (fun r1 mem2 h => ?_))
  refine w_if_eq rfl (by decide) (pc' := 12) rfl h.1 (fun c3 => ?_) (fun c3 => ?_)
  · have h := h.2.1 c3
    refine zW.go 1 24 [(2, 0), (0, x1), (0, x2), (0, x3), (9, 0)] [(0, (-1))] _ rfl ?_
    exact w_reti rfl rfl h
  · have h := h.2.2 c3
    refine zW.go 4 17 [(2, 0), (0, x1), (0, x2), (0, x3), (9, 0)] [(0, 40), (0, 0), (0, x2), (2, 0)] _ rfl ?_
    refine w_calli (as := [(2, 0), (0, x2), (0, 0), (0, 40)]) [] 20 rfl rfl rfl rfl (Nat.le_of_ble_eq_true rfl) (Nat.le_of_ble_eq_true rfl) (Nat.le_of_ble_eq_true rfl) (Or.inr rfl) (Ci.imp h (fun r4 mem5 h => ?_))
    refine w_if_ne rfl (by decide) (pc' := 23) rfl h.1 (fun c6 => ?_) (fun c6 => ?_)
    · have h := h.2.1 c6
      refine zW.go 1 26 [(2, 0), (0, x1), (0, x2), (0, x3), (9, 0)] [(2, 0)] _ rfl ?_
      refine w_getL (q := 0) (v := 35) rfl (by decide) (pc' := 29) rfl ⟨by decide, rfl⟩ rfl rfl (zall_at hR (by decide)) ?_
      refine zW.go 1 30 [(2, 0), (0, x1), (0, x2), (0, x3), (9, 0)] [(2, 0), (2, 35)] _ rfl ?_
      refine w_getL (q := 0) (v := ((p : Nat) : Int)) rfl (by decide) (pc' := 33) rfl ⟨by decide, rfl⟩ rfl rfl hpl ?_
      refine zW.go 1 34 [(2, 0), (0, x1), (0, x2), (0, x3), (9, 0)] [(2, 0), (2, ((p : Nat) : Int)), (2, 35)] _ rfl ?_
      refine w_getL (q := 0) (v := 23) rfl (by decide) (pc' := 37) rfl ⟨by decide, rfl⟩ rfl rfl (zall_at hR (by decide)) ?_
      refine zW.go 1 38 [(2, 0), (0, x1), (0, x2), (0, x3), (9, 0)] [(0, x2), (2, 23), (2, ((p : Nat) : Int)), (2, 35)] _ rfl ?_
      refine w_callr (as := [(2, 35), (2, ((p : Nat) : Int)), (2, 23), (0, x2)]) [] 41 rfl rfl rfl rfl (Nat.le_of_ble_eq_true rfl) (Nat.le_of_ble_eq_true rfl) (Nat.le_of_ble_eq_true rfl) (Or.inr rfl) (Cr.imp h (fun r7 mem8 h => ?_))
      obtain ⟨er, h⟩ := h
      subst er
      refine zW.go 3 45 [(2, 0), (0, x1), (0, x2), (0, x3), (2, 39)] [(0, 2), (0, x3)] _ rfl ?_
      refine w_ic_ne rfl (by decide) (pc' := 48) rfl ⟨h.1, by decide⟩ (fun c9 => ?_) (fun c9 => ?_)
      · have h := h.2.1 c9
        refine zW.go 2 61 [(2, 0), (0, x1), (0, x2), (0, x3), (2, 39)] [(2, 39), (2, 0)] _ rfl ?_
        refine w_getL (q := 39) (v := 41) rfl (by decide) (pc' := 64) rfl ⟨by decide, rfl⟩ rfl rfl (zall_at hR (by decide)) ?_
        refine zW.go 1 65 [(2, 0), (0, x1), (0, x2), (0, x3), (2, 39)] [(0, x1), (2, 41), (2, 0)] _ rfl ?_
        obtain ⟨g, h⟩ := h
        refine w_iald (q := 41) rfl (by decide) (pc' := 66) rfl ⟨by decide, rfl⟩ rfl g rfl ?_
        refine zW.go 1 67 [(2, 0), (0, x1), (0, x2), (0, x3), (2, 39)] [(0, x3), (0, (mem8 41 (x1).toNat)), (2, 0)] _ rfl ?_
        refine w_calli (as := [(2, 0), (0, (mem8 41 (x1).toNat)), (0, x3)]) [] 70 rfl rfl rfl rfl (Nat.le_of_ble_eq_true rfl) (Nat.le_of_ble_eq_true rfl) (Nat.le_of_ble_eq_true rfl) (Or.inr rfl) (Ci.imp h (fun r10 mem11 h => ?_))
        exact w_reti rfl rfl h
      · have h := h.2.2 c9
        refine zW.go 1 50 [(2, 0), (0, x1), (0, x2), (0, x3), (2, 39)] [(2, 39)] _ rfl ?_
        refine w_getL (q := 39) (v := 42) rfl (by decide) (pc' := 53) rfl ⟨by decide, rfl⟩ rfl rfl (zall_at hR (by decide)) ?_
        refine zW.go 1 54 [(2, 0), (0, x1), (0, x2), (0, x3), (2, 39)] [(0, x1), (2, 42)] _ rfl ?_
        obtain ⟨g, h⟩ := h
        refine w_iald (q := 42) rfl (by decide) (pc' := 55) rfl ⟨by decide, rfl⟩ rfl g rfl ?_
        refine zW.go 1 70 [(2, 0), (0, x1), (0, x2), (0, x3), (2, 39)] [(0, (mem8 42 (x1).toNat))] _ rfl ?_
        exact w_reti rfl rfl h
    · have h := h.2.2 c6
      refine zW.go 1 24 [(2, 0), (0, x1), (0, x2), (0, x3), (9, 0)] [(0, (-1))] _ rfl ?_
      exact w_reti rfl rfl h
set_option maxRecDepth 4000 in
theorem s_c_goes {X : zX} {d : Nat} {rf mem : zF} {Q : Int → zF → Prop} (hR : zall rf zRK = true) {p : Nat} (hp : zPln rf p) (hpl : rf 0 8 = ((p : Nat) : Int)) {x1 : Int} (h : Ci X d 189 [(2, 0), (0, x1)] rf mem (fun r1 mem2 => (inI r1) ∧ ((¬ r1 = 0 → Ci X d 103 [(2, 35), (2, ((p : Nat) : Int)), (2, 23), (0, x1)] rf mem2 (fun r4 mem5 => Q r4 mem5)) ∧ (r1 = 0 → Q (-1) mem2)))) : Ci X (d + 1) 162 [(2, 0), (0, x1)] rf mem Q := by
  show zW X (d + 1) 162 0 [(2, 0), (0, x1)] [] (zty, rf, mem) (qi rf Q)
  refine zW.go 2 2 [(2, 0), (0, x1)] [(0, x1), (2, 0)] _ rfl ?_
  refine w_calli (as := [(2, 0), (0, x1)]) [] 5 rfl rfl rfl rfl (Nat.le_of_ble_eq_true rfl) (Nat.le_of_ble_eq_true rfl) (Nat.le_of_ble_eq_true rfl) (Or.inr rfl) (Ci.imp h (fun r1 mem2 h => ?_))
  refine w_if_ne rfl (by decide) (pc' := 8) rfl h.1 (fun c3 => ?_) (fun c3 => ?_)
  · have h := h.2.1 c3
    refine zW.go 1 11 [(2, 0), (0, x1)] [(2, 0)] _ rfl ?_
    refine w_getL (q := 0) (v := 35) rfl (by decide) (pc' := 14) rfl ⟨by decide, rfl⟩ rfl rfl (zall_at hR (by decide)) ?_
    refine zW.go 1 15 [(2, 0), (0, x1)] [(2, 0), (2, 35)] _ rfl ?_
    refine w_getL (q := 0) (v := ((p : Nat) : Int)) rfl (by decide) (pc' := 18) rfl ⟨by decide, rfl⟩ rfl rfl hpl ?_
    refine zW.go 1 19 [(2, 0), (0, x1)] [(2, 0), (2, ((p : Nat) : Int)), (2, 35)] _ rfl ?_
    refine w_getL (q := 0) (v := 23) rfl (by decide) (pc' := 22) rfl ⟨by decide, rfl⟩ rfl rfl (zall_at hR (by decide)) ?_
    refine zW.go 1 23 [(2, 0), (0, x1)] [(0, x1), (2, 23), (2, ((p : Nat) : Int)), (2, 35)] _ rfl ?_
    refine w_calli (as := [(2, 35), (2, ((p : Nat) : Int)), (2, 23), (0, x1)]) [] 26 rfl rfl rfl rfl (Nat.le_of_ble_eq_true rfl) (Nat.le_of_ble_eq_true rfl) (Nat.le_of_ble_eq_true rfl) (Or.inr rfl) (Ci.imp h (fun r4 mem5 h => ?_))
    exact w_reti rfl rfl h
  · have h := h.2.2 c3
    refine zW.go 1 9 [(2, 0), (0, x1)] [(0, (-1))] _ rfl ?_
    exact w_reti rfl rfl h
set_option maxRecDepth 4000 in
theorem s_c_owner {X : zX} {d : Nat} {rf mem : zF} {Q : Int → zF → Prop} (hR : zall rf zRK = true) {p : Nat} (hp : zPln rf p) (hpl : rf 0 8 = ((p : Nat) : Int)) {x1 : Int} {x2 : Int} (h : Ci X d 60 [(2, ((p : Nat) : Int)), (0, 2), (0, x1)] rf mem (fun r1 mem2 => (inI r1) ∧ ((r1 = 0 → Q (-1) mem2) ∧ (¬ r1 = 0 → Ci X d 190 [(2, 0), (0, x2), (0, 0), (0, 40)] rf mem2 (fun r4 mem5 => (inI r4) ∧ ((¬ r4 = 0 → Cr X d 102 [(2, 35), (2, ((p : Nat) : Int)), (2, 23), (0, x2)] rf mem5 (fun r7 mem8 => r7 = 39 ∧ ((0 ≤ x1 ∧ x1 < 6) ∧ (Q (mem8 45 (x1).toNat) mem8)))) ∧ (r4 = 0 → Q (-1) mem5))))))) : Ci X (d + 1) 163 [(2, 0), (0, x1), (0, x2)] rf mem Q := by
  show zW X (d + 1) 163 0 [(2, 0), (0, x1), (0, x2)] [] (zty, rf, mem) (qi rf Q)
  refine zW.go 1 1 [(2, 0), (0, x1), (0, x2)] [(2, 0)] _ rfl ?_
  refine w_getL (q := 0) (v := ((p : Nat) : Int)) rfl (by decide) (pc' := 4) rfl ⟨by decide, rfl⟩ rfl rfl hpl ?_
  refine zW.go 2 6 [(2, 0), (0, x1), (0, x2)] [(0, x1), (0, 2), (2, ((p : Nat) : Int))] _ rfl ?_
  refine w_calli (as := [(2, ((p : Nat) : Int)), (0, 2), (0, x1)]) [] 9 rfl rfl rfl rfl (Nat.le_of_ble_eq_true rfl) (Nat.le_of_ble_eq_true rfl) (Nat.le_of_ble_eq_true rfl) (Or.inr (zrcv_o (zPln_t0 hp))) (Ci.imp h (fun r1 mem2 h => ?_))
  refine w_if_eq rfl (by decide) (pc' := 12) rfl h.1 (fun c3 => ?_) (fun c3 => ?_)
  · have h := h.2.1 c3
    refine zW.go 1 24 [(2, 0), (0, x1), (0, x2)] [(0, (-1))] _ rfl ?_
    exact w_reti rfl rfl h
  · have h := h.2.2 c3
    refine zW.go 4 17 [(2, 0), (0, x1), (0, x2)] [(0, 40), (0, 0), (0, x2), (2, 0)] _ rfl ?_
    refine w_calli (as := [(2, 0), (0, x2), (0, 0), (0, 40)]) [] 20 rfl rfl rfl rfl (Nat.le_of_ble_eq_true rfl) (Nat.le_of_ble_eq_true rfl) (Nat.le_of_ble_eq_true rfl) (Or.inr rfl) (Ci.imp h (fun r4 mem5 h => ?_))
    refine w_if_ne rfl (by decide) (pc' := 23) rfl h.1 (fun c6 => ?_) (fun c6 => ?_)
    · have h := h.2.1 c6
      refine zW.go 1 26 [(2, 0), (0, x1), (0, x2)] [(2, 0)] _ rfl ?_
      refine w_getL (q := 0) (v := 35) rfl (by decide) (pc' := 29) rfl ⟨by decide, rfl⟩ rfl rfl (zall_at hR (by decide)) ?_
      refine zW.go 1 30 [(2, 0), (0, x1), (0, x2)] [(2, 0), (2, 35)] _ rfl ?_
      refine w_getL (q := 0) (v := ((p : Nat) : Int)) rfl (by decide) (pc' := 33) rfl ⟨by decide, rfl⟩ rfl rfl hpl ?_
      refine zW.go 1 34 [(2, 0), (0, x1), (0, x2)] [(2, 0), (2, ((p : Nat) : Int)), (2, 35)] _ rfl ?_
      refine w_getL (q := 0) (v := 23) rfl (by decide) (pc' := 37) rfl ⟨by decide, rfl⟩ rfl rfl (zall_at hR (by decide)) ?_
      refine zW.go 1 38 [(2, 0), (0, x1), (0, x2)] [(0, x2), (2, 23), (2, ((p : Nat) : Int)), (2, 35)] _ rfl ?_
      refine w_callr (as := [(2, 35), (2, ((p : Nat) : Int)), (2, 23), (0, x2)]) [] 41 rfl rfl rfl rfl (Nat.le_of_ble_eq_true rfl) (Nat.le_of_ble_eq_true rfl) (Nat.le_of_ble_eq_true rfl) (Or.inr rfl) (Cr.imp h (fun r7 mem8 h => ?_))
      obtain ⟨er, h⟩ := h
      subst er
      refine w_getL (q := 39) (v := 45) rfl (by decide) (pc' := 44) rfl ⟨by decide, rfl⟩ rfl rfl (zall_at hR (by decide)) ?_
      refine zW.go 1 45 [(2, 0), (0, x1), (0, x2)] [(0, x1), (2, 45)] _ rfl ?_
      obtain ⟨g, h⟩ := h
      refine w_iald (q := 45) rfl (by decide) (pc' := 46) rfl ⟨by decide, rfl⟩ rfl g rfl ?_
      exact w_reti rfl rfl h
    · have h := h.2.2 c6
      refine zW.go 1 24 [(2, 0), (0, x1), (0, x2)] [(0, (-1))] _ rfl ?_
      exact w_reti rfl rfl h
set_option maxRecDepth 4000 in
theorem s_c_doors {X : zX} {d : Nat} {rf mem : zF} {Q : Int → zF → Prop} (hR : zall rf zRK = true) {p : Nat} (hp : zPln rf p) (hpl : rf 0 8 = ((p : Nat) : Int)) {x1 : Int} {x2 : Int} {x3 : Int} (h : Ci X d 60 [(2, ((p : Nat) : Int)), (0, 2), (0, x1)] rf mem (fun r1 mem2 => (inI r1) ∧ ((r1 = 0 → Q (-1) mem2) ∧ (¬ r1 = 0 → Ci X d 60 [(2, ((p : Nat) : Int)), (0, 1), (0, x2)] rf mem2 (fun r4 mem5 => (inI r4) ∧ ((r4 = 0 → Q (-1) mem5) ∧ (¬ r4 = 0 → Ci X d 190 [(2, 0), (0, x3), (0, 0), (0, 20)] rf mem5 (fun r7 mem8 => (inI r7) ∧ ((¬ r7 = 0 → Ci X d 104 [(2, 35), (2, ((p : Nat) : Int)), (2, 23), (0, x1), (0, x2), (0, x3)] rf mem8 (fun r10 mem11 => Q r10 mem11)) ∧ (r7 = 0 → Q (-1) mem8)))))))))) : Ci X (d + 1) 164 [(2, 0), (0, x1), (0, x2), (0, x3)] rf mem Q := by
  show zW X (d + 1) 164 0 [(2, 0), (0, x1), (0, x2), (0, x3)] [] (zty, rf, mem) (qi rf Q)
  refine zW.go 1 1 [(2, 0), (0, x1), (0, x2), (0, x3)] [(2, 0)] _ rfl ?_
  refine w_getL (q := 0) (v := ((p : Nat) : Int)) rfl (by decide) (pc' := 4) rfl ⟨by decide, rfl⟩ rfl rfl hpl ?_
  refine zW.go 2 6 [(2, 0), (0, x1), (0, x2), (0, x3)] [(0, x1), (0, 2), (2, ((p : Nat) : Int))] _ rfl ?_
  refine w_calli (as := [(2, ((p : Nat) : Int)), (0, 2), (0, x1)]) [] 9 rfl rfl rfl rfl (Nat.le_of_ble_eq_true rfl) (Nat.le_of_ble_eq_true rfl) (Nat.le_of_ble_eq_true rfl) (Or.inr (zrcv_o (zPln_t0 hp))) (Ci.imp h (fun r1 mem2 h => ?_))
  refine w_if_eq rfl (by decide) (pc' := 12) rfl h.1 (fun c3 => ?_) (fun c3 => ?_)
  · have h := h.2.1 c3
    refine zW.go 1 36 [(2, 0), (0, x1), (0, x2), (0, x3)] [(0, (-1))] _ rfl ?_
    exact w_reti rfl rfl h
  · have h := h.2.2 c3
    refine zW.go 1 13 [(2, 0), (0, x1), (0, x2), (0, x3)] [(2, 0)] _ rfl ?_
    refine w_getL (q := 0) (v := ((p : Nat) : Int)) rfl (by decide) (pc' := 16) rfl ⟨by decide, rfl⟩ rfl rfl hpl ?_
    refine zW.go 2 18 [(2, 0), (0, x1), (0, x2), (0, x3)] [(0, x2), (0, 1), (2, ((p : Nat) : Int))] _ rfl ?_
    refine w_calli (as := [(2, ((p : Nat) : Int)), (0, 1), (0, x2)]) [] 21 rfl rfl rfl rfl (Nat.le_of_ble_eq_true rfl) (Nat.le_of_ble_eq_true rfl) (Nat.le_of_ble_eq_true rfl) (Or.inr (zrcv_o (zPln_t0 hp))) (Ci.imp h (fun r4 mem5 h => ?_))
    refine w_if_eq rfl (by decide) (pc' := 24) rfl h.1 (fun c6 => ?_) (fun c6 => ?_)
    · have h := h.2.1 c6
      refine zW.go 1 36 [(2, 0), (0, x1), (0, x2), (0, x3)] [(0, (-1))] _ rfl ?_
      exact w_reti rfl rfl h
    · have h := h.2.2 c6
      refine zW.go 4 29 [(2, 0), (0, x1), (0, x2), (0, x3)] [(0, 20), (0, 0), (0, x3), (2, 0)] _ rfl ?_
      refine w_calli (as := [(2, 0), (0, x3), (0, 0), (0, 20)]) [] 32 rfl rfl rfl rfl (Nat.le_of_ble_eq_true rfl) (Nat.le_of_ble_eq_true rfl) (Nat.le_of_ble_eq_true rfl) (Or.inr rfl) (Ci.imp h (fun r7 mem8 h => ?_))
      refine w_if_ne rfl (by decide) (pc' := 35) rfl h.1 (fun c9 => ?_) (fun c9 => ?_)
      · have h := h.2.1 c9
        refine zW.go 1 38 [(2, 0), (0, x1), (0, x2), (0, x3)] [(2, 0)] _ rfl ?_
        refine w_getL (q := 0) (v := 35) rfl (by decide) (pc' := 41) rfl ⟨by decide, rfl⟩ rfl rfl (zall_at hR (by decide)) ?_
        refine zW.go 1 42 [(2, 0), (0, x1), (0, x2), (0, x3)] [(2, 0), (2, 35)] _ rfl ?_
        refine w_getL (q := 0) (v := ((p : Nat) : Int)) rfl (by decide) (pc' := 45) rfl ⟨by decide, rfl⟩ rfl rfl hpl ?_
        refine zW.go 1 46 [(2, 0), (0, x1), (0, x2), (0, x3)] [(2, 0), (2, ((p : Nat) : Int)), (2, 35)] _ rfl ?_
        refine w_getL (q := 0) (v := 23) rfl (by decide) (pc' := 49) rfl ⟨by decide, rfl⟩ rfl rfl (zall_at hR (by decide)) ?_
        refine zW.go 3 52 [(2, 0), (0, x1), (0, x2), (0, x3)] [(0, x3), (0, x2), (0, x1), (2, 23), (2, ((p : Nat) : Int)), (2, 35)] _ rfl ?_
        refine w_calli (as := [(2, 35), (2, ((p : Nat) : Int)), (2, 23), (0, x1), (0, x2), (0, x3)]) [] 55 rfl rfl rfl rfl (Nat.le_of_ble_eq_true rfl) (Nat.le_of_ble_eq_true rfl) (Nat.le_of_ble_eq_true rfl) (Or.inr rfl) (Ci.imp h (fun r10 mem11 h => ?_))
        exact w_reti rfl rfl h
      · have h := h.2.2 c9
        refine zW.go 1 36 [(2, 0), (0, x1), (0, x2), (0, x3)] [(0, (-1))] _ rfl ?_
        exact w_reti rfl rfl h
set_option maxRecDepth 4000 in
theorem s_c_stand {X : zX} {d : Nat} {rf mem : zF} {Q : Int → zF → Prop} (hR : zall rf zRK = true) {p : Nat} (hp : zPln rf p) (hpl : rf 0 8 = ((p : Nat) : Int)) {x1 : Int} {x2 : Int} {x3 : Int} (h : Ci X d 60 [(2, ((p : Nat) : Int)), (0, 1), (0, x1)] rf mem (fun r1 mem2 => (inI r1) ∧ ((r1 = 0 → Q (-1) mem2) ∧ (¬ r1 = 0 → Ci X d 190 [(2, 0), (0, x2), (0, 1), (0, 20)] rf mem2 (fun r4 mem5 => (inI r4) ∧ ((¬ r4 = 0 → Cv X d 105 [(2, 35), (2, ((p : Nat) : Int)), (2, 23), (0, x1), (0, x2)] rf mem5 (fun mem7 => (inI x3) ∧ ((¬ x3 = 2 → Ci X d 186 [(2, 0), (0, (mem7 35 8)), (0, x3)] rf mem7 (fun r9 mem10 => Q r9 mem10)) ∧ (x3 = 2 → Q (mem7 35 9) mem7)))) ∧ (r4 = 0 → Q (-1) mem5))))))) : Ci X (d + 1) 165 [(2, 0), (0, x1), (0, x2), (0, x3)] rf mem Q := by
  show zW X (d + 1) 165 0 [(2, 0), (0, x1), (0, x2), (0, x3)] [] (zty, rf, mem) (qi rf Q)
  refine zW.go 1 1 [(2, 0), (0, x1), (0, x2), (0, x3)] [(2, 0)] _ rfl ?_
  refine w_getL (q := 0) (v := ((p : Nat) : Int)) rfl (by decide) (pc' := 4) rfl ⟨by decide, rfl⟩ rfl rfl hpl ?_
  refine zW.go 2 6 [(2, 0), (0, x1), (0, x2), (0, x3)] [(0, x1), (0, 1), (2, ((p : Nat) : Int))] _ rfl ?_
  refine w_calli (as := [(2, ((p : Nat) : Int)), (0, 1), (0, x1)]) [] 9 rfl rfl rfl rfl (Nat.le_of_ble_eq_true rfl) (Nat.le_of_ble_eq_true rfl) (Nat.le_of_ble_eq_true rfl) (Or.inr (zrcv_o (zPln_t0 hp))) (Ci.imp h (fun r1 mem2 h => ?_))
  refine w_if_eq rfl (by decide) (pc' := 12) rfl h.1 (fun c3 => ?_) (fun c3 => ?_)
  · have h := h.2.1 c3
    refine zW.go 1 24 [(2, 0), (0, x1), (0, x2), (0, x3)] [(0, (-1))] _ rfl ?_
    exact w_reti rfl rfl h
  · have h := h.2.2 c3
    refine zW.go 4 17 [(2, 0), (0, x1), (0, x2), (0, x3)] [(0, 20), (0, 1), (0, x2), (2, 0)] _ rfl ?_
    refine w_calli (as := [(2, 0), (0, x2), (0, 1), (0, 20)]) [] 20 rfl rfl rfl rfl (Nat.le_of_ble_eq_true rfl) (Nat.le_of_ble_eq_true rfl) (Nat.le_of_ble_eq_true rfl) (Or.inr rfl) (Ci.imp h (fun r4 mem5 h => ?_))
    refine w_if_ne rfl (by decide) (pc' := 23) rfl h.1 (fun c6 => ?_) (fun c6 => ?_)
    · have h := h.2.1 c6
      refine zW.go 1 26 [(2, 0), (0, x1), (0, x2), (0, x3)] [(2, 0)] _ rfl ?_
      refine w_getL (q := 0) (v := 35) rfl (by decide) (pc' := 29) rfl ⟨by decide, rfl⟩ rfl rfl (zall_at hR (by decide)) ?_
      refine zW.go 1 30 [(2, 0), (0, x1), (0, x2), (0, x3)] [(2, 0), (2, 35)] _ rfl ?_
      refine w_getL (q := 0) (v := ((p : Nat) : Int)) rfl (by decide) (pc' := 33) rfl ⟨by decide, rfl⟩ rfl rfl hpl ?_
      refine zW.go 1 34 [(2, 0), (0, x1), (0, x2), (0, x3)] [(2, 0), (2, ((p : Nat) : Int)), (2, 35)] _ rfl ?_
      refine w_getL (q := 0) (v := 23) rfl (by decide) (pc' := 37) rfl ⟨by decide, rfl⟩ rfl rfl (zall_at hR (by decide)) ?_
      refine zW.go 2 39 [(2, 0), (0, x1), (0, x2), (0, x3)] [(0, x2), (0, x1), (2, 23), (2, ((p : Nat) : Int)), (2, 35)] _ rfl ?_
      refine w_callv (as := [(2, 35), (2, ((p : Nat) : Int)), (2, 23), (0, x1), (0, x2)]) [] 42 rfl rfl rfl rfl (Nat.le_of_ble_eq_true rfl) (Nat.le_of_ble_eq_true rfl) (Nat.le_of_ble_eq_true rfl) (Or.inr rfl) (Cv.imp h (fun mem7 h => ?_))
      refine zW.go 2 44 [(2, 0), (0, x1), (0, x2), (0, x3)] [(0, 2), (0, x3)] _ rfl ?_
      refine w_ic_ne rfl (by decide) (pc' := 47) rfl ⟨h.1, by decide⟩ (fun c8 => ?_) (fun c8 => ?_)
      · have h := h.2.1 c8
        refine zW.go 2 59 [(2, 0), (0, x1), (0, x2), (0, x3)] [(2, 0), (2, 0)] _ rfl ?_
        refine w_getL (q := 0) (v := 35) rfl (by decide) (pc' := 62) rfl ⟨by decide, rfl⟩ rfl rfl (zall_at hR (by decide)) ?_
        refine w_getI (q := 35) rfl (by decide) (pc' := 65) rfl ⟨by decide, rfl⟩ rfl (by decide) ?_
        refine zW.go 1 66 [(2, 0), (0, x1), (0, x2), (0, x3)] [(0, x3), (0, (mem7 35 8)), (2, 0)] _ rfl ?_
        refine w_calli (as := [(2, 0), (0, (mem7 35 8)), (0, x3)]) [] 69 rfl rfl rfl rfl (Nat.le_of_ble_eq_true rfl) (Nat.le_of_ble_eq_true rfl) (Nat.le_of_ble_eq_true rfl) (Or.inr rfl) (Ci.imp h (fun r9 mem10 h => ?_))
        exact w_reti rfl rfl h
      · have h := h.2.2 c8
        refine zW.go 1 48 [(2, 0), (0, x1), (0, x2), (0, x3)] [(2, 0)] _ rfl ?_
        refine w_getL (q := 0) (v := 35) rfl (by decide) (pc' := 51) rfl ⟨by decide, rfl⟩ rfl rfl (zall_at hR (by decide)) ?_
        refine w_getI (q := 35) rfl (by decide) (pc' := 54) rfl ⟨by decide, rfl⟩ rfl (by decide) ?_
        refine zW.go 1 69 [(2, 0), (0, x1), (0, x2), (0, x3)] [(0, (mem7 35 9))] _ rfl ?_
        exact w_reti rfl rfl h
    · have h := h.2.2 c6
      refine zW.go 1 24 [(2, 0), (0, x1), (0, x2), (0, x3)] [(0, (-1))] _ rfl ?_
      exact w_reti rfl rfl h
set_option maxRecDepth 4000 in
theorem s_c_shine {X : zX} {d : Nat} {rf mem : zF} {Q : Int → zF → Prop} (hR : zall rf zRK = true) {p : Nat} (hp : zPln rf p) (hpl : rf 0 8 = ((p : Nat) : Int)) {x1 : Int} {x2 : Int} (h : (inI (mem p 1)) ∧ (((mem p 1) = 0 → Q (-1) mem) ∧ (¬ (mem p 1) = 0 → Ci X d 190 [(2, 0), (0, x1), (0, 1), (0, 20)] rf mem (fun r2 mem3 => (inI r2) ∧ ((¬ r2 = 0 → Cv X d 106 [(2, 35), (2, ((p : Nat) : Int)), (2, 23), (0, x1)] rf mem3 (fun mem5 => (inI x2) ∧ ((¬ x2 = 2 → Ci X d 186 [(2, 0), (0, (mem5 35 8)), (0, x2)] rf mem5 (fun r7 mem8 => Q r7 mem8)) ∧ (x2 = 2 → Q (mem5 35 9) mem5)))) ∧ (r2 = 0 → Q (-1) mem3)))))) : Ci X (d + 1) 166 [(2, 0), (0, x1), (0, x2)] rf mem Q := by
  show zW X (d + 1) 166 0 [(2, 0), (0, x1), (0, x2)] [] (zty, rf, mem) (qi rf Q)
  refine zW.go 1 1 [(2, 0), (0, x1), (0, x2)] [(2, 0)] _ rfl ?_
  refine w_getL (q := 0) (v := ((p : Nat) : Int)) rfl (by decide) (pc' := 4) rfl ⟨by decide, rfl⟩ rfl rfl hpl ?_
  refine w_getI (q := p) rfl (by decide) (pc' := 7) rfl ⟨Int.natCast_nonneg _, rfl⟩ (zPln_t0 hp) (by decide) ?_
  refine w_if_eq rfl (by decide) (pc' := 10) rfl h.1 (fun c1 => ?_) (fun c1 => ?_)
  · have h := h.2.1 c1
    refine zW.go 1 22 [(2, 0), (0, x1), (0, x2)] [(0, (-1))] _ rfl ?_
    exact w_reti rfl rfl h
  · have h := h.2.2 c1
    refine zW.go 4 15 [(2, 0), (0, x1), (0, x2)] [(0, 20), (0, 1), (0, x1), (2, 0)] _ rfl ?_
    refine w_calli (as := [(2, 0), (0, x1), (0, 1), (0, 20)]) [] 18 rfl rfl rfl rfl (Nat.le_of_ble_eq_true rfl) (Nat.le_of_ble_eq_true rfl) (Nat.le_of_ble_eq_true rfl) (Or.inr rfl) (Ci.imp h (fun r2 mem3 h => ?_))
    refine w_if_ne rfl (by decide) (pc' := 21) rfl h.1 (fun c4 => ?_) (fun c4 => ?_)
    · have h := h.2.1 c4
      refine zW.go 1 24 [(2, 0), (0, x1), (0, x2)] [(2, 0)] _ rfl ?_
      refine w_getL (q := 0) (v := 35) rfl (by decide) (pc' := 27) rfl ⟨by decide, rfl⟩ rfl rfl (zall_at hR (by decide)) ?_
      refine zW.go 1 28 [(2, 0), (0, x1), (0, x2)] [(2, 0), (2, 35)] _ rfl ?_
      refine w_getL (q := 0) (v := ((p : Nat) : Int)) rfl (by decide) (pc' := 31) rfl ⟨by decide, rfl⟩ rfl rfl hpl ?_
      refine zW.go 1 32 [(2, 0), (0, x1), (0, x2)] [(2, 0), (2, ((p : Nat) : Int)), (2, 35)] _ rfl ?_
      refine w_getL (q := 0) (v := 23) rfl (by decide) (pc' := 35) rfl ⟨by decide, rfl⟩ rfl rfl (zall_at hR (by decide)) ?_
      refine zW.go 1 36 [(2, 0), (0, x1), (0, x2)] [(0, x1), (2, 23), (2, ((p : Nat) : Int)), (2, 35)] _ rfl ?_
      refine w_callv (as := [(2, 35), (2, ((p : Nat) : Int)), (2, 23), (0, x1)]) [] 39 rfl rfl rfl rfl (Nat.le_of_ble_eq_true rfl) (Nat.le_of_ble_eq_true rfl) (Nat.le_of_ble_eq_true rfl) (Or.inr rfl) (Cv.imp h (fun mem5 h => ?_))
      refine zW.go 2 41 [(2, 0), (0, x1), (0, x2)] [(0, 2), (0, x2)] _ rfl ?_
      refine w_ic_ne rfl (by decide) (pc' := 44) rfl ⟨h.1, by decide⟩ (fun c6 => ?_) (fun c6 => ?_)
      · have h := h.2.1 c6
        refine zW.go 2 56 [(2, 0), (0, x1), (0, x2)] [(2, 0), (2, 0)] _ rfl ?_
        refine w_getL (q := 0) (v := 35) rfl (by decide) (pc' := 59) rfl ⟨by decide, rfl⟩ rfl rfl (zall_at hR (by decide)) ?_
        refine w_getI (q := 35) rfl (by decide) (pc' := 62) rfl ⟨by decide, rfl⟩ rfl (by decide) ?_
        refine zW.go 1 63 [(2, 0), (0, x1), (0, x2)] [(0, x2), (0, (mem5 35 8)), (2, 0)] _ rfl ?_
        refine w_calli (as := [(2, 0), (0, (mem5 35 8)), (0, x2)]) [] 66 rfl rfl rfl rfl (Nat.le_of_ble_eq_true rfl) (Nat.le_of_ble_eq_true rfl) (Nat.le_of_ble_eq_true rfl) (Or.inr rfl) (Ci.imp h (fun r7 mem8 h => ?_))
        exact w_reti rfl rfl h
      · have h := h.2.2 c6
        refine zW.go 1 45 [(2, 0), (0, x1), (0, x2)] [(2, 0)] _ rfl ?_
        refine w_getL (q := 0) (v := 35) rfl (by decide) (pc' := 48) rfl ⟨by decide, rfl⟩ rfl rfl (zall_at hR (by decide)) ?_
        refine w_getI (q := 35) rfl (by decide) (pc' := 51) rfl ⟨by decide, rfl⟩ rfl (by decide) ?_
        refine zW.go 1 66 [(2, 0), (0, x1), (0, x2)] [(0, (mem5 35 9))] _ rfl ?_
        exact w_reti rfl rfl h
    · have h := h.2.2 c4
      refine zW.go 1 22 [(2, 0), (0, x1), (0, x2)] [(0, (-1))] _ rfl ?_
      exact w_reti rfl rfl h
set_option maxRecDepth 4000 in
theorem s_c_lasts {X : zX} {d : Nat} {rf mem : zF} {Q : Int → zF → Prop} (hR : zall rf zRK = true) {p : Nat} (hp : zPln rf p) (hpl : rf 0 8 = ((p : Nat) : Int)) {x1 : Int} {x2 : Int} (h : Ci X d 189 [(2, 0), (0, x1)] rf mem (fun r1 mem2 => (inI r1) ∧ ((r1 = 0 → Q (-1) mem2) ∧ (¬ r1 = 0 → Ci X d 190 [(2, 0), (0, x2), (0, 1), (0, 20)] rf mem2 (fun r4 mem5 => (inI r4) ∧ ((¬ r4 = 0 → Ci X d 109 [(2, 35), (2, ((p : Nat) : Int)), (2, 23), (0, x1), (0, x2)] rf mem5 (fun r7 mem8 => Q r7 mem8)) ∧ (r4 = 0 → Q (-1) mem5))))))) : Ci X (d + 1) 167 [(2, 0), (0, x1), (0, x2)] rf mem Q := by
  show zW X (d + 1) 167 0 [(2, 0), (0, x1), (0, x2)] [] (zty, rf, mem) (qi rf Q)
  refine zW.go 2 2 [(2, 0), (0, x1), (0, x2)] [(0, x1), (2, 0)] _ rfl ?_
  refine w_calli (as := [(2, 0), (0, x1)]) [] 5 rfl rfl rfl rfl (Nat.le_of_ble_eq_true rfl) (Nat.le_of_ble_eq_true rfl) (Nat.le_of_ble_eq_true rfl) (Or.inr rfl) (Ci.imp h (fun r1 mem2 h => ?_))
  refine w_if_eq rfl (by decide) (pc' := 8) rfl h.1 (fun c3 => ?_) (fun c3 => ?_)
  · have h := h.2.1 c3
    refine zW.go 1 20 [(2, 0), (0, x1), (0, x2)] [(0, (-1))] _ rfl ?_
    exact w_reti rfl rfl h
  · have h := h.2.2 c3
    refine zW.go 4 13 [(2, 0), (0, x1), (0, x2)] [(0, 20), (0, 1), (0, x2), (2, 0)] _ rfl ?_
    refine w_calli (as := [(2, 0), (0, x2), (0, 1), (0, 20)]) [] 16 rfl rfl rfl rfl (Nat.le_of_ble_eq_true rfl) (Nat.le_of_ble_eq_true rfl) (Nat.le_of_ble_eq_true rfl) (Or.inr rfl) (Ci.imp h (fun r4 mem5 h => ?_))
    refine w_if_ne rfl (by decide) (pc' := 19) rfl h.1 (fun c6 => ?_) (fun c6 => ?_)
    · have h := h.2.1 c6
      refine zW.go 1 22 [(2, 0), (0, x1), (0, x2)] [(2, 0)] _ rfl ?_
      refine w_getL (q := 0) (v := 35) rfl (by decide) (pc' := 25) rfl ⟨by decide, rfl⟩ rfl rfl (zall_at hR (by decide)) ?_
      refine zW.go 1 26 [(2, 0), (0, x1), (0, x2)] [(2, 0), (2, 35)] _ rfl ?_
      refine w_getL (q := 0) (v := ((p : Nat) : Int)) rfl (by decide) (pc' := 29) rfl ⟨by decide, rfl⟩ rfl rfl hpl ?_
      refine zW.go 1 30 [(2, 0), (0, x1), (0, x2)] [(2, 0), (2, ((p : Nat) : Int)), (2, 35)] _ rfl ?_
      refine w_getL (q := 0) (v := 23) rfl (by decide) (pc' := 33) rfl ⟨by decide, rfl⟩ rfl rfl (zall_at hR (by decide)) ?_
      refine zW.go 2 35 [(2, 0), (0, x1), (0, x2)] [(0, x2), (0, x1), (2, 23), (2, ((p : Nat) : Int)), (2, 35)] _ rfl ?_
      refine w_calli (as := [(2, 35), (2, ((p : Nat) : Int)), (2, 23), (0, x1), (0, x2)]) [] 38 rfl rfl rfl rfl (Nat.le_of_ble_eq_true rfl) (Nat.le_of_ble_eq_true rfl) (Nat.le_of_ble_eq_true rfl) (Or.inr rfl) (Ci.imp h (fun r7 mem8 h => ?_))
      exact w_reti rfl rfl h
    · have h := h.2.2 c6
      refine zW.go 1 20 [(2, 0), (0, x1), (0, x2)] [(0, (-1))] _ rfl ?_
      exact w_reti rfl rfl h
set_option maxRecDepth 4000 in
theorem s_c_odds {X : zX} {d : Nat} {rf mem : zF} {Q : Int → zF → Prop} (hR : zall rf zRK = true) {p : Nat} (hp : zPln rf p) (hpl : rf 0 8 = ((p : Nat) : Int)) {x1 : Int} {x2 : Int} (h : Ci X d 60 [(2, ((p : Nat) : Int)), (0, 2), (0, x1)] rf mem (fun r1 mem2 => (inI r1) ∧ ((r1 = 0 → Q (-1) mem2) ∧ (¬ r1 = 0 → Ci X d 60 [(2, ((p : Nat) : Int)), (0, 1), (0, x2)] rf mem2 (fun r4 mem5 => (inI r4) ∧ ((r4 = 0 → Q (-1) mem5) ∧ (¬ r4 = 0 → Ci X d 190 [(2, 0), (0, 1), (0, 1), (0, 1)] rf mem5 (fun r7 mem8 => (inI r7) ∧ ((¬ r7 = 0 → Ci X d 110 [(2, 35), (2, ((p : Nat) : Int)), (2, 23), (0, x1), (0, x2)] rf mem8 (fun r10 mem11 => Q r10 mem11)) ∧ (r7 = 0 → Q (-1) mem8)))))))))) : Ci X (d + 1) 168 [(2, 0), (0, x1), (0, x2)] rf mem Q := by
  show zW X (d + 1) 168 0 [(2, 0), (0, x1), (0, x2)] [] (zty, rf, mem) (qi rf Q)
  refine zW.go 1 1 [(2, 0), (0, x1), (0, x2)] [(2, 0)] _ rfl ?_
  refine w_getL (q := 0) (v := ((p : Nat) : Int)) rfl (by decide) (pc' := 4) rfl ⟨by decide, rfl⟩ rfl rfl hpl ?_
  refine zW.go 2 6 [(2, 0), (0, x1), (0, x2)] [(0, x1), (0, 2), (2, ((p : Nat) : Int))] _ rfl ?_
  refine w_calli (as := [(2, ((p : Nat) : Int)), (0, 2), (0, x1)]) [] 9 rfl rfl rfl rfl (Nat.le_of_ble_eq_true rfl) (Nat.le_of_ble_eq_true rfl) (Nat.le_of_ble_eq_true rfl) (Or.inr (zrcv_o (zPln_t0 hp))) (Ci.imp h (fun r1 mem2 h => ?_))
  refine w_if_eq rfl (by decide) (pc' := 12) rfl h.1 (fun c3 => ?_) (fun c3 => ?_)
  · have h := h.2.1 c3
    refine zW.go 1 35 [(2, 0), (0, x1), (0, x2)] [(0, (-1))] _ rfl ?_
    exact w_reti rfl rfl h
  · have h := h.2.2 c3
    refine zW.go 1 13 [(2, 0), (0, x1), (0, x2)] [(2, 0)] _ rfl ?_
    refine w_getL (q := 0) (v := ((p : Nat) : Int)) rfl (by decide) (pc' := 16) rfl ⟨by decide, rfl⟩ rfl rfl hpl ?_
    refine zW.go 2 18 [(2, 0), (0, x1), (0, x2)] [(0, x2), (0, 1), (2, ((p : Nat) : Int))] _ rfl ?_
    refine w_calli (as := [(2, ((p : Nat) : Int)), (0, 1), (0, x2)]) [] 21 rfl rfl rfl rfl (Nat.le_of_ble_eq_true rfl) (Nat.le_of_ble_eq_true rfl) (Nat.le_of_ble_eq_true rfl) (Or.inr (zrcv_o (zPln_t0 hp))) (Ci.imp h (fun r4 mem5 h => ?_))
    refine w_if_eq rfl (by decide) (pc' := 24) rfl h.1 (fun c6 => ?_) (fun c6 => ?_)
    · have h := h.2.1 c6
      refine zW.go 1 35 [(2, 0), (0, x1), (0, x2)] [(0, (-1))] _ rfl ?_
      exact w_reti rfl rfl h
    · have h := h.2.2 c6
      refine zW.go 4 28 [(2, 0), (0, x1), (0, x2)] [(0, 1), (0, 1), (0, 1), (2, 0)] _ rfl ?_
      refine w_calli (as := [(2, 0), (0, 1), (0, 1), (0, 1)]) [] 31 rfl rfl rfl rfl (Nat.le_of_ble_eq_true rfl) (Nat.le_of_ble_eq_true rfl) (Nat.le_of_ble_eq_true rfl) (Or.inr rfl) (Ci.imp h (fun r7 mem8 h => ?_))
      refine w_if_ne rfl (by decide) (pc' := 34) rfl h.1 (fun c9 => ?_) (fun c9 => ?_)
      · have h := h.2.1 c9
        refine zW.go 1 37 [(2, 0), (0, x1), (0, x2)] [(2, 0)] _ rfl ?_
        refine w_getL (q := 0) (v := 35) rfl (by decide) (pc' := 40) rfl ⟨by decide, rfl⟩ rfl rfl (zall_at hR (by decide)) ?_
        refine zW.go 1 41 [(2, 0), (0, x1), (0, x2)] [(2, 0), (2, 35)] _ rfl ?_
        refine w_getL (q := 0) (v := ((p : Nat) : Int)) rfl (by decide) (pc' := 44) rfl ⟨by decide, rfl⟩ rfl rfl hpl ?_
        refine zW.go 1 45 [(2, 0), (0, x1), (0, x2)] [(2, 0), (2, ((p : Nat) : Int)), (2, 35)] _ rfl ?_
        refine w_getL (q := 0) (v := 23) rfl (by decide) (pc' := 48) rfl ⟨by decide, rfl⟩ rfl rfl (zall_at hR (by decide)) ?_
        refine zW.go 2 50 [(2, 0), (0, x1), (0, x2)] [(0, x2), (0, x1), (2, 23), (2, ((p : Nat) : Int)), (2, 35)] _ rfl ?_
        refine w_calli (as := [(2, 35), (2, ((p : Nat) : Int)), (2, 23), (0, x1), (0, x2)]) [] 53 rfl rfl rfl rfl (Nat.le_of_ble_eq_true rfl) (Nat.le_of_ble_eq_true rfl) (Nat.le_of_ble_eq_true rfl) (Or.inr rfl) (Ci.imp h (fun r10 mem11 h => ?_))
        exact w_reti rfl rfl h
      · have h := h.2.2 c9
        refine zW.go 1 35 [(2, 0), (0, x1), (0, x2)] [(0, (-1))] _ rfl ?_
        exact w_reti rfl rfl h
set_option maxRecDepth 4000 in
theorem s_c_feel {X : zX} {d : Nat} {rf mem : zF} {Q : Int → zF → Prop} (hR : zall rf zRK = true) {p : Nat} (hp : zPln rf p) (hpl : rf 0 8 = ((p : Nat) : Int)) (h : Ci X d 113 [(2, 35), (2, 1), (2, ((p : Nat) : Int))] rf mem (fun r1 mem2 => (inI r1) ∧ ((r1 = 0 → Ci X d 185 [(2, 0), (0, 5)] rf (zup mem2 1 1 0) (fun r4 mem5 => Q r4 mem5)) ∧ (¬ r1 = 0 → Q (mem2 35 7) (zup mem2 1 1 0))))) : Ci X (d + 1) 169 [(2, 0)] rf mem Q := by
  show zW X (d + 1) 169 0 [(2, 0), (9, 0)] [] (zty, rf, mem) (qi rf Q)
  refine zW.go 1 1 [(2, 0), (9, 0)] [(2, 0)] _ rfl ?_
  refine w_getL (q := 0) (v := 35) rfl (by decide) (pc' := 4) rfl ⟨by decide, rfl⟩ rfl rfl (zall_at hR (by decide)) ?_
  refine zW.go 1 5 [(2, 0), (9, 0)] [(2, 0), (2, 35)] _ rfl ?_
  refine w_getL (q := 0) (v := 1) rfl (by decide) (pc' := 8) rfl ⟨by decide, rfl⟩ rfl rfl (zall_at hR (by decide)) ?_
  refine zW.go 1 9 [(2, 0), (9, 0)] [(2, 0), (2, 1), (2, 35)] _ rfl ?_
  refine w_getL (q := 0) (v := ((p : Nat) : Int)) rfl (by decide) (pc' := 12) rfl ⟨by decide, rfl⟩ rfl rfl hpl ?_
  refine w_calli (as := [(2, 35), (2, 1), (2, ((p : Nat) : Int))]) [] 15 rfl rfl rfl rfl (Nat.le_of_ble_eq_true rfl) (Nat.le_of_ble_eq_true rfl) (Nat.le_of_ble_eq_true rfl) (Or.inr rfl) (Ci.imp h (fun r1 mem2 h => ?_))
  refine zW.go 2 17 [(2, 0), (0, r1)] [(2, 0)] _ rfl ?_
  refine w_getL (q := 0) (v := 1) rfl (by decide) (pc' := 20) rfl ⟨by decide, rfl⟩ rfl rfl (zall_at hR (by decide)) ?_
  refine zW.go 1 21 [(2, 0), (0, r1)] [(0, 0), (2, 1)] _ rfl ?_
  refine w_putI (q := 1) rfl (by decide) (pc' := 24) rfl ⟨by decide, rfl⟩ rfl (by decide) ?_
  refine zW.go 1 25 [(2, 0), (0, r1)] [(0, r1)] _ rfl ?_
  refine w_if_eq rfl (by decide) (pc' := 28) rfl h.1 (fun c3 => ?_) (fun c3 => ?_)
  · have h := h.2.1 c3
    refine zW.go 2 40 [(2, 0), (0, r1)] [(0, 5), (2, 0)] _ rfl ?_
    refine w_calli (as := [(2, 0), (0, 5)]) [] 43 rfl rfl rfl rfl (Nat.le_of_ble_eq_true rfl) (Nat.le_of_ble_eq_true rfl) (Nat.le_of_ble_eq_true rfl) (Or.inr rfl) (Ci.imp h (fun r4 mem5 h => ?_))
    exact w_reti rfl rfl h
  · have h := h.2.2 c3
    refine zW.go 1 29 [(2, 0), (0, r1)] [(2, 0)] _ rfl ?_
    refine w_getL (q := 0) (v := 35) rfl (by decide) (pc' := 32) rfl ⟨by decide, rfl⟩ rfl rfl (zall_at hR (by decide)) ?_
    refine w_getI (q := 35) rfl (by decide) (pc' := 35) rfl ⟨by decide, rfl⟩ rfl (by decide) ?_
    refine zW.go 1 43 [(2, 0), (0, r1)] [(0, (mem2 35 7))] _ rfl ?_
    exact w_reti rfl rfl h
set_option maxRecDepth 4000 in
theorem s_c_from {X : zX} {d : Nat} {rf mem : zF} {Q : Int → zF → Prop} (hR : zall rf zRK = true) {p : Nat} (hp : zPln rf p) (hpl : rf 0 8 = ((p : Nat) : Int)) {x1 : Int} {x2 : Int} (h : Ci X d 189 [(2, 0), (0, x1)] rf mem (fun r1 mem2 => (inI r1) ∧ ((¬ r1 = 0 → Cv X d 115 [(2, 35), (2, ((p : Nat) : Int)), (2, 23), (0, x1)] rf mem2 (fun mem4 => (inI x2) ∧ ((¬ x2 = (-1) → Ci X d 116 [(2, 35), (0, x2)] rf mem4 (fun r6 mem7 => Q r6 mem7)) ∧ (x2 = (-1) → Q (mem4 35 6) mem4)))) ∧ (r1 = 0 → Q (-1) mem2)))) : Ci X (d + 1) 170 [(2, 0), (0, x1), (0, x2)] rf mem Q := by
  show zW X (d + 1) 170 0 [(2, 0), (0, x1), (0, x2)] [] (zty, rf, mem) (qi rf Q)
  refine zW.go 2 2 [(2, 0), (0, x1), (0, x2)] [(0, x1), (2, 0)] _ rfl ?_
  refine w_calli (as := [(2, 0), (0, x1)]) [] 5 rfl rfl rfl rfl (Nat.le_of_ble_eq_true rfl) (Nat.le_of_ble_eq_true rfl) (Nat.le_of_ble_eq_true rfl) (Or.inr rfl) (Ci.imp h (fun r1 mem2 h => ?_))
  refine w_if_ne rfl (by decide) (pc' := 8) rfl h.1 (fun c3 => ?_) (fun c3 => ?_)
  · have h := h.2.1 c3
    refine zW.go 1 11 [(2, 0), (0, x1), (0, x2)] [(2, 0)] _ rfl ?_
    refine w_getL (q := 0) (v := 35) rfl (by decide) (pc' := 14) rfl ⟨by decide, rfl⟩ rfl rfl (zall_at hR (by decide)) ?_
    refine zW.go 1 15 [(2, 0), (0, x1), (0, x2)] [(2, 0), (2, 35)] _ rfl ?_
    refine w_getL (q := 0) (v := ((p : Nat) : Int)) rfl (by decide) (pc' := 18) rfl ⟨by decide, rfl⟩ rfl rfl hpl ?_
    refine zW.go 1 19 [(2, 0), (0, x1), (0, x2)] [(2, 0), (2, ((p : Nat) : Int)), (2, 35)] _ rfl ?_
    refine w_getL (q := 0) (v := 23) rfl (by decide) (pc' := 22) rfl ⟨by decide, rfl⟩ rfl rfl (zall_at hR (by decide)) ?_
    refine zW.go 1 23 [(2, 0), (0, x1), (0, x2)] [(0, x1), (2, 23), (2, ((p : Nat) : Int)), (2, 35)] _ rfl ?_
    refine w_callv (as := [(2, 35), (2, ((p : Nat) : Int)), (2, 23), (0, x1)]) [] 26 rfl rfl rfl rfl (Nat.le_of_ble_eq_true rfl) (Nat.le_of_ble_eq_true rfl) (Nat.le_of_ble_eq_true rfl) (Or.inr rfl) (Cv.imp h (fun mem4 h => ?_))
    refine zW.go 2 28 [(2, 0), (0, x1), (0, x2)] [(0, (-1)), (0, x2)] _ rfl ?_
    refine w_ic_ne rfl (by decide) (pc' := 31) rfl ⟨h.1, by decide⟩ (fun c5 => ?_) (fun c5 => ?_)
    · have h := h.2.1 c5
      refine zW.go 1 42 [(2, 0), (0, x1), (0, x2)] [(2, 0)] _ rfl ?_
      refine w_getL (q := 0) (v := 35) rfl (by decide) (pc' := 45) rfl ⟨by decide, rfl⟩ rfl rfl (zall_at hR (by decide)) ?_
      refine zW.go 1 46 [(2, 0), (0, x1), (0, x2)] [(0, x2), (2, 35)] _ rfl ?_
      refine w_calli (as := [(2, 35), (0, x2)]) [] 49 rfl rfl rfl rfl (Nat.le_of_ble_eq_true rfl) (Nat.le_of_ble_eq_true rfl) (Nat.le_of_ble_eq_true rfl) (Or.inr rfl) (Ci.imp h (fun r6 mem7 h => ?_))
      exact w_reti rfl rfl h
    · have h := h.2.2 c5
      refine zW.go 1 32 [(2, 0), (0, x1), (0, x2)] [(2, 0)] _ rfl ?_
      refine w_getL (q := 0) (v := 35) rfl (by decide) (pc' := 35) rfl ⟨by decide, rfl⟩ rfl rfl (zall_at hR (by decide)) ?_
      refine w_getI (q := 35) rfl (by decide) (pc' := 38) rfl ⟨by decide, rfl⟩ rfl (by decide) ?_
      refine zW.go 1 49 [(2, 0), (0, x1), (0, x2)] [(0, (mem4 35 6))] _ rfl ?_
      exact w_reti rfl rfl h
  · have h := h.2.2 c3
    refine zW.go 1 9 [(2, 0), (0, x1), (0, x2)] [(0, (-1))] _ rfl ?_
    exact w_reti rfl rfl h
set_option maxRecDepth 4000 in
theorem s_c_tells {X : zX} {d : Nat} {rf mem : zF} {Q : Int → zF → Prop} (hR : zall rf zRK = true) {p : Nat} (hp : zPln rf p) (hpl : rf 0 8 = ((p : Nat) : Int)) {x1 : Int} {x2 : Int} (h : Ci X d 189 [(2, 0), (0, x1)] rf mem (fun r1 mem2 => (inI r1) ∧ ((r1 = 0 → Q (-1) mem2) ∧ (¬ r1 = 0 → (inI x2) ∧ ((x2 < 0 → Q (-1) mem2) ∧ (¬ x2 < 0 → (inI x2) ∧ ((1 < x2 → Q (-1) mem2) ∧ (¬ 1 < x2 → Ci X d 120 [(2, 35), (2, ((p : Nat) : Int)), (2, 23), (0, x1)] rf mem2 (fun r6 mem7 => (inI r6) ∧ ((¬ r6 = 0 → (inI x2) ∧ ((¬ x2 = 0 → Q (mem7 35 11) mem7) ∧ (x2 = 0 → Q (mem7 35 10) mem7))) ∧ (r6 = 0 → Q (-1) mem7))))))))))) : Ci X (d + 1) 171 [(2, 0), (0, x1), (0, x2)] rf mem Q := by
  show zW X (d + 1) 171 0 [(2, 0), (0, x1), (0, x2)] [] (zty, rf, mem) (qi rf Q)
  refine zW.go 2 2 [(2, 0), (0, x1), (0, x2)] [(0, x1), (2, 0)] _ rfl ?_
  refine w_calli (as := [(2, 0), (0, x1)]) [] 5 rfl rfl rfl rfl (Nat.le_of_ble_eq_true rfl) (Nat.le_of_ble_eq_true rfl) (Nat.le_of_ble_eq_true rfl) (Or.inr rfl) (Ci.imp h (fun r1 mem2 h => ?_))
  refine w_if_eq rfl (by decide) (pc' := 8) rfl h.1 (fun c3 => ?_) (fun c3 => ?_)
  · have h := h.2.1 c3
    refine zW.go 1 37 [(2, 0), (0, x1), (0, x2)] [(0, (-1))] _ rfl ?_
    exact w_reti rfl rfl h
  · have h := h.2.2 c3
    refine zW.go 1 9 [(2, 0), (0, x1), (0, x2)] [(0, x2)] _ rfl ?_
    refine w_if_lt rfl (by decide) (pc' := 12) rfl h.1 (fun c4 => ?_) (fun c4 => ?_)
    · have h := h.2.1 c4
      refine zW.go 1 37 [(2, 0), (0, x1), (0, x2)] [(0, (-1))] _ rfl ?_
      exact w_reti rfl rfl h
    · have h := h.2.2 c4
      refine zW.go 2 14 [(2, 0), (0, x1), (0, x2)] [(0, 1), (0, x2)] _ rfl ?_
      refine w_ic_gt rfl (by decide) (pc' := 17) rfl ⟨h.1, by decide⟩ (fun c5 => ?_) (fun c5 => ?_)
      · have h := h.2.1 c5
        refine zW.go 1 37 [(2, 0), (0, x1), (0, x2)] [(0, (-1))] _ rfl ?_
        exact w_reti rfl rfl h
      · have h := h.2.2 c5
        refine zW.go 1 18 [(2, 0), (0, x1), (0, x2)] [(2, 0)] _ rfl ?_
        refine w_getL (q := 0) (v := 35) rfl (by decide) (pc' := 21) rfl ⟨by decide, rfl⟩ rfl rfl (zall_at hR (by decide)) ?_
        refine zW.go 1 22 [(2, 0), (0, x1), (0, x2)] [(2, 0), (2, 35)] _ rfl ?_
        refine w_getL (q := 0) (v := ((p : Nat) : Int)) rfl (by decide) (pc' := 25) rfl ⟨by decide, rfl⟩ rfl rfl hpl ?_
        refine zW.go 1 26 [(2, 0), (0, x1), (0, x2)] [(2, 0), (2, ((p : Nat) : Int)), (2, 35)] _ rfl ?_
        refine w_getL (q := 0) (v := 23) rfl (by decide) (pc' := 29) rfl ⟨by decide, rfl⟩ rfl rfl (zall_at hR (by decide)) ?_
        refine zW.go 1 30 [(2, 0), (0, x1), (0, x2)] [(0, x1), (2, 23), (2, ((p : Nat) : Int)), (2, 35)] _ rfl ?_
        refine w_calli (as := [(2, 35), (2, ((p : Nat) : Int)), (2, 23), (0, x1)]) [] 33 rfl rfl rfl rfl (Nat.le_of_ble_eq_true rfl) (Nat.le_of_ble_eq_true rfl) (Nat.le_of_ble_eq_true rfl) (Or.inr rfl) (Ci.imp h (fun r6 mem7 h => ?_))
        refine w_if_ne rfl (by decide) (pc' := 36) rfl h.1 (fun c8 => ?_) (fun c8 => ?_)
        · have h := h.2.1 c8
          refine zW.go 1 39 [(2, 0), (0, x1), (0, x2)] [(0, x2)] _ rfl ?_
          refine w_if_ne rfl (by decide) (pc' := 42) rfl h.1 (fun c9 => ?_) (fun c9 => ?_)
          · have h := h.2.1 c9
            refine zW.go 1 53 [(2, 0), (0, x1), (0, x2)] [(2, 0)] _ rfl ?_
            refine w_getL (q := 0) (v := 35) rfl (by decide) (pc' := 56) rfl ⟨by decide, rfl⟩ rfl rfl (zall_at hR (by decide)) ?_
            refine w_getI (q := 35) rfl (by decide) (pc' := 59) rfl ⟨by decide, rfl⟩ rfl (by decide) ?_
            exact w_reti rfl rfl h
          · have h := h.2.2 c9
            refine zW.go 1 43 [(2, 0), (0, x1), (0, x2)] [(2, 0)] _ rfl ?_
            refine w_getL (q := 0) (v := 35) rfl (by decide) (pc' := 46) rfl ⟨by decide, rfl⟩ rfl rfl (zall_at hR (by decide)) ?_
            refine w_getI (q := 35) rfl (by decide) (pc' := 49) rfl ⟨by decide, rfl⟩ rfl (by decide) ?_
            refine zW.go 1 59 [(2, 0), (0, x1), (0, x2)] [(0, (mem7 35 10))] _ rfl ?_
            exact w_reti rfl rfl h
        · have h := h.2.2 c8
          refine zW.go 1 37 [(2, 0), (0, x1), (0, x2)] [(0, (-1))] _ rfl ?_
          exact w_reti rfl rfl h
set_option maxRecDepth 4000 in
theorem s_c_seconds {X : zX} {d : Nat} {rf mem : zF} {Q : Int → zF → Prop} (hR : zall rf zRK = true) {p : Nat} (hp : zPln rf p) (hpl : rf 0 8 = ((p : Nat) : Int)) {x1 : Int} (h : Ci X d 191 [(2, 0), (0, x1), (0, 0)] rf mem (fun r1 mem2 => Q r1 mem2)) : Ci X (d + 1) 172 [(2, 0), (0, x1)] rf mem Q := by
  show zW X (d + 1) 172 0 [(2, 0), (0, x1)] [] (zty, rf, mem) (qi rf Q)
  refine zW.go 3 3 [(2, 0), (0, x1)] [(0, 0), (0, x1), (2, 0)] _ rfl ?_
  refine w_calli (as := [(2, 0), (0, x1), (0, 0)]) [] 6 rfl rfl rfl rfl (Nat.le_of_ble_eq_true rfl) (Nat.le_of_ble_eq_true rfl) (Nat.le_of_ble_eq_true rfl) (Or.inr rfl) (Ci.imp h (fun r1 mem2 h => ?_))
  exact w_reti rfl rfl h
set_option maxRecDepth 4000 in
theorem s_c_chance {X : zX} {d : Nat} {rf mem : zF} {Q : Int → zF → Prop} (hR : zall rf zRK = true) {p : Nat} (hp : zPln rf p) (hpl : rf 0 8 = ((p : Nat) : Int)) {x1 : Int} (h : Ci X d 191 [(2, 0), (0, x1), (0, 1)] rf mem (fun r1 mem2 => Q r1 mem2)) : Ci X (d + 1) 173 [(2, 0), (0, x1)] rf mem Q := by
  show zW X (d + 1) 173 0 [(2, 0), (0, x1)] [] (zty, rf, mem) (qi rf Q)
  refine zW.go 3 3 [(2, 0), (0, x1)] [(0, 1), (0, x1), (2, 0)] _ rfl ?_
  refine w_calli (as := [(2, 0), (0, x1), (0, 1)]) [] 6 rfl rfl rfl rfl (Nat.le_of_ble_eq_true rfl) (Nat.le_of_ble_eq_true rfl) (Nat.le_of_ble_eq_true rfl) (Or.inr rfl) (Ci.imp h (fun r1 mem2 h => ?_))
  exact w_reti rfl rfl h
set_option maxRecDepth 4000 in
theorem s_c_swing {X : zX} {d : Nat} {rf mem : zF} {Q : Int → zF → Prop} (hR : zall rf zRK = true) {p : Nat} (hp : zPln rf p) (hpl : rf 0 8 = ((p : Nat) : Int)) {x1 : Int} {x2 : Int} (h : Ci X d 60 [(2, ((p : Nat) : Int)), (0, 0), (0, x1)] rf mem (fun r1 mem2 => (inI r1) ∧ ((r1 = 0 → Ci X d 184 [(2, 0), (0, 3)] rf mem2 (fun r4 mem5 => (r4 = 0 ∨ r4 = 1) ∧ Q r4 mem5)) ∧ (¬ r1 = 0 → (inI x2) ∧ ((x2 < 0 → Ci X d 184 [(2, 0), (0, 3)] rf mem2 (fun r7 mem8 => (r7 = 0 ∨ r7 = 1) ∧ Q r7 mem8)) ∧ (¬ x2 < 0 → (inI x2) ∧ ((1 < x2 → Ci X d 184 [(2, 0), (0, 3)] rf mem2 (fun r10 mem11 => (r10 = 0 ∨ r10 = 1) ∧ Q r10 mem11)) ∧ (¬ 1 < x2 → (inI (zand (zshr (mem2 23 2) x1) 1) ∧ inI x2) ∧ ((¬ (zand (zshr (mem2 23 2) x1) 1) = x2 → Cv X d 2 [(2, 52), (2, 23)] rf mem2 (fun mem13 => Q 1 (zup mem13 23 2 (zxor (mem13 23 2) (zshl 1 x1))))) ∧ ((zand (zshr (mem2 23 2) x1) 1) = x2 → Ci X d 184 [(2, 0), (0, 3)] rf mem2 (fun r14 mem15 => (r14 = 0 ∨ r14 = 1) ∧ Q r14 mem15))))))))))) : Ci X (d + 1) 174 [(2, 0), (0, x1), (0, x2)] rf mem Q := by
  show zW X (d + 1) 174 0 [(2, 0), (0, x1), (0, x2)] [] (zty, rf, mem) (qi rf Q)
  refine zW.go 1 1 [(2, 0), (0, x1), (0, x2)] [(2, 0)] _ rfl ?_
  refine w_getL (q := 0) (v := ((p : Nat) : Int)) rfl (by decide) (pc' := 4) rfl ⟨by decide, rfl⟩ rfl rfl hpl ?_
  refine zW.go 2 6 [(2, 0), (0, x1), (0, x2)] [(0, x1), (0, 0), (2, ((p : Nat) : Int))] _ rfl ?_
  refine w_calli (as := [(2, ((p : Nat) : Int)), (0, 0), (0, x1)]) [] 9 rfl rfl rfl rfl (Nat.le_of_ble_eq_true rfl) (Nat.le_of_ble_eq_true rfl) (Nat.le_of_ble_eq_true rfl) (Or.inr (zrcv_o (zPln_t0 hp))) (Ci.imp h (fun r1 mem2 h => ?_))
  refine w_if_eq rfl (by decide) (pc' := 12) rfl h.1 (fun c3 => ?_) (fun c3 => ?_)
  · have h := h.2.1 c3
    refine zW.go 2 38 [(2, 0), (0, x1), (0, x2)] [(0, 3), (2, 0)] _ rfl ?_
    refine w_calli (as := [(2, 0), (0, 3)]) [] 41 rfl rfl rfl rfl (Nat.le_of_ble_eq_true rfl) (Nat.le_of_ble_eq_true rfl) (Nat.le_of_ble_eq_true rfl) (Or.inr rfl) (Ci.imp h (fun r4 mem5 h => ?_))
    exact w_retz rfl rfl h.1 h.2
  · have h := h.2.2 c3
    refine zW.go 1 13 [(2, 0), (0, x1), (0, x2)] [(0, x2)] _ rfl ?_
    refine w_if_lt rfl (by decide) (pc' := 16) rfl h.1 (fun c6 => ?_) (fun c6 => ?_)
    · have h := h.2.1 c6
      refine zW.go 2 38 [(2, 0), (0, x1), (0, x2)] [(0, 3), (2, 0)] _ rfl ?_
      refine w_calli (as := [(2, 0), (0, 3)]) [] 41 rfl rfl rfl rfl (Nat.le_of_ble_eq_true rfl) (Nat.le_of_ble_eq_true rfl) (Nat.le_of_ble_eq_true rfl) (Or.inr rfl) (Ci.imp h (fun r7 mem8 h => ?_))
      exact w_retz rfl rfl h.1 h.2
    · have h := h.2.2 c6
      refine zW.go 2 18 [(2, 0), (0, x1), (0, x2)] [(0, 1), (0, x2)] _ rfl ?_
      refine w_ic_gt rfl (by decide) (pc' := 21) rfl ⟨h.1, by decide⟩ (fun c9 => ?_) (fun c9 => ?_)
      · have h := h.2.1 c9
        refine zW.go 2 38 [(2, 0), (0, x1), (0, x2)] [(0, 3), (2, 0)] _ rfl ?_
        refine w_calli (as := [(2, 0), (0, 3)]) [] 41 rfl rfl rfl rfl (Nat.le_of_ble_eq_true rfl) (Nat.le_of_ble_eq_true rfl) (Nat.le_of_ble_eq_true rfl) (Or.inr rfl) (Ci.imp h (fun r10 mem11 h => ?_))
        exact w_retz rfl rfl h.1 h.2
      · have h := h.2.2 c9
        refine zW.go 1 22 [(2, 0), (0, x1), (0, x2)] [(2, 0)] _ rfl ?_
        refine w_getL (q := 0) (v := 23) rfl (by decide) (pc' := 25) rfl ⟨by decide, rfl⟩ rfl rfl (zall_at hR (by decide)) ?_
        refine w_getI (q := 23) rfl (by decide) (pc' := 28) rfl ⟨by decide, rfl⟩ rfl (by decide) ?_
        refine zW.go 5 33 [(2, 0), (0, x1), (0, x2)] [(0, x2), (0, (zand (zshr (mem2 23 2) x1) 1))] _ rfl ?_
        refine w_ic_ne rfl (by decide) (pc' := 36) rfl h.1 (fun c12 => ?_) (fun c12 => ?_)
        · have h := h.2.1 c12
          refine zW.go 1 43 [(2, 0), (0, x1), (0, x2)] [(2, 0)] _ rfl ?_
          refine w_getL (q := 0) (v := 52) rfl (by decide) (pc' := 46) rfl ⟨by decide, rfl⟩ rfl rfl (zall_at hR (by decide)) ?_
          refine zW.go 1 47 [(2, 0), (0, x1), (0, x2)] [(2, 0), (2, 52)] _ rfl ?_
          refine w_getL (q := 0) (v := 23) rfl (by decide) (pc' := 50) rfl ⟨by decide, rfl⟩ rfl rfl (zall_at hR (by decide)) ?_
          refine w_callv (as := [(2, 52), (2, 23)]) [] 53 rfl rfl rfl rfl (Nat.le_of_ble_eq_true rfl) (Nat.le_of_ble_eq_true rfl) (Nat.le_of_ble_eq_true rfl) (Or.inr rfl) (Cv.imp h (fun mem13 h => ?_))
          refine zW.go 1 54 [(2, 0), (0, x1), (0, x2)] [(2, 0)] _ rfl ?_
          refine w_getL (q := 0) (v := 23) rfl (by decide) (pc' := 57) rfl ⟨by decide, rfl⟩ rfl rfl (zall_at hR (by decide)) ?_
          refine zW.go 1 58 [(2, 0), (0, x1), (0, x2)] [(2, 23), (2, 23)] _ rfl ?_
          refine w_getI (q := 23) rfl (by decide) (pc' := 61) rfl ⟨by decide, rfl⟩ rfl (by decide) ?_
          refine zW.go 4 65 [(2, 0), (0, x1), (0, x2)] [(0, (zxor (mem13 23 2) (zshl 1 x1))), (2, 23)] _ rfl ?_
          refine w_putI (q := 23) rfl (by decide) (pc' := 68) rfl ⟨by decide, rfl⟩ rfl (by decide) ?_
          refine zW.go 1 69 [(2, 0), (0, x1), (0, x2)] [(0, 1)] _ rfl ?_
          exact w_retz rfl rfl (by decide) h
        · have h := h.2.2 c12
          refine zW.go 2 38 [(2, 0), (0, x1), (0, x2)] [(0, 3), (2, 0)] _ rfl ?_
          refine w_calli (as := [(2, 0), (0, 3)]) [] 41 rfl rfl rfl rfl (Nat.le_of_ble_eq_true rfl) (Nat.le_of_ble_eq_true rfl) (Nat.le_of_ble_eq_true rfl) (Or.inr rfl) (Ci.imp h (fun r14 mem15 h => ?_))
          exact w_retz rfl rfl h.1 h.2
set_option maxRecDepth 4000 in
theorem s_c_tiptoe {X : zX} {d : Nat} {rf mem : zF} {Q : Int → zF → Prop} (hR : zall rf zRK = true) {p : Nat} (hp : zPln rf p) (hpl : rf 0 8 = ((p : Nat) : Int)) {x1 : Int} {x2 : Int} (h : Ci X d 60 [(2, ((p : Nat) : Int)), (0, 1), (0, x1)] rf mem (fun r1 mem2 => (inI r1) ∧ ((¬ r1 = 0 → (0 ≤ x1 ∧ x1 < 6) ∧ (Ci X d 71 [(2, ((p : Nat) : Int)), (0, (mem2 24 (x1).toNat)), (0, x2)] rf mem2 (fun r4 mem5 => (inI r4) ∧ ((r4 = (-1) → Ci X d 184 [(2, 0), (0, 3)] rf mem5 (fun r7 mem8 => (r7 = 0 ∨ r7 = 1) ∧ Q r7 mem8)) ∧ (¬ r4 = (-1) → Ci X d 88 [(2, 23), (0, r4)] rf mem5 (fun r9 mem10 => (inI r9) ∧ ((r9 = (-1) → Cv X d 2 [(2, 52), (2, 23)] rf mem10 (fun mem12 => (0 ≤ x1 ∧ x1 < 6) ∧ (Q 1 (zup mem12 24 (x1).toNat r4)))) ∧ (¬ r9 = (-1) → Ci X d 184 [(2, 0), (0, 3)] rf mem10 (fun r13 mem14 => (r13 = 0 ∨ r13 = 1) ∧ Q r13 mem14))))))))) ∧ (r1 = 0 → Ci X d 184 [(2, 0), (0, 3)] rf mem2 (fun r15 mem16 => (r15 = 0 ∨ r15 = 1) ∧ Q r15 mem16))))) : Ci X (d + 1) 175 [(2, 0), (0, x1), (0, x2)] rf mem Q := by
  show zW X (d + 1) 175 0 [(2, 0), (0, x1), (0, x2), (9, 0)] [] (zty, rf, mem) (qi rf Q)
  refine zW.go 1 1 [(2, 0), (0, x1), (0, x2), (9, 0)] [(2, 0)] _ rfl ?_
  refine w_getL (q := 0) (v := ((p : Nat) : Int)) rfl (by decide) (pc' := 4) rfl ⟨by decide, rfl⟩ rfl rfl hpl ?_
  refine zW.go 2 6 [(2, 0), (0, x1), (0, x2), (9, 0)] [(0, x1), (0, 1), (2, ((p : Nat) : Int))] _ rfl ?_
  refine w_calli (as := [(2, ((p : Nat) : Int)), (0, 1), (0, x1)]) [] 9 rfl rfl rfl rfl (Nat.le_of_ble_eq_true rfl) (Nat.le_of_ble_eq_true rfl) (Nat.le_of_ble_eq_true rfl) (Or.inr (zrcv_o (zPln_t0 hp))) (Ci.imp h (fun r1 mem2 h => ?_))
  refine w_if_ne rfl (by decide) (pc' := 12) rfl h.1 (fun c3 => ?_) (fun c3 => ?_)
  · have h := h.2.1 c3
    refine zW.go 1 19 [(2, 0), (0, x1), (0, x2), (9, 0)] [(2, 0)] _ rfl ?_
    refine w_getL (q := 0) (v := ((p : Nat) : Int)) rfl (by decide) (pc' := 22) rfl ⟨by decide, rfl⟩ rfl rfl hpl ?_
    refine zW.go 1 23 [(2, 0), (0, x1), (0, x2), (9, 0)] [(2, 0), (2, ((p : Nat) : Int))] _ rfl ?_
    refine w_getL (q := 0) (v := 23) rfl (by decide) (pc' := 26) rfl ⟨by decide, rfl⟩ rfl rfl (zall_at hR (by decide)) ?_
    refine w_getL (q := 23) (v := 24) rfl (by decide) (pc' := 29) rfl ⟨by decide, rfl⟩ rfl rfl (zall_at hR (by decide)) ?_
    refine zW.go 1 30 [(2, 0), (0, x1), (0, x2), (9, 0)] [(0, x1), (2, 24), (2, ((p : Nat) : Int))] _ rfl ?_
    obtain ⟨g, h⟩ := h
    refine w_iald (q := 24) rfl (by decide) (pc' := 31) rfl ⟨by decide, rfl⟩ rfl g rfl ?_
    refine zW.go 1 32 [(2, 0), (0, x1), (0, x2), (9, 0)] [(0, x2), (0, (mem2 24 (x1).toNat)), (2, ((p : Nat) : Int))] _ rfl ?_
    refine w_calli (as := [(2, ((p : Nat) : Int)), (0, (mem2 24 (x1).toNat)), (0, x2)]) [] 35 rfl rfl rfl rfl (Nat.le_of_ble_eq_true rfl) (Nat.le_of_ble_eq_true rfl) (Nat.le_of_ble_eq_true rfl) (Or.inr (zrcv_o (zPln_t0 hp))) (Ci.imp h (fun r4 mem5 h => ?_))
    refine zW.go 3 38 [(2, 0), (0, x1), (0, x2), (0, r4)] [(0, (-1)), (0, r4)] _ rfl ?_
    refine w_ic_eq rfl (by decide) (pc' := 41) rfl ⟨h.1, by decide⟩ (fun c6 => ?_) (fun c6 => ?_)
    · have h := h.2.1 c6
      refine zW.go 2 55 [(2, 0), (0, x1), (0, x2), (0, r4)] [(0, 3), (2, 0)] _ rfl ?_
      refine w_calli (as := [(2, 0), (0, 3)]) [] 58 rfl rfl rfl rfl (Nat.le_of_ble_eq_true rfl) (Nat.le_of_ble_eq_true rfl) (Nat.le_of_ble_eq_true rfl) (Or.inr rfl) (Ci.imp h (fun r7 mem8 h => ?_))
      exact w_retz rfl rfl h.1 h.2
    · have h := h.2.2 c6
      refine zW.go 1 42 [(2, 0), (0, x1), (0, x2), (0, r4)] [(2, 0)] _ rfl ?_
      refine w_getL (q := 0) (v := 23) rfl (by decide) (pc' := 45) rfl ⟨by decide, rfl⟩ rfl rfl (zall_at hR (by decide)) ?_
      refine zW.go 1 46 [(2, 0), (0, x1), (0, x2), (0, r4)] [(0, r4), (2, 23)] _ rfl ?_
      refine w_calli (as := [(2, 23), (0, r4)]) [] 49 rfl rfl rfl rfl (Nat.le_of_ble_eq_true rfl) (Nat.le_of_ble_eq_true rfl) (Nat.le_of_ble_eq_true rfl) (Or.inr rfl) (Ci.imp h (fun r9 mem10 h => ?_))
      refine zW.go 1 50 [(2, 0), (0, x1), (0, x2), (0, r4)] [(0, (-1)), (0, r9)] _ rfl ?_
      refine w_ic_eq rfl (by decide) (pc' := 53) rfl ⟨h.1, by decide⟩ (fun c11 => ?_) (fun c11 => ?_)
      · have h := h.2.1 c11
        refine zW.go 1 60 [(2, 0), (0, x1), (0, x2), (0, r4)] [(2, 0)] _ rfl ?_
        refine w_getL (q := 0) (v := 52) rfl (by decide) (pc' := 63) rfl ⟨by decide, rfl⟩ rfl rfl (zall_at hR (by decide)) ?_
        refine zW.go 1 64 [(2, 0), (0, x1), (0, x2), (0, r4)] [(2, 0), (2, 52)] _ rfl ?_
        refine w_getL (q := 0) (v := 23) rfl (by decide) (pc' := 67) rfl ⟨by decide, rfl⟩ rfl rfl (zall_at hR (by decide)) ?_
        refine w_callv (as := [(2, 52), (2, 23)]) [] 70 rfl rfl rfl rfl (Nat.le_of_ble_eq_true rfl) (Nat.le_of_ble_eq_true rfl) (Nat.le_of_ble_eq_true rfl) (Or.inr rfl) (Cv.imp h (fun mem12 h => ?_))
        refine zW.go 1 71 [(2, 0), (0, x1), (0, x2), (0, r4)] [(2, 0)] _ rfl ?_
        refine w_getL (q := 0) (v := 23) rfl (by decide) (pc' := 74) rfl ⟨by decide, rfl⟩ rfl rfl (zall_at hR (by decide)) ?_
        refine w_getL (q := 23) (v := 24) rfl (by decide) (pc' := 77) rfl ⟨by decide, rfl⟩ rfl rfl (zall_at hR (by decide)) ?_
        refine zW.go 2 79 [(2, 0), (0, x1), (0, x2), (0, r4)] [(0, r4), (0, x1), (2, 24)] _ rfl ?_
        obtain ⟨g, h⟩ := h
        refine w_iast (q := 24) rfl (by decide) (pc' := 80) rfl ⟨by decide, rfl⟩ rfl g rfl ?_
        refine zW.go 1 81 [(2, 0), (0, x1), (0, x2), (0, r4)] [(0, 1)] _ rfl ?_
        exact w_retz rfl rfl (by decide) h
      · have h := h.2.2 c11
        refine zW.go 2 55 [(2, 0), (0, x1), (0, x2), (0, r4)] [(0, 3), (2, 0)] _ rfl ?_
        refine w_calli (as := [(2, 0), (0, 3)]) [] 58 rfl rfl rfl rfl (Nat.le_of_ble_eq_true rfl) (Nat.le_of_ble_eq_true rfl) (Nat.le_of_ble_eq_true rfl) (Or.inr rfl) (Ci.imp h (fun r13 mem14 h => ?_))
        exact w_retz rfl rfl h.1 h.2
  · have h := h.2.2 c3
    refine zW.go 2 14 [(2, 0), (0, x1), (0, x2), (9, 0)] [(0, 3), (2, 0)] _ rfl ?_
    refine w_calli (as := [(2, 0), (0, 3)]) [] 17 rfl rfl rfl rfl (Nat.le_of_ble_eq_true rfl) (Nat.le_of_ble_eq_true rfl) (Nat.le_of_ble_eq_true rfl) (Or.inr rfl) (Ci.imp h (fun r15 mem16 h => ?_))
    exact w_retz rfl rfl h.1 h.2
set_option maxRecDepth 4000 in
theorem s_c_carry {X : zX} {d : Nat} {rf mem : zF} {Q : Int → zF → Prop} (hR : zall rf zRK = true) {p : Nat} (hp : zPln rf p) (hpl : rf 0 8 = ((p : Nat) : Int)) {x1 : Int} {x2 : Int} (h : Ci X d 69 [(2, ((p : Nat) : Int)), (0, x1), (0, x2)] rf mem (fun r1 mem2 => (inI r1) ∧ ((r1 = (-1) → Ci X d 184 [(2, 0), (0, 3)] rf mem2 (fun r4 mem5 => (r4 = 0 ∨ r4 = 1) ∧ Q r4 mem5)) ∧ (¬ r1 = (-1) → (inI r1 ∧ inI (mem2 23 1)) ∧ ((¬ r1 = (mem2 23 1) → Cv X d 2 [(2, 52), (2, 23)] rf mem2 (fun mem7 => Q 1 (zup mem7 23 1 r1))) ∧ (r1 = (mem2 23 1) → Ci X d 184 [(2, 0), (0, 3)] rf mem2 (fun r8 mem9 => (r8 = 0 ∨ r8 = 1) ∧ Q r8 mem9))))))) : Ci X (d + 1) 176 [(2, 0), (0, x1), (0, x2)] rf mem Q := by
  show zW X (d + 1) 176 0 [(2, 0), (0, x1), (0, x2), (9, 0)] [] (zty, rf, mem) (qi rf Q)
  refine zW.go 1 1 [(2, 0), (0, x1), (0, x2), (9, 0)] [(2, 0)] _ rfl ?_
  refine w_getL (q := 0) (v := ((p : Nat) : Int)) rfl (by decide) (pc' := 4) rfl ⟨by decide, rfl⟩ rfl rfl hpl ?_
  refine zW.go 2 6 [(2, 0), (0, x1), (0, x2), (9, 0)] [(0, x2), (0, x1), (2, ((p : Nat) : Int))] _ rfl ?_
  refine w_calli (as := [(2, ((p : Nat) : Int)), (0, x1), (0, x2)]) [] 9 rfl rfl rfl rfl (Nat.le_of_ble_eq_true rfl) (Nat.le_of_ble_eq_true rfl) (Nat.le_of_ble_eq_true rfl) (Or.inr (zrcv_o (zPln_t0 hp))) (Ci.imp h (fun r1 mem2 h => ?_))
  refine zW.go 3 12 [(2, 0), (0, x1), (0, x2), (0, r1)] [(0, (-1)), (0, r1)] _ rfl ?_
  refine w_ic_eq rfl (by decide) (pc' := 15) rfl ⟨h.1, by decide⟩ (fun c3 => ?_) (fun c3 => ?_)
  · have h := h.2.1 c3
    refine zW.go 2 28 [(2, 0), (0, x1), (0, x2), (0, r1)] [(0, 3), (2, 0)] _ rfl ?_
    refine w_calli (as := [(2, 0), (0, 3)]) [] 31 rfl rfl rfl rfl (Nat.le_of_ble_eq_true rfl) (Nat.le_of_ble_eq_true rfl) (Nat.le_of_ble_eq_true rfl) (Or.inr rfl) (Ci.imp h (fun r4 mem5 h => ?_))
    exact w_retz rfl rfl h.1 h.2
  · have h := h.2.2 c3
    refine zW.go 2 17 [(2, 0), (0, x1), (0, x2), (0, r1)] [(2, 0), (0, r1)] _ rfl ?_
    refine w_getL (q := 0) (v := 23) rfl (by decide) (pc' := 20) rfl ⟨by decide, rfl⟩ rfl rfl (zall_at hR (by decide)) ?_
    refine w_getI (q := 23) rfl (by decide) (pc' := 23) rfl ⟨by decide, rfl⟩ rfl (by decide) ?_
    refine w_ic_ne rfl (by decide) (pc' := 26) rfl h.1 (fun c6 => ?_) (fun c6 => ?_)
    · have h := h.2.1 c6
      refine zW.go 1 33 [(2, 0), (0, x1), (0, x2), (0, r1)] [(2, 0)] _ rfl ?_
      refine w_getL (q := 0) (v := 52) rfl (by decide) (pc' := 36) rfl ⟨by decide, rfl⟩ rfl rfl (zall_at hR (by decide)) ?_
      refine zW.go 1 37 [(2, 0), (0, x1), (0, x2), (0, r1)] [(2, 0), (2, 52)] _ rfl ?_
      refine w_getL (q := 0) (v := 23) rfl (by decide) (pc' := 40) rfl ⟨by decide, rfl⟩ rfl rfl (zall_at hR (by decide)) ?_
      refine w_callv (as := [(2, 52), (2, 23)]) [] 43 rfl rfl rfl rfl (Nat.le_of_ble_eq_true rfl) (Nat.le_of_ble_eq_true rfl) (Nat.le_of_ble_eq_true rfl) (Or.inr rfl) (Cv.imp h (fun mem7 h => ?_))
      refine zW.go 1 44 [(2, 0), (0, x1), (0, x2), (0, r1)] [(2, 0)] _ rfl ?_
      refine w_getL (q := 0) (v := 23) rfl (by decide) (pc' := 47) rfl ⟨by decide, rfl⟩ rfl rfl (zall_at hR (by decide)) ?_
      refine zW.go 1 48 [(2, 0), (0, x1), (0, x2), (0, r1)] [(0, r1), (2, 23)] _ rfl ?_
      refine w_putI (q := 23) rfl (by decide) (pc' := 51) rfl ⟨by decide, rfl⟩ rfl (by decide) ?_
      refine zW.go 1 52 [(2, 0), (0, x1), (0, x2), (0, r1)] [(0, 1)] _ rfl ?_
      exact w_retz rfl rfl (by decide) h
    · have h := h.2.2 c6
      refine zW.go 2 28 [(2, 0), (0, x1), (0, x2), (0, r1)] [(0, 3), (2, 0)] _ rfl ?_
      refine w_calli (as := [(2, 0), (0, 3)]) [] 31 rfl rfl rfl rfl (Nat.le_of_ble_eq_true rfl) (Nat.le_of_ble_eq_true rfl) (Nat.le_of_ble_eq_true rfl) (Or.inr rfl) (Ci.imp h (fun r8 mem9 h => ?_))
      exact w_retz rfl rfl h.1 h.2
set_option maxRecDepth 4000 in
theorem s_c_undo {X : zX} {d : Nat} {rf mem : zF} {Q : Int → zF → Prop} (hR : zall rf zRK = true) {p : Nat} (hp : zPln rf p) (hpl : rf 0 8 = ((p : Nat) : Int)) (h : Ci X d 3 [(2, 52), (2, 23)] rf mem (fun r1 mem2 => (inI r1) ∧ ((¬ r1 = 0 → Q 1 mem2) ∧ (r1 = 0 → Ci X d 184 [(2, 0), (0, 4)] rf mem2 (fun r4 mem5 => (inI r4) ∧ ((r4 = 0 → Q 0 mem5) ∧ (¬ r4 = 0 → Q 1 mem5))))))) : Ci X (d + 1) 177 [(2, 0)] rf mem Q := by
  show zW X (d + 1) 177 0 [(2, 0)] [] (zty, rf, mem) (qi rf Q)
  refine zW.go 1 1 [(2, 0)] [(2, 0)] _ rfl ?_
  refine w_getL (q := 0) (v := 52) rfl (by decide) (pc' := 4) rfl ⟨by decide, rfl⟩ rfl rfl (zall_at hR (by decide)) ?_
  refine zW.go 1 5 [(2, 0)] [(2, 0), (2, 52)] _ rfl ?_
  refine w_getL (q := 0) (v := 23) rfl (by decide) (pc' := 8) rfl ⟨by decide, rfl⟩ rfl rfl (zall_at hR (by decide)) ?_
  refine w_calli (as := [(2, 52), (2, 23)]) [] 11 rfl rfl rfl rfl (Nat.le_of_ble_eq_true rfl) (Nat.le_of_ble_eq_true rfl) (Nat.le_of_ble_eq_true rfl) (Or.inr rfl) (Ci.imp h (fun r1 mem2 h => ?_))
  refine w_if_ne rfl (by decide) (pc' := 14) rfl h.1 (fun c3 => ?_) (fun c3 => ?_)
  · have h := h.2.1 c3
    refine zW.go 2 27 [(2, 0)] [(0, 1)] _ rfl ?_
    exact w_retz rfl rfl (by decide) h
  · have h := h.2.2 c3
    refine zW.go 2 16 [(2, 0)] [(0, 4), (2, 0)] _ rfl ?_
    refine w_calli (as := [(2, 0), (0, 4)]) [] 19 rfl rfl rfl rfl (Nat.le_of_ble_eq_true rfl) (Nat.le_of_ble_eq_true rfl) (Nat.le_of_ble_eq_true rfl) (Or.inr rfl) (Ci.imp h (fun r4 mem5 h => ?_))
    refine w_if_eq rfl (by decide) (pc' := 22) rfl h.1 (fun c6 => ?_) (fun c6 => ?_)
    · have h := h.2.1 c6
      refine zW.go 1 27 [(2, 0)] [(0, 0)] _ rfl ?_
      exact w_retz rfl rfl (by decide) h
    · have h := h.2.2 c6
      refine zW.go 2 27 [(2, 0)] [(0, 1)] _ rfl ?_
      exact w_retz rfl rfl (by decide) h
set_option maxRecDepth 4000 in
theorem s_c_seed {X : zX} {d : Nat} {rf mem : zF} {Q : Int → zF → Prop} (hR : zall rf zRK = true) {p : Nat} (hp : zPln rf p) (hpl : rf 0 8 = ((p : Nat) : Int)) {x1 : Int} (h : (inI x1) ∧ ((0 ≤ x1 → Q 1 (zup mem 0 9 x1)) ∧ (¬ 0 ≤ x1 → Ci X d 184 [(2, 0), (0, 5)] rf mem (fun r2 mem3 => (r2 = 0 ∨ r2 = 1) ∧ Q r2 mem3)))) : Ci X (d + 1) 178 [(2, 0), (0, x1)] rf mem Q := by
  show zW X (d + 1) 178 0 [(2, 0), (0, x1)] [] (zty, rf, mem) (qi rf Q)
  refine zW.go 1 1 [(2, 0), (0, x1)] [(0, x1)] _ rfl ?_
  refine w_if_ge rfl (by decide) (pc' := 4) rfl h.1 (fun c1 => ?_) (fun c1 => ?_)
  · have h := h.2.1 c1
    refine zW.go 2 12 [(2, 0), (0, x1)] [(0, x1), (2, 0)] _ rfl ?_
    refine w_putI (q := 0) rfl (by decide) (pc' := 15) rfl ⟨by decide, rfl⟩ rfl (by decide) ?_
    refine zW.go 1 16 [(2, 0), (0, x1)] [(0, 1)] _ rfl ?_
    exact w_retz rfl rfl (by decide) h
  · have h := h.2.2 c1
    refine zW.go 2 6 [(2, 0), (0, x1)] [(0, 5), (2, 0)] _ rfl ?_
    refine w_calli (as := [(2, 0), (0, 5)]) [] 9 rfl rfl rfl rfl (Nat.le_of_ble_eq_true rfl) (Nat.le_of_ble_eq_true rfl) (Nat.le_of_ble_eq_true rfl) (Or.inr rfl) (Ci.imp h (fun r2 mem3 h => ?_))
    exact w_retz rfl rfl h.1 h.2
set_option maxRecDepth 4000 in
theorem s_c_kept {X : zX} {d : Nat} {rf mem : zF} {Q : Int → zF → Prop} (hR : zall rf zRK = true) {p : Nat} (hp : zPln rf p) (hpl : rf 0 8 = ((p : Nat) : Int)) {x1 : Int} {x2 : Int} (h : (inI x1) ∧ ((x1 < 0 → Q (-1) mem) ∧ (¬ x1 < 0 → (inI x1 ∧ inI (mem 23 11)) ∧ (((mem 23 11) ≤ x1 → Q (-1) mem) ∧ (¬ (mem 23 11) ≤ x1 → (inI x2) ∧ ((x2 < 0 → Q (-1) mem) ∧ (¬ x2 < 0 → (inI x2) ∧ ((x2 < 4 → (0 ≤ ((4 * x1) + x2) ∧ ((4 * x1) + x2) < 24) ∧ (Q (mem 31 (((4 * x1) + x2)).toNat) mem)) ∧ (¬ x2 < 4 → Q (-1) mem))))))))) : Ci X d 179 [(2, 0), (0, x1), (0, x2)] rf mem Q := by
  show zW X d 179 0 [(2, 0), (0, x1), (0, x2)] [] (zty, rf, mem) (qi rf Q)
  refine zW.go 1 1 [(2, 0), (0, x1), (0, x2)] [(0, x1)] _ rfl ?_
  refine w_if_lt rfl (by decide) (pc' := 4) rfl h.1 (fun c1 => ?_) (fun c1 => ?_)
  · have h := h.2.1 c1
    refine zW.go 1 25 [(2, 0), (0, x1), (0, x2)] [(0, (-1))] _ rfl ?_
    exact w_reti rfl rfl h
  · have h := h.2.2 c1
    refine zW.go 2 6 [(2, 0), (0, x1), (0, x2)] [(2, 0), (0, x1)] _ rfl ?_
    refine w_getL (q := 0) (v := 23) rfl (by decide) (pc' := 9) rfl ⟨by decide, rfl⟩ rfl rfl (zall_at hR (by decide)) ?_
    refine w_getI (q := 23) rfl (by decide) (pc' := 12) rfl ⟨by decide, rfl⟩ rfl (by decide) ?_
    refine w_ic_ge rfl (by decide) (pc' := 15) rfl h.1 (fun c2 => ?_) (fun c2 => ?_)
    · have h := h.2.1 c2
      refine zW.go 1 25 [(2, 0), (0, x1), (0, x2)] [(0, (-1))] _ rfl ?_
      exact w_reti rfl rfl h
    · have h := h.2.2 c2
      refine zW.go 1 16 [(2, 0), (0, x1), (0, x2)] [(0, x2)] _ rfl ?_
      refine w_if_lt rfl (by decide) (pc' := 19) rfl h.1 (fun c3 => ?_) (fun c3 => ?_)
      · have h := h.2.1 c3
        refine zW.go 1 25 [(2, 0), (0, x1), (0, x2)] [(0, (-1))] _ rfl ?_
        exact w_reti rfl rfl h
      · have h := h.2.2 c3
        refine zW.go 2 21 [(2, 0), (0, x1), (0, x2)] [(0, 4), (0, x2)] _ rfl ?_
        refine w_ic_lt rfl (by decide) (pc' := 24) rfl ⟨h.1, by decide⟩ (fun c4 => ?_) (fun c4 => ?_)
        · have h := h.2.1 c4
          refine zW.go 1 27 [(2, 0), (0, x1), (0, x2)] [(2, 0)] _ rfl ?_
          refine w_getL (q := 0) (v := 23) rfl (by decide) (pc' := 30) rfl ⟨by decide, rfl⟩ rfl rfl (zall_at hR (by decide)) ?_
          refine w_getL (q := 23) (v := 31) rfl (by decide) (pc' := 33) rfl ⟨by decide, rfl⟩ rfl rfl (zall_at hR (by decide)) ?_
          refine zW.go 5 38 [(2, 0), (0, x1), (0, x2)] [(0, ((4 * x1) + x2)), (2, 31)] _ rfl ?_
          obtain ⟨g, h⟩ := h
          refine w_iald (q := 31) rfl (by decide) (pc' := 39) rfl ⟨by decide, rfl⟩ rfl g rfl ?_
          exact w_reti rfl rfl h
        · have h := h.2.2 c4
          refine zW.go 1 25 [(2, 0), (0, x1), (0, x2)] [(0, (-1))] _ rfl ?_
          exact w_reti rfl rfl h
set_option maxRecDepth 4000 in
theorem s_c_image {X : zX} {d : Nat} {rf mem : zF} {Q : Int → zF → Prop} (hR : zall rf zRK = true) {p : Nat} (hp : zPln rf p) (hpl : rf 0 8 = ((p : Nat) : Int)) (h : Ci X d 6 [(2, 234), (2, ((p : Nat) : Int)), (2, 23)] rf mem (fun r1 mem2 => Q r1 mem2)) : Ci X (d + 1) 180 [(2, 0)] rf mem Q := by
  show zW X (d + 1) 180 0 [(2, 0)] [] (zty, rf, mem) (qi rf Q)
  refine zW.go 1 1 [(2, 0)] [(2, 0)] _ rfl ?_
  refine w_getL (q := 0) (v := 234) rfl (by decide) (pc' := 4) rfl ⟨by decide, rfl⟩ rfl rfl (zall_at hR (by decide)) ?_
  refine zW.go 1 5 [(2, 0)] [(2, 0), (2, 234)] _ rfl ?_
  refine w_getL (q := 0) (v := ((p : Nat) : Int)) rfl (by decide) (pc' := 8) rfl ⟨by decide, rfl⟩ rfl rfl hpl ?_
  refine zW.go 1 9 [(2, 0)] [(2, 0), (2, ((p : Nat) : Int)), (2, 234)] _ rfl ?_
  refine w_getL (q := 0) (v := 23) rfl (by decide) (pc' := 12) rfl ⟨by decide, rfl⟩ rfl rfl (zall_at hR (by decide)) ?_
  refine w_calli (as := [(2, 234), (2, ((p : Nat) : Int)), (2, 23)]) [] 15 rfl rfl rfl rfl (Nat.le_of_ble_eq_true rfl) (Nat.le_of_ble_eq_true rfl) (Nat.le_of_ble_eq_true rfl) (Or.inr rfl) (Ci.imp h (fun r1 mem2 h => ?_))
  exact w_reti rfl rfl h
set_option maxRecDepth 4000 in
theorem s_c_octet {X : zX} {d : Nat} {rf mem : zF} {Q : Int → zF → Prop} (hR : zall rf zRK = true) {p : Nat} (hp : zPln rf p) (hpl : rf 0 8 = ((p : Nat) : Int)) {x1 : Int} (h : (inI x1) ∧ ((x1 < 0 → Q (-1) mem) ∧ (¬ x1 < 0 → (inI x1 ∧ inI (mem 234 1)) ∧ (((mem 234 1) ≤ x1 → Q (-1) mem) ∧ (¬ (mem 234 1) ≤ x1 → (0 ≤ x1 ∧ x1 < 71) ∧ (Q (mem 235 (x1).toNat) mem)))))) : Ci X d 181 [(2, 0), (0, x1)] rf mem Q := by
  show zW X d 181 0 [(2, 0), (0, x1)] [] (zty, rf, mem) (qi rf Q)
  refine zW.go 1 1 [(2, 0), (0, x1)] [(0, x1)] _ rfl ?_
  refine w_if_lt rfl (by decide) (pc' := 4) rfl h.1 (fun c1 => ?_) (fun c1 => ?_)
  · have h := h.2.1 c1
    refine zW.go 1 28 [(2, 0), (0, x1)] [(0, (-1))] _ rfl ?_
    exact w_reti rfl rfl h
  · have h := h.2.2 c1
    refine zW.go 2 6 [(2, 0), (0, x1)] [(2, 0), (0, x1)] _ rfl ?_
    refine w_getL (q := 0) (v := 234) rfl (by decide) (pc' := 9) rfl ⟨by decide, rfl⟩ rfl rfl (zall_at hR (by decide)) ?_
    refine w_getI (q := 234) rfl (by decide) (pc' := 12) rfl ⟨by decide, rfl⟩ rfl (by decide) ?_
    refine w_ic_ge rfl (by decide) (pc' := 15) rfl h.1 (fun c2 => ?_) (fun c2 => ?_)
    · have h := h.2.1 c2
      refine zW.go 1 28 [(2, 0), (0, x1)] [(0, (-1))] _ rfl ?_
      exact w_reti rfl rfl h
    · have h := h.2.2 c2
      refine zW.go 1 16 [(2, 0), (0, x1)] [(2, 0)] _ rfl ?_
      refine w_getL (q := 0) (v := 234) rfl (by decide) (pc' := 19) rfl ⟨by decide, rfl⟩ rfl rfl (zall_at hR (by decide)) ?_
      refine w_getL (q := 234) (v := 235) rfl (by decide) (pc' := 22) rfl ⟨by decide, rfl⟩ rfl rfl (zall_at hR (by decide)) ?_
      refine zW.go 1 23 [(2, 0), (0, x1)] [(0, x1), (2, 235)] _ rfl ?_
      obtain ⟨g, h⟩ := h
      refine w_iald (q := 235) rfl (by decide) (pc' := 24) rfl ⟨by decide, rfl⟩ rfl g rfl ?_
      refine zW.go 1 28 [(2, 0), (0, x1)] [(0, (mem 235 (x1).toNat))] _ rfl ?_
      exact w_reti rfl rfl h
def L_c_on_33 (X : zX) (d : Nat) (rf : zF) (Q : Int → zF → Prop) (mem : zF) (p : Nat) (s0 : Int) : Prop := ∀ z1 : zV, zW X (d + 1) 182 33 [(2, 0), z1] [(0, s0)] (zty, rf, mem) (qi rf Q)
set_option maxRecDepth 4000 in
theorem s_c_on_33 {X : zX} {d : Nat} {rf mem : zF} {Q : Int → zF → Prop} (hR : zall rf zRK = true) {p : Nat} (hp : zPln rf p) (hpl : rf 0 8 = ((p : Nat) : Int)) {s0 : Int} (h : (inI s0) ∧ ((¬ s0 = 0 → Cv X d 86 [(2, 23), (2, 236)] rf (zup mem 1 1 0) (fun mem6 => Cv X d 1 [(2, 52)] rf mem6 (fun mem7 => Q 1 mem7))) ∧ (s0 = 0 → Ci X d 184 [(2, 0), (0, 5)] rf (zup mem 1 1 0) (fun r8 mem9 => (r8 = 0 ∨ r8 = 1) ∧ Q r8 mem9)))) : L_c_on_33 X d rf Q mem p s0 := by
  intro z1
  refine zW.go 2 35 [(2, 0), (0, s0)] [(2, 0)] _ rfl ?_
  refine w_getL (q := 0) (v := 1) rfl (by decide) (pc' := 38) rfl ⟨by decide, rfl⟩ rfl rfl (zall_at hR (by decide)) ?_
  refine zW.go 1 39 [(2, 0), (0, s0)] [(0, 0), (2, 1)] _ rfl ?_
  refine w_putI (q := 1) rfl (by decide) (pc' := 42) rfl ⟨by decide, rfl⟩ rfl (by decide) ?_
  refine zW.go 1 43 [(2, 0), (0, s0)] [(0, s0)] _ rfl ?_
  refine w_if_ne rfl (by decide) (pc' := 46) rfl h.1 (fun c5 => ?_) (fun c5 => ?_)
  · have h := h.2.1 c5
    refine zW.go 1 53 [(2, 0), (0, s0)] [(2, 0)] _ rfl ?_
    refine w_getL (q := 0) (v := 23) rfl (by decide) (pc' := 56) rfl ⟨by decide, rfl⟩ rfl rfl (zall_at hR (by decide)) ?_
    refine zW.go 1 57 [(2, 0), (0, s0)] [(2, 0), (2, 23)] _ rfl ?_
    refine w_getL (q := 0) (v := 234) rfl (by decide) (pc' := 60) rfl ⟨by decide, rfl⟩ rfl rfl (zall_at hR (by decide)) ?_
    refine w_getL (q := 234) (v := 236) rfl (by decide) (pc' := 63) rfl ⟨by decide, rfl⟩ rfl rfl (zall_at hR (by decide)) ?_
    refine w_callv (as := [(2, 23), (2, 236)]) [] 66 rfl rfl rfl rfl (Nat.le_of_ble_eq_true rfl) (Nat.le_of_ble_eq_true rfl) (Nat.le_of_ble_eq_true rfl) (Or.inr rfl) (Cv.imp h (fun mem6 h => ?_))
    refine zW.go 1 67 [(2, 0), (0, s0)] [(2, 0)] _ rfl ?_
    refine w_getL (q := 0) (v := 52) rfl (by decide) (pc' := 70) rfl ⟨by decide, rfl⟩ rfl rfl (zall_at hR (by decide)) ?_
    refine w_callv (as := [(2, 52)]) [] 73 rfl rfl rfl rfl (Nat.le_of_ble_eq_true rfl) (Nat.le_of_ble_eq_true rfl) (Nat.le_of_ble_eq_true rfl) (Or.inr rfl) (Cv.imp h (fun mem7 h => ?_))
    refine zW.go 1 74 [(2, 0), (0, s0)] [(0, 1)] _ rfl ?_
    exact w_retz rfl rfl (by decide) h
  · have h := h.2.2 c5
    refine zW.go 2 48 [(2, 0), (0, s0)] [(0, 5), (2, 0)] _ rfl ?_
    refine w_calli (as := [(2, 0), (0, 5)]) [] 51 rfl rfl rfl rfl (Nat.le_of_ble_eq_true rfl) (Nat.le_of_ble_eq_true rfl) (Nat.le_of_ble_eq_true rfl) (Or.inr rfl) (Ci.imp h (fun r8 mem9 h => ?_))
    exact w_retz rfl rfl h.1 h.2
set_option maxRecDepth 4000 in
theorem s_c_on {X : zX} {d : Nat} {rf mem : zF} {Q : Int → zF → Prop} (hR : zall rf zRK = true) {p : Nat} (hp : zPln rf p) (hpl : rf 0 8 = ((p : Nat) : Int)) (h : (inI (mem p 1)) ∧ (((mem p 1) ≤ 0 → L_c_on_33 X d rf Q mem p 0) ∧ (¬ (mem p 1) ≤ 0 → Ci X d 11 [(2, 234), (2, 1), (2, ((p : Nat) : Int))] rf mem (fun r2 mem3 => (inI r2) ∧ ((r2 = 0 → L_c_on_33 X d rf Q mem3 p 0) ∧ (¬ r2 = 0 → L_c_on_33 X d rf Q mem3 p 1)))))) : Ci X (d + 1) 182 [(2, 0)] rf mem Q := by
  show zW X (d + 1) 182 0 [(2, 0), (9, 0)] [] (zty, rf, mem) (qi rf Q)
  refine zW.go 1 1 [(2, 0), (9, 0)] [(2, 0)] _ rfl ?_
  refine w_getL (q := 0) (v := ((p : Nat) : Int)) rfl (by decide) (pc' := 4) rfl ⟨by decide, rfl⟩ rfl rfl hpl ?_
  refine w_getI (q := p) rfl (by decide) (pc' := 7) rfl ⟨Int.natCast_nonneg _, rfl⟩ (zPln_t0 hp) (by decide) ?_
  refine w_if_le rfl (by decide) (pc' := 10) rfl h.1 (fun c1 => ?_) (fun c1 => ?_)
  · have h := h.2.1 c1
    refine zW.go 1 33 [(2, 0), (9, 0)] [(0, 0)] _ rfl ?_
    exact h (9, 0)
  · have h := h.2.2 c1
    refine zW.go 1 11 [(2, 0), (9, 0)] [(2, 0)] _ rfl ?_
    refine w_getL (q := 0) (v := 234) rfl (by decide) (pc' := 14) rfl ⟨by decide, rfl⟩ rfl rfl (zall_at hR (by decide)) ?_
    refine zW.go 1 15 [(2, 0), (9, 0)] [(2, 0), (2, 234)] _ rfl ?_
    refine w_getL (q := 0) (v := 1) rfl (by decide) (pc' := 18) rfl ⟨by decide, rfl⟩ rfl rfl (zall_at hR (by decide)) ?_
    refine zW.go 1 19 [(2, 0), (9, 0)] [(2, 0), (2, 1), (2, 234)] _ rfl ?_
    refine w_getL (q := 0) (v := ((p : Nat) : Int)) rfl (by decide) (pc' := 22) rfl ⟨by decide, rfl⟩ rfl rfl hpl ?_
    refine w_calli (as := [(2, 234), (2, 1), (2, ((p : Nat) : Int))]) [] 25 rfl rfl rfl rfl (Nat.le_of_ble_eq_true rfl) (Nat.le_of_ble_eq_true rfl) (Nat.le_of_ble_eq_true rfl) (Or.inr rfl) (Ci.imp h (fun r2 mem3 h => ?_))
    refine w_if_eq rfl (by decide) (pc' := 28) rfl h.1 (fun c4 => ?_) (fun c4 => ?_)
    · have h := h.2.1 c4
      refine zW.go 1 33 [(2, 0), (9, 0)] [(0, 0)] _ rfl ?_
      exact h (9, 0)
    · have h := h.2.2 c4
      refine zW.go 2 33 [(2, 0), (9, 0)] [(0, 1)] _ rfl ?_
      exact h (9, 0)
set_option maxRecDepth 4000 in
theorem s_c_status {X : zX} {d : Nat} {rf mem : zF} {Q : Int → zF → Prop} (hR : zall rf zRK = true) {p : Nat} (hp : zPln rf p) (hpl : rf 0 8 = ((p : Nat) : Int)) {x1 : Int} (h : (inI x1) ∧ ((x1 < 0 → Q (-1) mem) ∧ (¬ x1 < 0 → (inI x1) ∧ ((6 ≤ x1 → Q (-1) mem) ∧ (¬ 6 ≤ x1 → (0 ≤ x1 ∧ x1 < 6) ∧ (Q (mem 245 (x1).toNat) mem)))))) : Ci X d 183 [(2, 0), (0, x1)] rf mem Q := by
  show zW X d 183 0 [(2, 0), (0, x1)] [] (zty, rf, mem) (qi rf Q)
  refine zW.go 1 1 [(2, 0), (0, x1)] [(0, x1)] _ rfl ?_
  refine w_if_lt rfl (by decide) (pc' := 4) rfl h.1 (fun c1 => ?_) (fun c1 => ?_)
  · have h := h.2.1 c1
    refine zW.go 1 23 [(2, 0), (0, x1)] [(0, (-1))] _ rfl ?_
    exact w_reti rfl rfl h
  · have h := h.2.2 c1
    refine zW.go 2 6 [(2, 0), (0, x1)] [(2, 0), (0, x1)] _ rfl ?_
    refine w_getL (q := 0) (v := 245) rfl (by decide) (pc' := 9) rfl ⟨by decide, rfl⟩ rfl rfl (zall_at hR (by decide)) ?_
    refine w_alen (q := 245) rfl (by decide) (pc' := 10) rfl ⟨by decide, rfl⟩ rfl (by decide) ?_
    refine w_ic_ge rfl (by decide) (pc' := 13) rfl ⟨h.1, by decide⟩ (fun c2 => ?_) (fun c2 => ?_)
    · have h := h.2.1 c2
      refine zW.go 1 23 [(2, 0), (0, x1)] [(0, (-1))] _ rfl ?_
      exact w_reti rfl rfl h
    · have h := h.2.2 c2
      refine zW.go 1 14 [(2, 0), (0, x1)] [(2, 0)] _ rfl ?_
      refine w_getL (q := 0) (v := 245) rfl (by decide) (pc' := 17) rfl ⟨by decide, rfl⟩ rfl rfl (zall_at hR (by decide)) ?_
      refine zW.go 1 18 [(2, 0), (0, x1)] [(0, x1), (2, 245)] _ rfl ?_
      obtain ⟨g, h⟩ := h
      refine w_iald (q := 245) rfl (by decide) (pc' := 19) rfl ⟨by decide, rfl⟩ rfl g rfl ?_
      refine zW.go 1 23 [(2, 0), (0, x1)] [(0, (mem 245 (x1).toNat))] _ rfl ?_
      exact w_reti rfl rfl h
set_option maxRecDepth 4000 in
theorem s_c_refused {X : zX} {d : Nat} {rf mem : zF} {Q : Int → zF → Prop} (hR : zall rf zRK = true) {p : Nat} (hp : zPln rf p) (hpl : rf 0 8 = ((p : Nat) : Int)) {x1 : Int} (h : (inI x1) ∧ ((x1 < 0 → Q 0 mem) ∧ (¬ x1 < 0 → (inI x1) ∧ ((6 ≤ x1 → Q 0 mem) ∧ (¬ 6 ≤ x1 → (0 ≤ x1 ∧ x1 < 6) ∧ ((0 ≤ x1 ∧ x1 < 6) ∧ (Q 0 (zup mem 245 (x1).toNat ((mem 245 (x1).toNat) + 1))))))))) : Ci X d 184 [(2, 0), (0, x1)] rf mem Q := by
  show zW X d 184 0 [(2, 0), (0, x1)] [] (zty, rf, mem) (qi rf Q)
  refine zW.go 1 1 [(2, 0), (0, x1)] [(0, x1)] _ rfl ?_
  refine w_if_lt rfl (by decide) (pc' := 4) rfl h.1 (fun c1 => ?_) (fun c1 => ?_)
  · have h := h.2.1 c1
    refine zW.go 1 24 [(2, 0), (0, x1)] [(0, 0)] _ rfl ?_
    exact w_retz rfl rfl (by decide) h
  · have h := h.2.2 c1
    refine zW.go 2 6 [(2, 0), (0, x1)] [(2, 0), (0, x1)] _ rfl ?_
    refine w_getL (q := 0) (v := 245) rfl (by decide) (pc' := 9) rfl ⟨by decide, rfl⟩ rfl rfl (zall_at hR (by decide)) ?_
    refine w_alen (q := 245) rfl (by decide) (pc' := 10) rfl ⟨by decide, rfl⟩ rfl (by decide) ?_
    refine w_ic_ge rfl (by decide) (pc' := 13) rfl ⟨h.1, by decide⟩ (fun c2 => ?_) (fun c2 => ?_)
    · have h := h.2.1 c2
      refine zW.go 1 24 [(2, 0), (0, x1)] [(0, 0)] _ rfl ?_
      exact w_retz rfl rfl (by decide) h
    · have h := h.2.2 c2
      refine zW.go 1 14 [(2, 0), (0, x1)] [(2, 0)] _ rfl ?_
      refine w_getL (q := 0) (v := 245) rfl (by decide) (pc' := 17) rfl ⟨by decide, rfl⟩ rfl rfl (zall_at hR (by decide)) ?_
      refine zW.go 2 19 [(2, 0), (0, x1)] [(0, x1), (2, 245), (0, x1), (2, 245)] _ rfl ?_
      obtain ⟨g, h⟩ := h
      refine w_iald (q := 245) rfl (by decide) (pc' := 20) rfl ⟨by decide, rfl⟩ rfl g rfl ?_
      refine zW.go 2 22 [(2, 0), (0, x1)] [(0, ((mem 245 (x1).toNat) + 1)), (0, x1), (2, 245)] _ rfl ?_
      obtain ⟨g, h⟩ := h
      refine w_iast (q := 245) rfl (by decide) (pc' := 23) rfl ⟨by decide, rfl⟩ rfl g rfl ?_
      refine zW.go 1 24 [(2, 0), (0, x1)] [(0, 0)] _ rfl ?_
      exact w_retz rfl rfl (by decide) h
set_option maxRecDepth 4000 in
theorem s_c_refusedNumber {X : zX} {d : Nat} {rf mem : zF} {Q : Int → zF → Prop} (hR : zall rf zRK = true) {p : Nat} (hp : zPln rf p) (hpl : rf 0 8 = ((p : Nat) : Int)) {x1 : Int} (h : Ci X d 184 [(2, 0), (0, x1)] rf mem (fun r1 mem2 => Q (-1) mem2)) : Ci X (d + 1) 185 [(2, 0), (0, x1)] rf mem Q := by
  show zW X (d + 1) 185 0 [(2, 0), (0, x1)] [] (zty, rf, mem) (qi rf Q)
  refine zW.go 2 2 [(2, 0), (0, x1)] [(0, x1), (2, 0)] _ rfl ?_
  refine w_calli (as := [(2, 0), (0, x1)]) [] 5 rfl rfl rfl rfl (Nat.le_of_ble_eq_true rfl) (Nat.le_of_ble_eq_true rfl) (Nat.le_of_ble_eq_true rfl) (Or.inr rfl) (Ci.imp h (fun r1 mem2 h => ?_))
  refine zW.go 2 7 [(2, 0), (0, x1)] [(0, (-1))] _ rfl ?_
  exact w_reti rfl rfl h
set_option maxRecDepth 4000 in
theorem s_c_placePart {X : zX} {d : Nat} {rf mem : zF} {Q : Int → zF → Prop} (hR : zall rf zRK = true) {p : Nat} (hp : zPln rf p) (hpl : rf 0 8 = ((p : Nat) : Int)) {x1 : Int} {x2 : Int} (h : (inI x1) ∧ ((¬ x1 = (-1) → (inI x2) ∧ ((x2 = 0 → (inI x1) ∧ (Q (x1.tmod 8) mem)) ∧ (x2 = 1 → (inI x1) ∧ (Q (x1.tdiv 8) mem)) ∧ ((x2 ≠ 0 ∧ x2 ≠ 1) → Q (-1) mem))) ∧ (x1 = (-1) → Q (-1) mem))) : Ci X d 186 [(2, 0), (0, x1), (0, x2)] rf mem Q := by
  show zW X d 186 0 [(2, 0), (0, x1), (0, x2)] [] (zty, rf, mem) (qi rf Q)
  refine zW.go 2 2 [(2, 0), (0, x1), (0, x2)] [(0, (-1)), (0, x1)] _ rfl ?_
  refine w_ic_ne rfl (by decide) (pc' := 5) rfl ⟨h.1, by decide⟩ (fun c1 => ?_) (fun c1 => ?_)
  · have h := h.2.1 c1
    refine zW.go 1 8 [(2, 0), (0, x1), (0, x2)] [(0, x2)] _ rfl ?_
    obtain ⟨g, h⟩ := h
    by_cases e0 : x2 = 0
    · refine w_look 36 rfl (by decide) g (by decide) (by rw [e0]; rfl) ?_
      have h := h.1 e0
      refine zW.go 2 39 [(2, 0), (0, x1), (0, x2)] [(0, 8), (0, x1)] _ rfl ?_
      obtain ⟨g, h⟩ := h
      refine w_irem rfl (by decide) (pc' := 40) rfl ⟨g, by decide, by decide⟩ ?_
      exact w_reti rfl rfl h
    · by_cases e1 : x2 = 1
      · refine w_look 41 rfl (by decide) g (by decide) (by rw [e1]; rfl) ?_
        have h := h.2.1 e1
        refine zW.go 2 44 [(2, 0), (0, x1), (0, x2)] [(0, 8), (0, x1)] _ rfl ?_
        obtain ⟨g, h⟩ := h
        refine w_idiv rfl (by decide) (pc' := 45) rfl ⟨g, by decide, by decide⟩ ?_
        exact w_reti rfl rfl h
      · refine w_look 46 rfl (by decide) g (by decide) (by simp [Op.lookupswitch.offset, e0, Ne.symm e0, e1, Ne.symm e1]) ?_
        have h := h.2.2 ⟨e0, e1⟩
        refine zW.go 1 47 [(2, 0), (0, x1), (0, x2)] [(0, (-1))] _ rfl ?_
        exact w_reti rfl rfl h
  · have h := h.2.2 c1
    refine zW.go 1 6 [(2, 0), (0, x1), (0, x2)] [(0, (-1))] _ rfl ?_
    exact w_reti rfl rfl h
def L_c_ownedDeeds_4 (X : zX) (d : Nat) (rf : zF) (Q : Int → zF → Prop) (mem : zF) (p : Nat) (x1 : Int) (x2 : Int) : Prop := zW X (d + 1) 187 4 [(2, 0), (0, x1), (0, x2)] [] (zty, rf, mem) (qi rf Q)
set_option maxRecDepth 4000 in
theorem s_c_ownedDeeds_4 {X : zX} {d : Nat} {rf mem : zF} {Q : Int → zF → Prop} (hR : zall rf zRK = true) {p : Nat} (hp : zPln rf p) (hpl : rf 0 8 = ((p : Nat) : Int)) {x1 : Int} {x2 : Int} (h : Ci X d 61 [(2, ((p : Nat) : Int)), (0, 2)] rf mem (fun r1 mem2 => (inI x2 ∧ inI r1) ∧ ((r1 ≤ x2 → Q x1 mem2) ∧ (¬ r1 ≤ x2 → (0 ≤ x2 ∧ x2 < 6) ∧ ((inI (mem2 29 (x2).toNat)) ∧ ((¬ (mem2 29 (x2).toNat) = (-1) → L_c_ownedDeeds_4 X d rf Q mem2 p (x1 + 1) (x2 + 1)) ∧ ((mem2 29 (x2).toNat) = (-1) → L_c_ownedDeeds_4 X d rf Q mem2 p (x1 + 0) (x2 + 1)))))))) : L_c_ownedDeeds_4 X d rf Q mem p x1 x2 := by
  refine zW.go 2 6 [(2, 0), (0, x1), (0, x2)] [(2, 0), (0, x2)] _ rfl ?_
  refine w_getL (q := 0) (v := ((p : Nat) : Int)) rfl (by decide) (pc' := 9) rfl ⟨by decide, rfl⟩ rfl rfl hpl ?_
  refine zW.go 1 10 [(2, 0), (0, x1), (0, x2)] [(0, 2), (2, ((p : Nat) : Int)), (0, x2)] _ rfl ?_
  refine w_calli (as := [(2, ((p : Nat) : Int)), (0, 2)]) [(0, x2)] 13 rfl rfl rfl rfl (Nat.le_of_ble_eq_true rfl) (Nat.le_of_ble_eq_true rfl) (Nat.le_of_ble_eq_true rfl) (Or.inr (zrcv_o (zPln_t0 hp))) (Ci.imp h (fun r1 mem2 h => ?_))
  refine w_ic_ge rfl (by decide) (pc' := 16) rfl h.1 (fun c3 => ?_) (fun c3 => ?_)
  · have h := h.2.1 c3
    refine zW.go 1 44 [(2, 0), (0, x1), (0, x2)] [(0, x1)] _ rfl ?_
    exact w_reti rfl rfl h
  · have h := h.2.2 c3
    refine zW.go 2 18 [(2, 0), (0, x1), (0, x2)] [(2, 0), (0, x1)] _ rfl ?_
    refine w_getL (q := 0) (v := 23) rfl (by decide) (pc' := 21) rfl ⟨by decide, rfl⟩ rfl rfl (zall_at hR (by decide)) ?_
    refine w_getL (q := 23) (v := 29) rfl (by decide) (pc' := 24) rfl ⟨by decide, rfl⟩ rfl rfl (zall_at hR (by decide)) ?_
    refine zW.go 1 25 [(2, 0), (0, x1), (0, x2)] [(0, x2), (2, 29), (0, x1)] _ rfl ?_
    obtain ⟨g, h⟩ := h
    refine w_iald (q := 29) rfl (by decide) (pc' := 26) rfl ⟨by decide, rfl⟩ rfl g rfl ?_
    refine zW.go 1 27 [(2, 0), (0, x1), (0, x2)] [(0, (-1)), (0, (mem2 29 (x2).toNat)), (0, x1)] _ rfl ?_
    refine w_ic_ne rfl (by decide) (pc' := 30) rfl ⟨h.1, by decide⟩ (fun c4 => ?_) (fun c4 => ?_)
    · have h := h.2.1 c4
      refine zW.go 5 4 [(2, 0), (0, (x1 + 1)), (0, (x2 + 1))] [] _ rfl ?_
      exact h
    · have h := h.2.2 c4
      refine zW.go 6 4 [(2, 0), (0, (x1 + 0)), (0, (x2 + 1))] [] _ rfl ?_
      exact h
set_option maxRecDepth 4000 in
theorem s_c_ownedDeeds {X : zX} {d : Nat} {rf mem : zF} {Q : Int → zF → Prop} (hR : zall rf zRK = true) {p : Nat} (hp : zPln rf p) (hpl : rf 0 8 = ((p : Nat) : Int)) (h : L_c_ownedDeeds_4 X d rf Q mem p 0 0) : Ci X (d + 1) 187 [(2, 0)] rf mem Q := by
  show zW X (d + 1) 187 0 [(2, 0), (9, 0), (9, 0)] [] (zty, rf, mem) (qi rf Q)
  refine zW.go 4 4 [(2, 0), (0, 0), (0, 0)] [] _ rfl ?_
  exact h
def L_c_lostDeeds_4 (X : zX) (d : Nat) (rf : zF) (Q : Int → zF → Prop) (mem : zF) (p : Nat) (x1 : Int) (x2 : Int) : Prop := zW X (d + 1) 188 4 [(2, 0), (0, x1), (0, x2)] [] (zty, rf, mem) (qi rf Q)
set_option maxRecDepth 4000 in
theorem s_c_lostDeeds_4 {X : zX} {d : Nat} {rf mem : zF} {Q : Int → zF → Prop} (hR : zall rf zRK = true) {p : Nat} (hp : zPln rf p) (hpl : rf 0 8 = ((p : Nat) : Int)) {x1 : Int} {x2 : Int} (h : Ci X d 61 [(2, ((p : Nat) : Int)), (0, 2)] rf mem (fun r1 mem2 => (inI x2 ∧ inI r1) ∧ ((r1 ≤ x2 → Ci X d 61 [(2, ((p : Nat) : Int)), (0, 2)] rf mem2 (fun r4 mem5 => Ci X d 187 [(2, 0)] rf mem5 (fun r6 mem7 => Q ((r4 - x1) - r6) mem7))) ∧ (¬ r1 ≤ x2 → (0 ≤ x2 ∧ x2 < 6) ∧ (Ci X d 317 [(0, (mem2 28 (x2).toNat))] rf mem2 (fun r8 mem9 => L_c_lostDeeds_4 X d rf Q mem9 p (x1 + r8) (x2 + 1))))))) : L_c_lostDeeds_4 X d rf Q mem p x1 x2 := by
  refine zW.go 2 6 [(2, 0), (0, x1), (0, x2)] [(2, 0), (0, x2)] _ rfl ?_
  refine w_getL (q := 0) (v := ((p : Nat) : Int)) rfl (by decide) (pc' := 9) rfl ⟨by decide, rfl⟩ rfl rfl hpl ?_
  refine zW.go 1 10 [(2, 0), (0, x1), (0, x2)] [(0, 2), (2, ((p : Nat) : Int)), (0, x2)] _ rfl ?_
  refine w_calli (as := [(2, ((p : Nat) : Int)), (0, 2)]) [(0, x2)] 13 rfl rfl rfl rfl (Nat.le_of_ble_eq_true rfl) (Nat.le_of_ble_eq_true rfl) (Nat.le_of_ble_eq_true rfl) (Or.inr (zrcv_o (zPln_t0 hp))) (Ci.imp h (fun r1 mem2 h => ?_))
  refine w_ic_ge rfl (by decide) (pc' := 16) rfl h.1 (fun c3 => ?_) (fun c3 => ?_)
  · have h := h.2.1 c3
    refine zW.go 1 38 [(2, 0), (0, x1), (0, x2)] [(2, 0)] _ rfl ?_
    refine w_getL (q := 0) (v := ((p : Nat) : Int)) rfl (by decide) (pc' := 41) rfl ⟨by decide, rfl⟩ rfl rfl hpl ?_
    refine zW.go 1 42 [(2, 0), (0, x1), (0, x2)] [(0, 2), (2, ((p : Nat) : Int))] _ rfl ?_
    refine w_calli (as := [(2, ((p : Nat) : Int)), (0, 2)]) [] 45 rfl rfl rfl rfl (Nat.le_of_ble_eq_true rfl) (Nat.le_of_ble_eq_true rfl) (Nat.le_of_ble_eq_true rfl) (Or.inr (zrcv_o (zPln_t0 hp))) (Ci.imp h (fun r4 mem5 h => ?_))
    refine zW.go 3 48 [(2, 0), (0, x1), (0, x2)] [(2, 0), (0, (r4 - x1))] _ rfl ?_
    refine w_calli (as := [(2, 0)]) [(0, (r4 - x1))] 51 rfl rfl rfl rfl (Nat.le_of_ble_eq_true rfl) (Nat.le_of_ble_eq_true rfl) (Nat.le_of_ble_eq_true rfl) (Or.inr rfl) (Ci.imp h (fun r6 mem7 h => ?_))
    refine zW.go 1 52 [(2, 0), (0, x1), (0, x2)] [(0, ((r4 - x1) - r6))] _ rfl ?_
    exact w_reti rfl rfl h
  · have h := h.2.2 c3
    refine zW.go 2 18 [(2, 0), (0, x1), (0, x2)] [(2, 0), (0, x1)] _ rfl ?_
    refine w_getL (q := 0) (v := 23) rfl (by decide) (pc' := 21) rfl ⟨by decide, rfl⟩ rfl rfl (zall_at hR (by decide)) ?_
    refine w_getL (q := 23) (v := 28) rfl (by decide) (pc' := 24) rfl ⟨by decide, rfl⟩ rfl rfl (zall_at hR (by decide)) ?_
    refine zW.go 1 25 [(2, 0), (0, x1), (0, x2)] [(0, x2), (2, 28), (0, x1)] _ rfl ?_
    obtain ⟨g, h⟩ := h
    refine w_iald (q := 28) rfl (by decide) (pc' := 26) rfl ⟨by decide, rfl⟩ rfl g rfl ?_
    refine w_calli (as := [(0, (mem2 28 (x2).toNat))]) [(0, x1)] 29 rfl rfl rfl rfl (Nat.le_of_ble_eq_true rfl) (Nat.le_of_ble_eq_true rfl) (Nat.le_of_ble_eq_true rfl) (Or.inl rfl) (Ci.imp h (fun r8 mem9 h => ?_))
    refine zW.go 4 4 [(2, 0), (0, (x1 + r8)), (0, (x2 + 1))] [] _ rfl ?_
    exact h
set_option maxRecDepth 4000 in
theorem s_c_lostDeeds {X : zX} {d : Nat} {rf mem : zF} {Q : Int → zF → Prop} (hR : zall rf zRK = true) {p : Nat} (hp : zPln rf p) (hpl : rf 0 8 = ((p : Nat) : Int)) (h : L_c_lostDeeds_4 X d rf Q mem p 0 0) : Ci X (d + 1) 188 [(2, 0)] rf mem Q := by
  show zW X (d + 1) 188 0 [(2, 0), (9, 0), (9, 0)] [] (zty, rf, mem) (qi rf Q)
  refine zW.go 4 4 [(2, 0), (0, 0), (0, 0)] [] _ rfl ?_
  exact h
set_option maxRecDepth 4000 in
theorem s_c_floats {X : zX} {d : Nat} {rf mem : zF} {Q : Int → zF → Prop} (hR : zall rf zRK = true) {p : Nat} (hp : zPln rf p) (hpl : rf 0 8 = ((p : Nat) : Int)) {x1 : Int} (h : Ci X d 60 [(2, ((p : Nat) : Int)), (0, 2), (0, x1)] rf mem (fun r1 mem2 => (inI r1) ∧ ((r1 = 0 → Q 0 mem2) ∧ (¬ r1 = 0 → (0 ≤ x1 ∧ x1 < 6) ∧ ((inI (mem2 25 (x1).toNat)) ∧ (((mem2 25 (x1).toNat) = (-1) → Q 0 mem2) ∧ (¬ (mem2 25 (x1).toNat) = (-1) → Q 1 mem2))))))) : Ci X (d + 1) 189 [(2, 0), (0, x1)] rf mem Q := by
  show zW X (d + 1) 189 0 [(2, 0), (0, x1)] [] (zty, rf, mem) (qi rf Q)
  refine zW.go 1 1 [(2, 0), (0, x1)] [(2, 0)] _ rfl ?_
  refine w_getL (q := 0) (v := ((p : Nat) : Int)) rfl (by decide) (pc' := 4) rfl ⟨by decide, rfl⟩ rfl rfl hpl ?_
  refine zW.go 2 6 [(2, 0), (0, x1)] [(0, x1), (0, 2), (2, ((p : Nat) : Int))] _ rfl ?_
  refine w_calli (as := [(2, ((p : Nat) : Int)), (0, 2), (0, x1)]) [] 9 rfl rfl rfl rfl (Nat.le_of_ble_eq_true rfl) (Nat.le_of_ble_eq_true rfl) (Nat.le_of_ble_eq_true rfl) (Or.inr (zrcv_o (zPln_t0 hp))) (Ci.imp h (fun r1 mem2 h => ?_))
  refine w_if_eq rfl (by decide) (pc' := 12) rfl h.1 (fun c3 => ?_) (fun c3 => ?_)
  · have h := h.2.1 c3
    refine zW.go 1 30 [(2, 0), (0, x1)] [(0, 0)] _ rfl ?_
    exact w_retz rfl rfl (by decide) h
  · have h := h.2.2 c3
    refine zW.go 1 13 [(2, 0), (0, x1)] [(2, 0)] _ rfl ?_
    refine w_getL (q := 0) (v := 23) rfl (by decide) (pc' := 16) rfl ⟨by decide, rfl⟩ rfl rfl (zall_at hR (by decide)) ?_
    refine w_getL (q := 23) (v := 25) rfl (by decide) (pc' := 19) rfl ⟨by decide, rfl⟩ rfl rfl (zall_at hR (by decide)) ?_
    refine zW.go 1 20 [(2, 0), (0, x1)] [(0, x1), (2, 25)] _ rfl ?_
    obtain ⟨g, h⟩ := h
    refine w_iald (q := 25) rfl (by decide) (pc' := 21) rfl ⟨by decide, rfl⟩ rfl g rfl ?_
    refine zW.go 1 22 [(2, 0), (0, x1)] [(0, (-1)), (0, (mem2 25 (x1).toNat))] _ rfl ?_
    refine w_ic_eq rfl (by decide) (pc' := 25) rfl ⟨h.1, by decide⟩ (fun c4 => ?_) (fun c4 => ?_)
    · have h := h.2.1 c4
      refine zW.go 1 30 [(2, 0), (0, x1)] [(0, 0)] _ rfl ?_
      exact w_retz rfl rfl (by decide) h
    · have h := h.2.2 c4
      refine zW.go 2 30 [(2, 0), (0, x1)] [(0, 1)] _ rfl ?_
      exact w_retz rfl rfl (by decide) h
set_option maxRecDepth 4000 in
theorem s_c_canPass {X : zX} {d : Nat} {rf mem : zF} {Q : Int → zF → Prop} (hR : zall rf zRK = true) {p : Nat} (hp : zPln rf p) (hpl : rf 0 8 = ((p : Nat) : Int)) {x1 : Int} {x2 : Int} {x3 : Int} (h : (inI x1 ∧ inI x2) ∧ ((x1 < x2 → Q 0 mem) ∧ (¬ x1 < x2 → (inI x1 ∧ inI x3) ∧ ((x3 < x1 → Q 0 mem) ∧ (¬ x3 < x1 → (inI x1 ∧ inI (999 - (mem 23 0))) ∧ (((999 - (mem 23 0)) < x1 → Q 0 mem) ∧ (¬ (999 - (mem 23 0)) < x1 → Q 1 mem))))))) : Ci X d 190 [(2, 0), (0, x1), (0, x2), (0, x3)] rf mem Q := by
  show zW X d 190 0 [(2, 0), (0, x1), (0, x2), (0, x3)] [] (zty, rf, mem) (qi rf Q)
  refine zW.go 2 2 [(2, 0), (0, x1), (0, x2), (0, x3)] [(0, x2), (0, x1)] _ rfl ?_
  refine w_ic_lt rfl (by decide) (pc' := 5) rfl h.1 (fun c1 => ?_) (fun c1 => ?_)
  · have h := h.2.1 c1
    refine zW.go 1 30 [(2, 0), (0, x1), (0, x2), (0, x3)] [(0, 0)] _ rfl ?_
    exact w_retz rfl rfl (by decide) h
  · have h := h.2.2 c1
    refine zW.go 2 7 [(2, 0), (0, x1), (0, x2), (0, x3)] [(0, x3), (0, x1)] _ rfl ?_
    refine w_ic_gt rfl (by decide) (pc' := 10) rfl h.1 (fun c2 => ?_) (fun c2 => ?_)
    · have h := h.2.1 c2
      refine zW.go 1 30 [(2, 0), (0, x1), (0, x2), (0, x3)] [(0, 0)] _ rfl ?_
      exact w_retz rfl rfl (by decide) h
    · have h := h.2.2 c2
      refine zW.go 3 15 [(2, 0), (0, x1), (0, x2), (0, x3)] [(2, 0), (0, 999), (0, x1)] _ rfl ?_
      refine w_getL (q := 0) (v := 23) rfl (by decide) (pc' := 18) rfl ⟨by decide, rfl⟩ rfl rfl (zall_at hR (by decide)) ?_
      refine w_getI (q := 23) rfl (by decide) (pc' := 21) rfl ⟨by decide, rfl⟩ rfl (by decide) ?_
      refine zW.go 1 22 [(2, 0), (0, x1), (0, x2), (0, x3)] [(0, (999 - (mem 23 0))), (0, x1)] _ rfl ?_
      refine w_ic_gt rfl (by decide) (pc' := 25) rfl h.1 (fun c3 => ?_) (fun c3 => ?_)
      · have h := h.2.1 c3
        refine zW.go 1 30 [(2, 0), (0, x1), (0, x2), (0, x3)] [(0, 0)] _ rfl ?_
        exact w_retz rfl rfl (by decide) h
      · have h := h.2.2 c3
        refine zW.go 2 30 [(2, 0), (0, x1), (0, x2), (0, x3)] [(0, 1)] _ rfl ?_
        exact w_retz rfl rfl (by decide) h
def L_c_goBy_61 (X : zX) (d : Nat) (rf : zF) (Q : Int → zF → Prop) (mem : zF) (p : Nat) (x1 : Int) (x2 : Int) (x3 : Int) (x4 : Int) (x5 : Int) : Prop := ∀ z6 : zV, ∀ z7 : zV, zW X (d + 1) 191 61 [(2, 0), (0, x1), (0, x2), (0, x3), (0, x4), (0, x5), z6, z7] [] (zty, rf, mem) (qi rf Q)
def L_c_goBy_92 (X : zX) (d : Nat) (rf : zF) (Q : Int → zF → Prop) (mem : zF) (p : Nat) (x1 : Int) (x2 : Int) (x3 : Int) (x4 : Int) (x5 : Int) (s0 : Int) : Prop := ∀ z6 : zV, ∀ z7 : zV, zW X (d + 1) 191 92 [(2, 0), (0, x1), (0, x2), (0, x3), (0, x4), (0, x5), z6, z7] [(0, s0)] (zty, rf, mem) (qi rf Q)
def L_c_goBy_108 (X : zX) (d : Nat) (rf : zF) (Q : Int → zF → Prop) (mem : zF) (p : Nat) (x1 : Int) (x2 : Int) (x3 : Int) (x4 : Int) (x5 : Int) (x6 : Int) (s0 : Int) : Prop := ∀ z7 : zV, zW X (d + 1) 191 108 [(2, 0), (0, x1), (0, x2), (0, x3), (0, x4), (0, x5), (0, x6), z7] [(0, s0)] (zty, rf, mem) (qi rf Q)
def L_c_goBy_121 (X : zX) (d : Nat) (rf : zF) (Q : Int → zF → Prop) (mem : zF) (p : Nat) (x1 : Int) (x2 : Int) (x4 : Int) (x5 : Int) (x7 : Int) (s0 : Int) (s1 : Int) : Prop := ∀ z3 : zV, ∀ z6 : zV, zW X (d + 1) 191 121 [(2, 0), (0, x1), (0, x2), z3, (0, x4), (0, x5), z6, (0, x7)] [(0, s1), (0, s0)] (zty, rf, mem) (qi rf Q)
set_option maxRecDepth 4000 in
theorem s_c_goBy_61 {X : zX} {d : Nat} {rf mem : zF} {Q : Int → zF → Prop} (hR : zall rf zRK = true) {p : Nat} (hp : zPln rf p) (hpl : rf 0 8 = ((p : Nat) : Int)) {x1 : Int} {x2 : Int} {x3 : Int} {x4 : Int} {x5 : Int} (h : (inI x5 ∧ inI x1) ∧ ((x1 ≤ x5 → (inI x2) ∧ ((x2 = 0 → Q x4 mem) ∧ (¬ x2 = 0 → Q x3 mem))) ∧ (¬ x1 ≤ x5 → (inI x2) ∧ ((x2 = 0 → L_c_goBy_92 X d rf Q mem p x1 x2 x3 x4 x5 0) ∧ (¬ x2 = 0 → Ci X d 192 [(2, 0), (0, 100)] rf mem (fun r14 mem15 => (inI r14 ∧ inI (mem15 p 4)) ∧ (((mem15 p 4) ≤ r14 → L_c_goBy_92 X d rf Q mem15 p x1 x2 x3 x4 x5 0) ∧ (¬ (mem15 p 4) ≤ r14 → L_c_goBy_92 X d rf Q mem15 p x1 x2 x3 x4 x5 1)))))))) : L_c_goBy_61 X d rf Q mem p x1 x2 x3 x4 x5 := by
  intro z6 z7
  refine zW.go 2 64 [(2, 0), (0, x1), (0, x2), (0, x3), (0, x4), (0, x5), z6, z7] [(0, x1), (0, x5)] _ rfl ?_
  refine w_ic_ge rfl (by decide) (pc' := 67) rfl h.1 (fun c11 => ?_) (fun c11 => ?_)
  · have h := h.2.1 c11
    refine zW.go 1 152 [(2, 0), (0, x1), (0, x2), (0, x3), (0, x4), (0, x5), z6, z7] [(0, x2)] _ rfl ?_
    refine w_if_eq rfl (by decide) (pc' := 155) rfl h.1 (fun c12 => ?_) (fun c12 => ?_)
    · have h := h.2.1 c12
      refine zW.go 1 161 [(2, 0), (0, x1), (0, x2), (0, x3), (0, x4), (0, x5), z6, z7] [(0, x4)] _ rfl ?_
      exact w_reti rfl rfl h
    · have h := h.2.2 c12
      refine zW.go 2 161 [(2, 0), (0, x1), (0, x2), (0, x3), (0, x4), (0, x5), z6, z7] [(0, x3)] _ rfl ?_
      exact w_reti rfl rfl h
  · have h := h.2.2 c11
    refine zW.go 1 68 [(2, 0), (0, x1), (0, x2), (0, x3), (0, x4), (0, x5), z6, z7] [(0, x2)] _ rfl ?_
    refine w_if_eq rfl (by decide) (pc' := 71) rfl h.1 (fun c13 => ?_) (fun c13 => ?_)
    · have h := h.2.1 c13
      refine zW.go 1 92 [(2, 0), (0, x1), (0, x2), (0, x3), (0, x4), (0, x5), z6, z7] [(0, 0)] _ rfl ?_
      exact h z6 z7
    · have h := h.2.2 c13
      refine zW.go 2 74 [(2, 0), (0, x1), (0, x2), (0, x3), (0, x4), (0, x5), z6, z7] [(0, 100), (2, 0)] _ rfl ?_
      refine w_calli (as := [(2, 0), (0, 100)]) [] 77 rfl rfl rfl rfl (Nat.le_of_ble_eq_true rfl) (Nat.le_of_ble_eq_true rfl) (Nat.le_of_ble_eq_true rfl) (Or.inr rfl) (Ci.imp h (fun r14 mem15 h => ?_))
      refine zW.go 1 78 [(2, 0), (0, x1), (0, x2), (0, x3), (0, x4), (0, x5), z6, z7] [(2, 0), (0, r14)] _ rfl ?_
      refine w_getL (q := 0) (v := ((p : Nat) : Int)) rfl (by decide) (pc' := 81) rfl ⟨by decide, rfl⟩ rfl rfl hpl ?_
      refine w_getI (q := p) rfl (by decide) (pc' := 84) rfl ⟨Int.natCast_nonneg _, rfl⟩ (zPln_t0 hp) (by decide) ?_
      refine w_ic_ge rfl (by decide) (pc' := 87) rfl h.1 (fun c16 => ?_) (fun c16 => ?_)
      · have h := h.2.1 c16
        refine zW.go 1 92 [(2, 0), (0, x1), (0, x2), (0, x3), (0, x4), (0, x5), z6, z7] [(0, 0)] _ rfl ?_
        exact h z6 z7
      · have h := h.2.2 c16
        refine zW.go 2 92 [(2, 0), (0, x1), (0, x2), (0, x3), (0, x4), (0, x5), z6, z7] [(0, 1)] _ rfl ?_
        exact h z6 z7
set_option maxRecDepth 4000 in
theorem s_c_goBy_92 {X : zX} {d : Nat} {rf mem : zF} {Q : Int → zF → Prop} (hR : zall rf zRK = true) {p : Nat} (hp : zPln rf p) (hpl : rf 0 8 = ((p : Nat) : Int)) {x1 : Int} {x2 : Int} {x3 : Int} {x4 : Int} {x5 : Int} {s0 : Int} (h : (inI s0) ∧ ((s0 = 0 → L_c_goBy_108 X d rf Q mem p x1 x2 x3 x4 x5 s0 (-1)) ∧ (¬ s0 = 0 → Ci X d 192 [(2, 0), (0, 4)] rf mem (fun r18 mem19 => L_c_goBy_108 X d rf Q mem19 p x1 x2 x3 x4 x5 s0 r18)))) : L_c_goBy_92 X d rf Q mem p x1 x2 x3 x4 x5 s0 := by
  intro z6 z7
  refine zW.go 2 96 [(2, 0), (0, x1), (0, x2), (0, x3), (0, x4), (0, x5), (0, s0), z7] [(0, s0)] _ rfl ?_
  refine w_if_eq rfl (by decide) (pc' := 99) rfl h.1 (fun c17 => ?_) (fun c17 => ?_)
  · have h := h.2.1 c17
    refine zW.go 1 108 [(2, 0), (0, x1), (0, x2), (0, x3), (0, x4), (0, x5), (0, s0), z7] [(0, (-1))] _ rfl ?_
    exact h z7
  · have h := h.2.2 c17
    refine zW.go 2 101 [(2, 0), (0, x1), (0, x2), (0, x3), (0, x4), (0, x5), (0, s0), z7] [(0, 4), (2, 0)] _ rfl ?_
    refine w_calli (as := [(2, 0), (0, 4)]) [] 104 rfl rfl rfl rfl (Nat.le_of_ble_eq_true rfl) (Nat.le_of_ble_eq_true rfl) (Nat.le_of_ble_eq_true rfl) (Or.inr rfl) (Ci.imp h (fun r18 mem19 h => ?_))
    refine zW.go 1 108 [(2, 0), (0, x1), (0, x2), (0, x3), (0, x4), (0, x5), (0, s0), z7] [(0, r18)] _ rfl ?_
    exact h z7
set_option maxRecDepth 4000 in
theorem s_c_goBy_108 {X : zX} {d : Nat} {rf mem : zF} {Q : Int → zF → Prop} (hR : zall rf zRK = true) {p : Nat} (hp : zPln rf p) (hpl : rf 0 8 = ((p : Nat) : Int)) {x1 : Int} {x2 : Int} {x3 : Int} {x4 : Int} {x5 : Int} {x6 : Int} {s0 : Int} (h : (inI x6) ∧ ((x6 = 0 → L_c_goBy_121 X d rf Q mem p x1 x2 x4 x5 s0 x3 0) ∧ (¬ x6 = 0 → L_c_goBy_121 X d rf Q mem p x1 x2 x4 x5 s0 x3 1))) : L_c_goBy_108 X d rf Q mem p x1 x2 x3 x4 x5 x6 s0 := by
  intro z7
  refine zW.go 3 113 [(2, 0), (0, x1), (0, x2), (0, x3), (0, x4), (0, x5), (0, x6), (0, s0)] [(0, x6), (0, x3)] _ rfl ?_
  refine w_if_eq rfl (by decide) (pc' := 116) rfl h.1 (fun c20 => ?_) (fun c20 => ?_)
  · have h := h.2.1 c20
    refine zW.go 1 121 [(2, 0), (0, x1), (0, x2), (0, x3), (0, x4), (0, x5), (0, x6), (0, s0)] [(0, 0), (0, x3)] _ rfl ?_
    exact h (0, x3) (0, x6)
  · have h := h.2.2 c20
    refine zW.go 2 121 [(2, 0), (0, x1), (0, x2), (0, x3), (0, x4), (0, x5), (0, x6), (0, s0)] [(0, 1), (0, x3)] _ rfl ?_
    exact h (0, x3) (0, x6)
set_option maxRecDepth 4000 in
theorem s_c_goBy_121 {X : zX} {d : Nat} {rf mem : zF} {Q : Int → zF → Prop} (hR : zall rf zRK = true) {p : Nat} (hp : zPln rf p) (hpl : rf 0 8 = ((p : Nat) : Int)) {x1 : Int} {x2 : Int} {x4 : Int} {x5 : Int} {x7 : Int} {s0 : Int} {s1 : Int} (h : Ci X d 144 [(2, 32), (2, ((p : Nat) : Int)), (2, 23), (0, x7)] rf mem (fun r21 mem22 => L_c_goBy_61 X d rf Q mem22 p x1 x2 (s0 + s1) (x4 + r21) (x5 + 1))) : L_c_goBy_121 X d rf Q mem p x1 x2 x4 x5 x7 s0 s1 := by
  intro z3 z6
  refine zW.go 4 126 [(2, 0), (0, x1), (0, x2), (0, (s0 + s1)), (0, x4), (0, x5), z6, (0, x7)] [(2, 0), (0, x4)] _ rfl ?_
  refine w_getL (q := 0) (v := 32) rfl (by decide) (pc' := 129) rfl ⟨by decide, rfl⟩ rfl rfl (zall_at hR (by decide)) ?_
  refine zW.go 1 130 [(2, 0), (0, x1), (0, x2), (0, (s0 + s1)), (0, x4), (0, x5), z6, (0, x7)] [(2, 0), (2, 32), (0, x4)] _ rfl ?_
  refine w_getL (q := 0) (v := ((p : Nat) : Int)) rfl (by decide) (pc' := 133) rfl ⟨by decide, rfl⟩ rfl rfl hpl ?_
  refine zW.go 1 134 [(2, 0), (0, x1), (0, x2), (0, (s0 + s1)), (0, x4), (0, x5), z6, (0, x7)] [(2, 0), (2, ((p : Nat) : Int)), (2, 32), (0, x4)] _ rfl ?_
  refine w_getL (q := 0) (v := 23) rfl (by decide) (pc' := 137) rfl ⟨by decide, rfl⟩ rfl rfl (zall_at hR (by decide)) ?_
  refine zW.go 1 139 [(2, 0), (0, x1), (0, x2), (0, (s0 + s1)), (0, x4), (0, x5), z6, (0, x7)] [(0, x7), (2, 23), (2, ((p : Nat) : Int)), (2, 32), (0, x4)] _ rfl ?_
  refine w_calli (as := [(2, 32), (2, ((p : Nat) : Int)), (2, 23), (0, x7)]) [(0, x4)] 142 rfl rfl rfl rfl (Nat.le_of_ble_eq_true rfl) (Nat.le_of_ble_eq_true rfl) (Nat.le_of_ble_eq_true rfl) (Or.inr rfl) (Ci.imp h (fun r21 mem22 h => ?_))
  refine zW.go 4 61 [(2, 0), (0, x1), (0, x2), (0, (s0 + s1)), (0, (x4 + r21)), (0, (x5 + 1)), z6, (0, x7)] [] _ rfl ?_
  exact h z6 (0, x7)
set_option maxRecDepth 4000 in
theorem s_c_goBy {X : zX} {d : Nat} {rf mem : zF} {Q : Int → zF → Prop} (hR : zall rf zRK = true) {p : Nat} (hp : zPln rf p) (hpl : rf 0 8 = ((p : Nat) : Int)) {x1 : Int} {x2 : Int} (h : (inI (mem p 1)) ∧ (((mem p 1) = 0 → Ci X d 185 [(2, 0), (0, 2)] rf mem (fun r2 mem3 => Q r2 mem3)) ∧ (¬ (mem p 1) = 0 → Ci X d 190 [(2, 0), (0, x1), (0, 1), (0, 40)] rf mem (fun r4 mem5 => (inI r4) ∧ ((¬ r4 = 0 → Cv X d 2 [(2, 52), (2, 23)] rf mem5 (fun mem7 => Cv X d 141 [(2, 32), (2, ((p : Nat) : Int)), (2, 23)] rf mem7 (fun mem8 => L_c_goBy_61 X d rf Q mem8 p x1 x2 0 0 0))) ∧ (r4 = 0 → Ci X d 185 [(2, 0), (0, 2)] rf mem5 (fun r9 mem10 => Q r9 mem10))))))) : Ci X (d + 1) 191 [(2, 0), (0, x1), (0, x2)] rf mem Q := by
  show zW X (d + 1) 191 0 [(2, 0), (0, x1), (0, x2), (9, 0), (9, 0), (9, 0), (9, 0), (9, 0)] [] (zty, rf, mem) (qi rf Q)
  refine zW.go 1 1 [(2, 0), (0, x1), (0, x2), (9, 0), (9, 0), (9, 0), (9, 0), (9, 0)] [(2, 0)] _ rfl ?_
  refine w_getL (q := 0) (v := ((p : Nat) : Int)) rfl (by decide) (pc' := 4) rfl ⟨by decide, rfl⟩ rfl rfl hpl ?_
  refine w_getI (q := p) rfl (by decide) (pc' := 7) rfl ⟨Int.natCast_nonneg _, rfl⟩ (zPln_t0 hp) (by decide) ?_
  refine w_if_eq rfl (by decide) (pc' := 10) rfl h.1 (fun c1 => ?_) (fun c1 => ?_)
  · have h := h.2.1 c1
    refine zW.go 2 23 [(2, 0), (0, x1), (0, x2), (9, 0), (9, 0), (9, 0), (9, 0), (9, 0)] [(0, 2), (2, 0)] _ rfl ?_
    refine w_calli (as := [(2, 0), (0, 2)]) [] 26 rfl rfl rfl rfl (Nat.le_of_ble_eq_true rfl) (Nat.le_of_ble_eq_true rfl) (Nat.le_of_ble_eq_true rfl) (Or.inr rfl) (Ci.imp h (fun r2 mem3 h => ?_))
    exact w_reti rfl rfl h
  · have h := h.2.2 c1
    refine zW.go 4 15 [(2, 0), (0, x1), (0, x2), (9, 0), (9, 0), (9, 0), (9, 0), (9, 0)] [(0, 40), (0, 1), (0, x1), (2, 0)] _ rfl ?_
    refine w_calli (as := [(2, 0), (0, x1), (0, 1), (0, 40)]) [] 18 rfl rfl rfl rfl (Nat.le_of_ble_eq_true rfl) (Nat.le_of_ble_eq_true rfl) (Nat.le_of_ble_eq_true rfl) (Or.inr rfl) (Ci.imp h (fun r4 mem5 h => ?_))
    refine w_if_ne rfl (by decide) (pc' := 21) rfl h.1 (fun c6 => ?_) (fun c6 => ?_)
    · have h := h.2.1 c6
      refine zW.go 1 28 [(2, 0), (0, x1), (0, x2), (9, 0), (9, 0), (9, 0), (9, 0), (9, 0)] [(2, 0)] _ rfl ?_
      refine w_getL (q := 0) (v := 52) rfl (by decide) (pc' := 31) rfl ⟨by decide, rfl⟩ rfl rfl (zall_at hR (by decide)) ?_
      refine zW.go 1 32 [(2, 0), (0, x1), (0, x2), (9, 0), (9, 0), (9, 0), (9, 0), (9, 0)] [(2, 0), (2, 52)] _ rfl ?_
      refine w_getL (q := 0) (v := 23) rfl (by decide) (pc' := 35) rfl ⟨by decide, rfl⟩ rfl rfl (zall_at hR (by decide)) ?_
      refine w_callv (as := [(2, 52), (2, 23)]) [] 38 rfl rfl rfl rfl (Nat.le_of_ble_eq_true rfl) (Nat.le_of_ble_eq_true rfl) (Nat.le_of_ble_eq_true rfl) (Or.inr rfl) (Cv.imp h (fun mem7 h => ?_))
      refine zW.go 1 39 [(2, 0), (0, x1), (0, x2), (9, 0), (9, 0), (9, 0), (9, 0), (9, 0)] [(2, 0)] _ rfl ?_
      refine w_getL (q := 0) (v := 32) rfl (by decide) (pc' := 42) rfl ⟨by decide, rfl⟩ rfl rfl (zall_at hR (by decide)) ?_
      refine zW.go 1 43 [(2, 0), (0, x1), (0, x2), (9, 0), (9, 0), (9, 0), (9, 0), (9, 0)] [(2, 0), (2, 32)] _ rfl ?_
      refine w_getL (q := 0) (v := ((p : Nat) : Int)) rfl (by decide) (pc' := 46) rfl ⟨by decide, rfl⟩ rfl rfl hpl ?_
      refine zW.go 1 47 [(2, 0), (0, x1), (0, x2), (9, 0), (9, 0), (9, 0), (9, 0), (9, 0)] [(2, 0), (2, ((p : Nat) : Int)), (2, 32)] _ rfl ?_
      refine w_getL (q := 0) (v := 23) rfl (by decide) (pc' := 50) rfl ⟨by decide, rfl⟩ rfl rfl (zall_at hR (by decide)) ?_
      refine w_callv (as := [(2, 32), (2, ((p : Nat) : Int)), (2, 23)]) [] 53 rfl rfl rfl rfl (Nat.le_of_ble_eq_true rfl) (Nat.le_of_ble_eq_true rfl) (Nat.le_of_ble_eq_true rfl) (Or.inr rfl) (Cv.imp h (fun mem8 h => ?_))
      refine zW.go 6 61 [(2, 0), (0, x1), (0, x2), (0, 0), (0, 0), (0, 0), (9, 0), (9, 0)] [] _ rfl ?_
      exact h (9, 0) (9, 0)
    · have h := h.2.2 c6
      refine zW.go 2 23 [(2, 0), (0, x1), (0, x2), (9, 0), (9, 0), (9, 0), (9, 0), (9, 0)] [(0, 2), (2, 0)] _ rfl ?_
      refine w_calli (as := [(2, 0), (0, 2)]) [] 26 rfl rfl rfl rfl (Nat.le_of_ble_eq_true rfl) (Nat.le_of_ble_eq_true rfl) (Nat.le_of_ble_eq_true rfl) (Or.inr rfl) (Ci.imp h (fun r9 mem10 h => ?_))
      exact w_reti rfl rfl h
set_option maxRecDepth 4000 in
theorem s_c_draw {X : zX} {d : Nat} {rf mem : zF} {Q : Int → zF → Prop} (hR : zall rf zRK = true) {p : Nat} (hp : zPln rf p) (hpl : rf 0 8 = ((p : Nat) : Int)) {x1 : Int} (h : (inI (mem 0 9)) ∧ ((inI x1) ∧ ((x1 ≤ 0 → Q 0 (zup mem 0 9 (zlan ((1103515245 * (mem 0 9)) + 12345) 2147483647))) ∧ (¬ x1 ≤ 0 → (inI (zlan ((1103515245 * (mem 0 9)) + 12345) 2147483647)) ∧ ((inI ((zlan ((1103515245 * (mem 0 9)) + 12345) 2147483647).tdiv 64) ∧ inI x1 ∧ x1 ≠ 0) ∧ (Q (((zlan ((1103515245 * (mem 0 9)) + 12345) 2147483647).tdiv 64).tmod x1) (zup mem 0 9 (zlan ((1103515245 * (mem 0 9)) + 12345) 2147483647)))))))) : Ci X d 192 [(2, 0), (0, x1)] rf mem Q := by
  show zW X d 192 0 [(2, 0), (0, x1)] [] (zty, rf, mem) (qi rf Q)
  refine zW.go 3 5 [(2, 0), (0, x1)] [(2, 0), (1, 1103515245), (2, 0)] _ rfl ?_
  refine w_getI (q := 0) rfl (by decide) (pc' := 8) rfl ⟨by decide, rfl⟩ rfl (by decide) ?_
  obtain ⟨g, h⟩ := h
  refine w_i2l rfl (by decide) (pc' := 9) rfl g ?_
  refine zW.go 6 19 [(2, 0), (0, x1)] [(0, (zlan ((1103515245 * (mem 0 9)) + 12345) 2147483647)), (2, 0)] _ rfl ?_
  refine w_putI (q := 0) rfl (by decide) (pc' := 22) rfl ⟨by decide, rfl⟩ rfl (by decide) ?_
  refine zW.go 1 23 [(2, 0), (0, x1)] [(0, x1)] _ rfl ?_
  refine w_if_le rfl (by decide) (pc' := 26) rfl h.1 (fun c1 => ?_) (fun c1 => ?_)
  · have h := h.2.1 c1
    refine zW.go 1 39 [(2, 0), (0, x1)] [(0, 0)] _ rfl ?_
    exact w_reti rfl rfl h
  · have h := h.2.2 c1
    refine zW.go 1 27 [(2, 0), (0, x1)] [(2, 0)] _ rfl ?_
    refine w_getI (q := 0) rfl (by decide) (pc' := 30) rfl ⟨by decide, rfl⟩ rfl (by decide) ?_
    refine zW.go 1 32 [(2, 0), (0, x1)] [(0, 64), (0, (zlan ((1103515245 * (mem 0 9)) + 12345) 2147483647))] _ rfl ?_
    obtain ⟨g, h⟩ := h
    refine w_idiv rfl (by decide) (pc' := 33) rfl ⟨g, by decide, by decide⟩ ?_
    refine zW.go 1 34 [(2, 0), (0, x1)] [(0, x1), (0, ((zlan ((1103515245 * (mem 0 9)) + 12345) 2147483647).tdiv 64))] _ rfl ?_
    obtain ⟨g, h⟩ := h
    refine w_irem rfl (by decide) (pc' := 35) rfl g ?_
    refine zW.go 1 39 [(2, 0), (0, x1)] [(0, (((zlan ((1103515245 * (mem 0 9)) + 12345) 2147483647).tdiv 64).tmod x1))] _ rfl ?_
    exact w_reti rfl rfl h
set_option maxRecDepth 4000 in
theorem s_j_floorDiv {X : zX} {d : Nat} {rf mem : zF} {Q : Int → zF → Prop} (hR : zall rf zRK = true) {x0 : Int} {x1 : Int} (h : (inI x0 ∧ inI x1 ∧ x1 ≠ 0) ∧ ((inI (zxor x0 x1)) ∧ ((0 ≤ (zxor x0 x1) → Q (x0.tdiv x1) mem) ∧ (¬ 0 ≤ (zxor x0 x1) → (inI ((x0.tdiv x1) * x1) ∧ inI x0) ∧ ((((x0.tdiv x1) * x1) = x0 → Q (x0.tdiv x1) mem) ∧ (¬ ((x0.tdiv x1) * x1) = x0 → Q ((x0.tdiv x1) - 1) mem)))))) : Ci X d 318 [(0, x0), (0, x1)] rf mem Q := by
  show zW X d 318 0 [(0, x0), (0, x1), (9, 0)] [] (zty, rf, mem) (qi rf Q)
  refine zW.go 2 2 [(0, x0), (0, x1), (9, 0)] [(0, x1), (0, x0)] _ rfl ?_
  obtain ⟨g, h⟩ := h
  refine w_idiv rfl (by decide) (pc' := 3) rfl g ?_
  refine zW.go 4 7 [(0, x0), (0, x1), (0, (x0.tdiv x1))] [(0, (zxor x0 x1))] _ rfl ?_
  refine w_if_ge rfl (by decide) (pc' := 10) rfl h.1 (fun c1 => ?_) (fun c1 => ?_)
  · have h := h.2.1 c1
    refine zW.go 1 22 [(0, x0), (0, x1), (0, (x0.tdiv x1))] [(0, (x0.tdiv x1))] _ rfl ?_
    exact w_reti rfl rfl h
  · have h := h.2.2 c1
    refine zW.go 4 14 [(0, x0), (0, x1), (0, (x0.tdiv x1))] [(0, x0), (0, ((x0.tdiv x1) * x1))] _ rfl ?_
    refine w_ic_eq rfl (by decide) (pc' := 17) rfl h.1 (fun c2 => ?_) (fun c2 => ?_)
    · have h := h.2.1 c2
      refine zW.go 1 22 [(0, x0), (0, x1), (0, (x0.tdiv x1))] [(0, (x0.tdiv x1))] _ rfl ?_
      exact w_reti rfl rfl h
    · have h := h.2.2 c2
      refine zW.go 3 20 [(0, x0), (0, x1), (0, (x0.tdiv x1))] [(0, ((x0.tdiv x1) - 1))] _ rfl ?_
      exact w_reti rfl rfl h
set_option maxRecDepth 4000 in
theorem s_j_floorMod {X : zX} {d : Nat} {rf mem : zF} {Q : Int → zF → Prop} (hR : zall rf zRK = true) {x0 : Int} {x1 : Int} (h : (inI x0 ∧ inI x1 ∧ x1 ≠ 0) ∧ ((inI (zxor x0 x1)) ∧ ((0 ≤ (zxor x0 x1) → Q (x0.tmod x1) mem) ∧ (¬ 0 ≤ (zxor x0 x1) → (inI (x0.tmod x1)) ∧ (((x0.tmod x1) = 0 → Q (x0.tmod x1) mem) ∧ (¬ (x0.tmod x1) = 0 → Q ((x0.tmod x1) + x1) mem)))))) : Ci X d 319 [(0, x0), (0, x1)] rf mem Q := by
  show zW X d 319 0 [(0, x0), (0, x1), (9, 0)] [] (zty, rf, mem) (qi rf Q)
  refine zW.go 2 2 [(0, x0), (0, x1), (9, 0)] [(0, x1), (0, x0)] _ rfl ?_
  obtain ⟨g, h⟩ := h
  refine w_irem rfl (by decide) (pc' := 3) rfl g ?_
  refine zW.go 4 7 [(0, x0), (0, x1), (0, (x0.tmod x1))] [(0, (zxor x0 x1))] _ rfl ?_
  refine w_if_ge rfl (by decide) (pc' := 10) rfl h.1 (fun c1 => ?_) (fun c1 => ?_)
  · have h := h.2.1 c1
    refine zW.go 1 19 [(0, x0), (0, x1), (0, (x0.tmod x1))] [(0, (x0.tmod x1))] _ rfl ?_
    exact w_reti rfl rfl h
  · have h := h.2.2 c1
    refine zW.go 1 11 [(0, x0), (0, x1), (0, (x0.tmod x1))] [(0, (x0.tmod x1))] _ rfl ?_
    refine w_if_eq rfl (by decide) (pc' := 14) rfl h.1 (fun c2 => ?_) (fun c2 => ?_)
    · have h := h.2.1 c2
      refine zW.go 1 19 [(0, x0), (0, x1), (0, (x0.tmod x1))] [(0, (x0.tmod x1))] _ rfl ?_
      exact w_reti rfl rfl h
    · have h := h.2.2 c2
      refine zW.go 3 17 [(0, x0), (0, x1), (0, (x0.tmod x1))] [(0, ((x0.tmod x1) + x1))] _ rfl ?_
      exact w_reti rfl rfl h
set_option maxRecDepth 4000 in
theorem s_j_max {X : zX} {d : Nat} {rf mem : zF} {Q : Int → zF → Prop} (hR : zall rf zRK = true) {x0 : Int} {x1 : Int} (h : (inI x0 ∧ inI x1) ∧ ((x0 < x1 → Q x1 mem) ∧ (¬ x0 < x1 → Q x0 mem))) : Ci X d 320 [(0, x0), (0, x1)] rf mem Q := by
  show zW X d 320 0 [(0, x0), (0, x1)] [] (zty, rf, mem) (qi rf Q)
  refine zW.go 2 2 [(0, x0), (0, x1)] [(0, x1), (0, x0)] _ rfl ?_
  refine w_ic_lt rfl (by decide) (pc' := 5) rfl h.1 (fun c1 => ?_) (fun c1 => ?_)
  · have h := h.2.1 c1
    refine zW.go 1 10 [(0, x0), (0, x1)] [(0, x1)] _ rfl ?_
    exact w_reti rfl rfl h
  · have h := h.2.2 c1
    refine zW.go 2 10 [(0, x0), (0, x1)] [(0, x0)] _ rfl ?_
    exact w_reti rfl rfl h
set_option maxRecDepth 4000 in
theorem s_j_min {X : zX} {d : Nat} {rf mem : zF} {Q : Int → zF → Prop} (hR : zall rf zRK = true) {x0 : Int} {x1 : Int} (h : (inI x0 ∧ inI x1) ∧ ((x1 < x0 → Q x1 mem) ∧ (¬ x1 < x0 → Q x0 mem))) : Ci X d 321 [(0, x0), (0, x1)] rf mem Q := by
  show zW X d 321 0 [(0, x0), (0, x1)] [] (zty, rf, mem) (qi rf Q)
  refine zW.go 2 2 [(0, x0), (0, x1)] [(0, x1), (0, x0)] _ rfl ?_
  refine w_ic_gt rfl (by decide) (pc' := 5) rfl h.1 (fun c1 => ?_) (fun c1 => ?_)
  · have h := h.2.1 c1
    refine zW.go 1 10 [(0, x0), (0, x1)] [(0, x1)] _ rfl ?_
    exact w_reti rfl rfl h
  · have h := h.2.2 c1
    refine zW.go 2 10 [(0, x0), (0, x1)] [(0, x0)] _ rfl ?_
    exact w_reti rfl rfl h
