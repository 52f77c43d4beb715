def L_m_isBlown_18 (X : zX) (d : Nat) (rf : zF) (Q : Int → zF → Prop) (mem : zF) (x1 : Int) (x2 : Int) (x3 : Int) (x4 : Int) : Prop := zW X (d + 1) 256 18 [(2, 261), (0, x1), (0, x2), (0, x3), (0, x4)] [] (zty, rf, mem) (qi rf Q)
set_option maxRecDepth 4000 in
theorem s_m_isBlown_18 {X : zX} {d : Nat} {rf mem : zF} {Q : Int → zF → Prop} (hR : zall rf zRK = true) {x1 : Int} {x2 : Int} {x3 : Int} {x4 : Int} (h : (0 ≤ ((6 * (mem 261 13)) + x1) ∧ ((6 * (mem 261 13)) + x1) < 12) ∧ ((inI x4 ∧ inI (mem 269 (((6 * (mem 261 13)) + x1)).toNat)) ∧ (((mem 269 (((6 * (mem 261 13)) + x1)).toNat) < x4 → Q 0 mem) ∧ (¬ (mem 269 (((6 * (mem 261 13)) + x1)).toNat) < x4 → (inI x3) ∧ ((x3 = (-1) → Q 0 mem) ∧ (¬ x3 = (-1) → (inI x3 ∧ inI x2) ∧ ((¬ x3 = x2 → (0 ≤ ((6 * (mem 261 13)) + x1) ∧ ((6 * (mem 261 13)) + x1) < 12) ∧ (Ci X d 255 [(2, 261), (0, x3), (0, (mem 268 (((6 * (mem 261 13)) + x1)).toNat))] rf mem (fun r4 mem5 => L_m_isBlown_18 X d rf Q mem5 x1 x2 r4 (x4 + 1)))) ∧ (x3 = x2 → Q 1 mem)))))))) : L_m_isBlown_18 X d rf Q mem x1 x2 x3 x4 := by
  refine zW.go 2 21 [(2, 261), (0, x1), (0, x2), (0, x3), (0, x4)] [(2, 261), (0, x4)] _ rfl ?_
  refine w_getL (q := 261) (v := 269) rfl (by decide) (pc' := 24) rfl ⟨by decide, rfl⟩ rfl rfl (zall_at hR (by decide)) ?_
  refine zW.go 2 27 [(2, 261), (0, x1), (0, x2), (0, x3), (0, x4)] [(2, 261), (0, 6), (2, 269), (0, x4)] _ rfl ?_
  refine w_getI (q := 261) rfl (by decide) (pc' := 30) rfl ⟨by decide, rfl⟩ rfl (by decide) ?_
  refine zW.go 3 33 [(2, 261), (0, x1), (0, x2), (0, x3), (0, x4)] [(0, ((6 * (mem 261 13)) + x1)), (2, 269), (0, x4)] _ rfl ?_
  obtain ⟨g, h⟩ := h
  refine w_iald (q := 269) rfl (by decide) (pc' := 34) rfl ⟨by decide, rfl⟩ rfl g rfl ?_
  refine w_ic_gt rfl (by decide) (pc' := 37) rfl h.1 (fun c1 => ?_) (fun c1 => ?_)
  · have h := h.2.1 c1
    refine zW.go 1 76 [(2, 261), (0, x1), (0, x2), (0, x3), (0, x4)] [(0, 0)] _ rfl ?_
    exact w_retz rfl rfl (by decide) h
  · have h := h.2.2 c1
    refine zW.go 2 39 [(2, 261), (0, x1), (0, x2), (0, x3), (0, x4)] [(0, (-1)), (0, x3)] _ rfl ?_
    refine w_ic_eq rfl (by decide) (pc' := 42) rfl ⟨h.1, by decide⟩ (fun c2 => ?_) (fun c2 => ?_)
    · have h := h.2.1 c2
      refine zW.go 1 76 [(2, 261), (0, x1), (0, x2), (0, x3), (0, x4)] [(0, 0)] _ rfl ?_
      exact w_retz rfl rfl (by decide) h
    · have h := h.2.2 c2
      refine zW.go 2 44 [(2, 261), (0, x1), (0, x2), (0, x3), (0, x4)] [(0, x2), (0, x3)] _ rfl ?_
      refine w_ic_ne rfl (by decide) (pc' := 47) rfl h.1 (fun c3 => ?_) (fun c3 => ?_)
      · have h := h.2.1 c3
        refine zW.go 3 52 [(2, 261), (0, x1), (0, x2), (0, x3), (0, x4)] [(2, 261), (0, x3), (2, 261)] _ rfl ?_
        refine w_getL (q := 261) (v := 268) rfl (by decide) (pc' := 55) rfl ⟨by decide, rfl⟩ rfl rfl (zall_at hR (by decide)) ?_
        refine zW.go 2 58 [(2, 261), (0, x1), (0, x2), (0, x3), (0, x4)] [(2, 261), (0, 6), (2, 268), (0, x3), (2, 261)] _ rfl ?_
        refine w_getI (q := 261) rfl (by decide) (pc' := 61) rfl ⟨by decide, rfl⟩ rfl (by decide) ?_
        refine zW.go 3 64 [(2, 261), (0, x1), (0, x2), (0, x3), (0, x4)] [(0, ((6 * (mem 261 13)) + x1)), (2, 268), (0, x3), (2, 261)] _ rfl ?_
        obtain ⟨g, h⟩ := h
        refine w_iald (q := 268) rfl (by decide) (pc' := 65) rfl ⟨by decide, rfl⟩ rfl g rfl ?_
        refine w_calli (as := [(2, 261), (0, x3), (0, (mem 268 (((6 * (mem 261 13)) + x1)).toNat))]) [] 68 rfl rfl rfl rfl (Nat.le_of_ble_eq_true rfl) (Nat.le_of_ble_eq_true rfl) (Nat.le_of_ble_eq_true rfl) (Or.inr rfl) (Ci.imp h (fun r4 mem5 h => ?_))
        refine zW.go 3 18 [(2, 261), (0, x1), (0, x2), (0, r4), (0, (x4 + 1))] [] _ rfl ?_
        exact h
      · have h := h.2.2 c3
        refine zW.go 1 48 [(2, 261), (0, x1), (0, x2), (0, x3), (0, x4)] [(0, 1)] _ rfl ?_
        exact w_retz rfl rfl (by decide) h
set_option maxRecDepth 4000 in
theorem s_m_isBlown {X : zX} {d : Nat} {rf mem : zF} {Q : Int → zF → Prop} (hR : zall rf zRK = true) {x1 : Int} {x2 : Int} (h : (0 ≤ ((6 * (mem 261 13)) + x1) ∧ ((6 * (mem 261 13)) + x1) < 12) ∧ (L_m_isBlown_18 X d rf Q mem x1 x2 (mem 267 (((6 * (mem 261 13)) + x1)).toNat) 0)) : Ci X (d + 1) 256 [(2, 261), (0, x1), (0, x2)] rf mem Q := by
  show zW X (d + 1) 256 0 [(2, 261), (0, x1), (0, x2), (9, 0), (9, 0)] [] (zty, rf, mem) (qi rf Q)
  refine zW.go 1 1 [(2, 261), (0, x1), (0, x2), (9, 0), (9, 0)] [(2, 261)] _ rfl ?_
  refine w_getL (q := 261) (v := 267) rfl (by decide) (pc' := 4) rfl ⟨by decide, rfl⟩ rfl rfl (zall_at hR (by decide)) ?_
  refine zW.go 2 7 [(2, 261), (0, x1), (0, x2), (9, 0), (9, 0)] [(2, 261), (0, 6), (2, 267)] _ rfl ?_
  refine w_getI (q := 261) rfl (by decide) (pc' := 10) rfl ⟨by decide, rfl⟩ rfl (by decide) ?_
  refine zW.go 3 13 [(2, 261), (0, x1), (0, x2), (9, 0), (9, 0)] [(0, ((6 * (mem 261 13)) + x1)), (2, 267)] _ rfl ?_
  obtain ⟨g, h⟩ := h
  refine w_iald (q := 267) rfl (by decide) (pc' := 14) rfl ⟨by decide, rfl⟩ rfl g rfl ?_
  refine zW.go 3 18 [(2, 261), (0, x1), (0, x2), (0, (mem 267 (((6 * (mem 261 13)) + x1)).toNat)), (0, 0)] [] _ rfl ?_
  exact h
def L_m_draughtIn_2 (X : zX) (d : Nat) (rf : zF) (Q : Int → zF → Prop) (mem : zF) (x1 : Int) (x2 : Int) (x3 : Int) : Prop := zW X (d + 1) 257 2 [(2, 261), (0, x1), (0, x2), (0, x3)] [] (zty, rf, mem) (qi rf Q)
set_option maxRecDepth 4000 in
theorem s_m_draughtIn_2 {X : zX} {d : Nat} {rf mem : zF} {Q : Int → zF → Prop} (hR : zall rf zRK = true) {x1 : Int} {x2 : Int} {x3 : Int} (h : (0 ≤ (mem 261 13) ∧ (mem 261 13) < 2) ∧ ((inI x3 ∧ inI (mem 266 ((mem 261 13)).toNat)) ∧ (((mem 266 ((mem 261 13)).toNat) ≤ x3 → Q (-1) mem) ∧ (¬ (mem 266 ((mem 261 13)).toNat) ≤ x3 → (0 ≤ x1 ∧ x1 < 22) ∧ (Ci X d 223 [(0, (mem 295 (x1).toNat)), (0, x3)] rf mem (fun r2 mem3 => (inI r2) ∧ ((r2 = 0 → L_m_draughtIn_2 X d rf Q mem3 x1 x2 (x3 + 1)) ∧ (¬ r2 = 0 → Ci X d 256 [(2, 261), (0, x3), (0, x2)] rf mem3 (fun r5 mem6 => (inI r5) ∧ ((r5 = 0 → L_m_draughtIn_2 X d rf Q mem6 x1 x2 (x3 + 1)) ∧ (¬ r5 = 0 → (0 ≤ ((6 * (mem6 261 13)) + x3) ∧ ((6 * (mem6 261 13)) + x3) < 12) ∧ (Q (mem6 268 (((6 * (mem6 261 13)) + x3)).toNat) mem6)))))))))))) : L_m_draughtIn_2 X d rf Q mem x1 x2 x3 := by
  refine zW.go 2 4 [(2, 261), (0, x1), (0, x2), (0, x3)] [(2, 261), (0, x3)] _ rfl ?_
  refine w_getL (q := 261) (v := 266) rfl (by decide) (pc' := 7) rfl ⟨by decide, rfl⟩ rfl rfl (zall_at hR (by decide)) ?_
  refine zW.go 1 8 [(2, 261), (0, x1), (0, x2), (0, x3)] [(2, 261), (2, 266), (0, x3)] _ rfl ?_
  refine w_getI (q := 261) rfl (by decide) (pc' := 11) rfl ⟨by decide, rfl⟩ rfl (by decide) ?_
  obtain ⟨g, h⟩ := h
  refine w_iald (q := 266) rfl (by decide) (pc' := 12) rfl ⟨by decide, rfl⟩ rfl g rfl ?_
  refine w_ic_ge rfl (by decide) (pc' := 15) rfl h.1 (fun c1 => ?_) (fun c1 => ?_)
  · have h := h.2.1 c1
    refine zW.go 1 59 [(2, 261), (0, x1), (0, x2), (0, x3)] [(0, (-1))] _ rfl ?_
    exact w_reti rfl rfl h
  · have h := h.2.2 c1
    refine zW.go 1 16 [(2, 261), (0, x1), (0, x2), (0, x3)] [(2, 261)] _ rfl ?_
    refine w_getL (q := 261) (v := 295) rfl (by decide) (pc' := 19) rfl ⟨by decide, rfl⟩ rfl rfl (zall_at hR (by decide)) ?_
    refine zW.go 1 20 [(2, 261), (0, x1), (0, x2), (0, x3)] [(0, x1), (2, 295)] _ rfl ?_
    obtain ⟨g, h⟩ := h
    refine w_iald (q := 295) rfl (by decide) (pc' := 21) rfl ⟨by decide, rfl⟩ rfl g rfl ?_
    refine zW.go 1 22 [(2, 261), (0, x1), (0, x2), (0, x3)] [(0, x3), (0, (mem 295 (x1).toNat))] _ rfl ?_
    refine w_calli (as := [(0, (mem 295 (x1).toNat)), (0, x3)]) [] 25 rfl rfl rfl rfl (Nat.le_of_ble_eq_true rfl) (Nat.le_of_ble_eq_true rfl) (Nat.le_of_ble_eq_true rfl) (Or.inl rfl) (Ci.imp h (fun r2 mem3 h => ?_))
    refine w_if_eq rfl (by decide) (pc' := 28) rfl h.1 (fun c4 => ?_) (fun c4 => ?_)
    · have h := h.2.1 c4
      refine zW.go 2 2 [(2, 261), (0, x1), (0, x2), (0, (x3 + 1))] [] _ rfl ?_
      exact h
    · have h := h.2.2 c4
      refine zW.go 3 31 [(2, 261), (0, x1), (0, x2), (0, x3)] [(0, x2), (0, x3), (2, 261)] _ rfl ?_
      refine w_calli (as := [(2, 261), (0, x3), (0, x2)]) [] 34 rfl rfl rfl rfl (Nat.le_of_ble_eq_true rfl) (Nat.le_of_ble_eq_true rfl) (Nat.le_of_ble_eq_true rfl) (Or.inr rfl) (Ci.imp h (fun r5 mem6 h => ?_))
      refine w_if_eq rfl (by decide) (pc' := 37) rfl h.1 (fun c7 => ?_) (fun c7 => ?_)
      · have h := h.2.1 c7
        refine zW.go 2 2 [(2, 261), (0, x1), (0, x2), (0, (x3 + 1))] [] _ rfl ?_
        exact h
      · have h := h.2.2 c7
        refine zW.go 1 38 [(2, 261), (0, x1), (0, x2), (0, x3)] [(2, 261)] _ rfl ?_
        refine w_getL (q := 261) (v := 268) rfl (by decide) (pc' := 41) rfl ⟨by decide, rfl⟩ rfl rfl (zall_at hR (by decide)) ?_
        refine zW.go 2 44 [(2, 261), (0, x1), (0, x2), (0, x3)] [(2, 261), (0, 6), (2, 268)] _ rfl ?_
        refine w_getI (q := 261) rfl (by decide) (pc' := 47) rfl ⟨by decide, rfl⟩ rfl (by decide) ?_
        refine zW.go 3 50 [(2, 261), (0, x1), (0, x2), (0, x3)] [(0, ((6 * (mem6 261 13)) + x3)), (2, 268)] _ rfl ?_
        obtain ⟨g, h⟩ := h
        refine w_iald (q := 268) rfl (by decide) (pc' := 51) rfl ⟨by decide, rfl⟩ rfl g rfl ?_
        exact w_reti rfl rfl h
set_option maxRecDepth 4000 in
theorem s_m_draughtIn {X : zX} {d : Nat} {rf mem : zF} {Q : Int → zF → Prop} (hR : zall rf zRK = true) {x1 : Int} {x2 : Int} (h : L_m_draughtIn_2 X d rf Q mem x1 x2 0) : Ci X (d + 1) 257 [(2, 261), (0, x1), (0, x2)] rf mem Q := by
  show zW X (d + 1) 257 0 [(2, 261), (0, x1), (0, x2), (9, 0)] [] (zty, rf, mem) (qi rf Q)
  refine zW.go 2 2 [(2, 261), (0, x1), (0, x2), (0, 0)] [] _ rfl ?_
  exact h
set_option maxRecDepth 4000 in
theorem s_m_floats {X : zX} {d : Nat} {rf mem : zF} {Q : Int → zF → Prop} (hR : zall rf zRK = true) {x1 : Int} {x2 : Int} (h : (0 ≤ ((6 * x1) + x2) ∧ ((6 * x1) + x2) < 132) ∧ ((inI (mem 297 (((6 * x1) + x2)).toNat)) ∧ (((mem 297 (((6 * x1) + x2)).toNat) = (-1) → Q 0 mem) ∧ (¬ (mem 297 (((6 * x1) + x2)).toNat) = (-1) → Q 1 mem)))) : Ci X d 258 [(2, 261), (0, x1), (0, x2)] rf mem Q := by
  show zW X d 258 0 [(2, 261), (0, x1), (0, x2)] [] (zty, rf, mem) (qi rf Q)
  refine zW.go 1 1 [(2, 261), (0, x1), (0, x2)] [(2, 261)] _ rfl ?_
  refine w_getL (q := 261) (v := 297) rfl (by decide) (pc' := 4) rfl ⟨by decide, rfl⟩ rfl rfl (zall_at hR (by decide)) ?_
  refine zW.go 5 10 [(2, 261), (0, x1), (0, x2)] [(0, ((6 * x1) + x2)), (2, 297)] _ rfl ?_
  obtain ⟨g, h⟩ := h
  refine w_iald (q := 297) rfl (by decide) (pc' := 11) rfl ⟨by decide, rfl⟩ rfl g rfl ?_
  refine zW.go 1 12 [(2, 261), (0, x1), (0, x2)] [(0, (-1)), (0, (mem 297 (((6 * x1) + x2)).toNat))] _ rfl ?_
  refine w_ic_eq rfl (by decide) (pc' := 15) rfl ⟨h.1, by decide⟩ (fun c1 => ?_) (fun c1 => ?_)
  · have h := h.2.1 c1
    refine zW.go 1 20 [(2, 261), (0, x1), (0, x2)] [(0, 0)] _ rfl ?_
    exact w_retz rfl rfl (by decide) h
  · have h := h.2.2 c1
    refine zW.go 2 20 [(2, 261), (0, x1), (0, x2)] [(0, 1)] _ rfl ?_
    exact w_retz rfl rfl (by decide) h
def L_m_heirIn_2 (X : zX) (d : Nat) (rf : zF) (Q : Int → zF → Prop) (mem : zF) (x1 : Int) (x2 : Int) (x3 : Int) : Prop := zW X d 259 2 [(2, 261), (0, x1), (0, x2), (0, x3)] [] (zty, rf, mem) (qi rf Q)
set_option maxRecDepth 4000 in
theorem s_m_heirIn_2 {X : zX} {d : Nat} {rf mem : zF} {Q : Int → zF → Prop} (hR : zall rf zRK = true) {x1 : Int} {x2 : Int} {x3 : Int} (h : (0 ≤ (mem 261 13) ∧ (mem 261 13) < 2) ∧ ((inI x3 ∧ inI (mem 271 ((mem 261 13)).toNat)) ∧ (((mem 271 ((mem 261 13)).toNat) ≤ x3 → Q (-1) mem) ∧ (¬ (mem 271 ((mem 261 13)).toNat) ≤ x3 → (0 ≤ ((6 * x1) + x3) ∧ ((6 * x1) + x3) < 132) ∧ ((inI (mem 296 (((6 * x1) + x3)).toNat) ∧ inI x2) ∧ ((¬ (mem 296 (((6 * x1) + x3)).toNat) = x2 → L_m_heirIn_2 X d rf Q mem x1 x2 (x3 + 1)) ∧ ((mem 296 (((6 * x1) + x3)).toNat) = x2 → Q x3 mem))))))) : L_m_heirIn_2 X d rf Q mem x1 x2 x3 := by
  refine zW.go 2 4 [(2, 261), (0, x1), (0, x2), (0, x3)] [(2, 261), (0, x3)] _ rfl ?_
  refine w_getL (q := 261) (v := 271) rfl (by decide) (pc' := 7) rfl ⟨by decide, rfl⟩ rfl rfl (zall_at hR (by decide)) ?_
  refine zW.go 1 8 [(2, 261), (0, x1), (0, x2), (0, x3)] [(2, 261), (2, 271), (0, x3)] _ rfl ?_
  refine w_getI (q := 261) rfl (by decide) (pc' := 11) rfl ⟨by decide, rfl⟩ rfl (by decide) ?_
  obtain ⟨g, h⟩ := h
  refine w_iald (q := 271) rfl (by decide) (pc' := 12) rfl ⟨by decide, rfl⟩ rfl g rfl ?_
  refine w_ic_ge rfl (by decide) (pc' := 15) rfl h.1 (fun c1 => ?_) (fun c1 => ?_)
  · have h := h.2.1 c1
    refine zW.go 1 39 [(2, 261), (0, x1), (0, x2), (0, x3)] [(0, (-1))] _ rfl ?_
    exact w_reti rfl rfl h
  · have h := h.2.2 c1
    refine zW.go 1 16 [(2, 261), (0, x1), (0, x2), (0, x3)] [(2, 261)] _ rfl ?_
    refine w_getL (q := 261) (v := 296) rfl (by decide) (pc' := 19) rfl ⟨by decide, rfl⟩ rfl rfl (zall_at hR (by decide)) ?_
    refine zW.go 5 25 [(2, 261), (0, x1), (0, x2), (0, x3)] [(0, ((6 * x1) + x3)), (2, 296)] _ rfl ?_
    obtain ⟨g, h⟩ := h
    refine w_iald (q := 296) rfl (by decide) (pc' := 26) rfl ⟨by decide, rfl⟩ rfl g rfl ?_
    refine zW.go 1 27 [(2, 261), (0, x1), (0, x2), (0, x3)] [(0, x2), (0, (mem 296 (((6 * x1) + x3)).toNat))] _ rfl ?_
    refine w_ic_ne rfl (by decide) (pc' := 30) rfl h.1 (fun c2 => ?_) (fun c2 => ?_)
    · have h := h.2.1 c2
      refine zW.go 2 2 [(2, 261), (0, x1), (0, x2), (0, (x3 + 1))] [] _ rfl ?_
      exact h
    · have h := h.2.2 c2
      refine zW.go 1 31 [(2, 261), (0, x1), (0, x2), (0, x3)] [(0, x3)] _ rfl ?_
      exact w_reti rfl rfl h
set_option maxRecDepth 4000 in
theorem s_m_heirIn {X : zX} {d : Nat} {rf mem : zF} {Q : Int → zF → Prop} (hR : zall rf zRK = true) {x1 : Int} {x2 : Int} (h : L_m_heirIn_2 X d rf Q mem x1 x2 0) : Ci X d 259 [(2, 261), (0, x1), (0, x2)] rf mem Q := by
  show zW X d 259 0 [(2, 261), (0, x1), (0, x2), (9, 0)] [] (zty, rf, mem) (qi rf Q)
  refine zW.go 2 2 [(2, 261), (0, x1), (0, x2), (0, 0)] [] _ rfl ?_
  exact h
def L_m_drifts_2 (X : zX) (d : Nat) (rf : zF) (Q : zF → Prop) (mem : zF) (x1 : Int) (x2 : Int) (x3 : Int) : Prop := ∀ z4 : zV, ∀ z5 : zV, ∀ z6 : zV, zW X (d + 1) 260 2 [(2, 261), (0, x1), (0, x2), (0, x3), z4, z5, z6] [] (zty, rf, mem) (qv rf Q)
def L_m_drifts_65 (X : zX) (d : Nat) (rf : zF) (Q : zF → Prop) (mem : zF) (x1 : Int) (x2 : Int) (x3 : Int) (x4 : Int) (x5 : Int) : Prop := ∀ z6 : zV, zW X (d + 1) 260 65 [(2, 261), (0, x1), (0, x2), (0, x3), (0, x4), (0, x5), z6] [] (zty, rf, mem) (qv rf Q)
def L_m_drifts_83 (X : zX) (d : Nat) (rf : zF) (Q : zF → Prop) (mem : zF) (x1 : Int) (x2 : Int) (x3 : Int) (s0 : Int) : Prop := ∀ z4 : zV, ∀ z5 : zV, z5.1 ≠ 1 → ∀ z6 : zV, zW X (d + 1) 260 83 [(2, 261), (0, x1), (0, x2), (0, x3), z4, z5, z6] [(0, s0)] (zty, rf, mem) (qv rf Q)
set_option maxRecDepth 4000 in
theorem s_m_drifts_2 {X : zX} {d : Nat} {rf mem : zF} {Q : zF → Prop} (hR : zall rf zRK = true) {x1 : Int} {x2 : Int} {x3 : Int} (h : (0 ≤ (mem 261 13) ∧ (mem 261 13) < 2) ∧ ((inI x3 ∧ inI (mem 274 ((mem 261 13)).toNat)) ∧ (((mem 274 ((mem 261 13)).toNat) ≤ x3 → Q mem) ∧ (¬ (mem 274 ((mem 261 13)).toNat) ≤ x3 → (0 ≤ x3 ∧ x3 < 6) ∧ (Ci X d 258 [(2, 261), (0, x1), (0, x3)] rf (zup mem 307 (x3).toNat 0) (fun r2 mem3 => (inI r2) ∧ ((¬ r2 = 0 → (0 ≤ ((6 * x1) + x3) ∧ ((6 * x1) + x3) < 132) ∧ (Ci X d 257 [(2, 261), (0, x1), (0, (mem3 297 (((6 * x1) + x3)).toNat))] rf mem3 (fun r5 mem6 => (inI r5) ∧ ((¬ r5 = (-1) → L_m_drifts_65 X d rf Q mem6 x1 x2 x3 (mem3 297 (((6 * x1) + x3)).toNat) r5) ∧ (r5 = (-1) → L_m_drifts_65 X d rf Q mem6 x1 x2 x3 (mem3 297 (((6 * x1) + x3)).toNat) x2))))) ∧ (r2 = 0 → L_m_drifts_2 X d rf Q mem3 x1 x2 (x3 + 1))))))))) : L_m_drifts_2 X d rf Q mem x1 x2 x3 := by
  intro z4 z5 z6
  refine zW.go 2 4 [(2, 261), (0, x1), (0, x2), (0, x3), z4, z5, z6] [(2, 261), (0, x3)] _ rfl ?_
  refine w_getL (q := 261) (v := 274) rfl (by decide) (pc' := 7) rfl ⟨by decide, rfl⟩ rfl rfl (zall_at hR (by decide)) ?_
  refine zW.go 1 8 [(2, 261), (0, x1), (0, x2), (0, x3), z4, z5, z6] [(2, 261), (2, 274), (0, x3)] _ rfl ?_
  refine w_getI (q := 261) rfl (by decide) (pc' := 11) rfl ⟨by decide, rfl⟩ rfl (by decide) ?_
  obtain ⟨g, h⟩ := h
  refine w_iald (q := 274) rfl (by decide) (pc' := 12) rfl ⟨by decide, rfl⟩ rfl g rfl ?_
  refine w_ic_ge rfl (by decide) (pc' := 15) rfl h.1 (fun c1 => ?_) (fun c1 => ?_)
  · have h := h.2.1 c1
    exact w_retv rfl rfl h
  · have h := h.2.2 c1
    refine zW.go 1 16 [(2, 261), (0, x1), (0, x2), (0, x3), z4, z5, z6] [(2, 261)] _ rfl ?_
    refine w_getL (q := 261) (v := 307) rfl (by decide) (pc' := 19) rfl ⟨by decide, rfl⟩ rfl rfl (zall_at hR (by decide)) ?_
    refine zW.go 2 21 [(2, 261), (0, x1), (0, x2), (0, x3), z4, z5, z6] [(0, 0), (0, x3), (2, 307)] _ rfl ?_
    obtain ⟨g, h⟩ := h
    refine w_iast (q := 307) rfl (by decide) (pc' := 22) rfl ⟨by decide, rfl⟩ rfl g rfl ?_
    refine zW.go 3 25 [(2, 261), (0, x1), (0, x2), (0, x3), z4, z5, z6] [(0, x3), (0, x1), (2, 261)] _ rfl ?_
    refine w_calli (as := [(2, 261), (0, x1), (0, x3)]) [] 28 rfl rfl rfl rfl (Nat.le_of_ble_eq_true rfl) (Nat.le_of_ble_eq_true rfl) (Nat.le_of_ble_eq_true rfl) (Or.inr rfl) (Ci.imp h (fun r2 mem3 h => ?_))
    refine w_if_ne rfl (by decide) (pc' := 31) rfl h.1 (fun c4 => ?_) (fun c4 => ?_)
    · have h := h.2.1 c4
      refine zW.go 1 35 [(2, 261), (0, x1), (0, x2), (0, x3), z4, z5, z6] [(2, 261)] _ rfl ?_
      refine w_getL (q := 261) (v := 297) rfl (by decide) (pc' := 38) rfl ⟨by decide, rfl⟩ rfl rfl (zall_at hR (by decide)) ?_
      refine zW.go 5 44 [(2, 261), (0, x1), (0, x2), (0, x3), z4, z5, z6] [(0, ((6 * x1) + x3)), (2, 297)] _ rfl ?_
      obtain ⟨g, h⟩ := h
      refine w_iald (q := 297) rfl (by decide) (pc' := 45) rfl ⟨by decide, rfl⟩ rfl g rfl ?_
      refine zW.go 4 51 [(2, 261), (0, x1), (0, x2), (0, x3), (0, (mem3 297 (((6 * x1) + x3)).toNat)), z5, z6] [(0, (mem3 297 (((6 * x1) + x3)).toNat)), (0, x1), (2, 261)] _ rfl ?_
      refine w_calli (as := [(2, 261), (0, x1), (0, (mem3 297 (((6 * x1) + x3)).toNat))]) [] 54 rfl rfl rfl rfl (Nat.le_of_ble_eq_true rfl) (Nat.le_of_ble_eq_true rfl) (Nat.le_of_ble_eq_true rfl) (Or.inr rfl) (Ci.imp h (fun r5 mem6 h => ?_))
      refine zW.go 3 59 [(2, 261), (0, x1), (0, x2), (0, x3), (0, (mem3 297 (((6 * x1) + x3)).toNat)), (0, r5), z6] [(0, (-1)), (0, r5)] _ rfl ?_
      refine w_ic_ne rfl (by decide) (pc' := 62) rfl ⟨h.1, by decide⟩ (fun c7 => ?_) (fun c7 => ?_)
      · have h := h.2.1 c7
        exact h z6
      · have h := h.2.2 c7
        refine zW.go 2 65 [(2, 261), (0, x1), (0, x2), (0, x3), (0, (mem3 297 (((6 * x1) + x3)).toNat)), (0, x2), z6] [] _ rfl ?_
        exact h z6
    · have h := h.2.2 c4
      refine zW.go 3 2 [(2, 261), (0, x1), (0, x2), (0, (x3 + 1)), z4, z5, z6] [] _ rfl ?_
      exact h z4 z5 z6
set_option maxRecDepth 4000 in
theorem s_m_drifts_65 {X : zX} {d : Nat} {rf mem : zF} {Q : zF → Prop} (hR : zall rf zRK = true) {x1 : Int} {x2 : Int} {x3 : Int} {x4 : Int} {x5 : Int} (h : (inI x5) ∧ ((¬ x5 = (-1) → Ci X d 255 [(2, 261), (0, x4), (0, x5)] rf mem (fun r9 mem10 => L_m_drifts_83 X d rf Q mem10 x1 x2 x3 r9)) ∧ (x5 = (-1) → L_m_drifts_83 X d rf Q mem x1 x2 x3 (-1)))) : L_m_drifts_65 X d rf Q mem x1 x2 x3 x4 x5 := by
  intro z6
  refine zW.go 2 68 [(2, 261), (0, x1), (0, x2), (0, x3), (0, x4), (0, x5), z6] [(0, (-1)), (0, x5)] _ rfl ?_
  refine w_ic_ne rfl (by decide) (pc' := 71) rfl ⟨h.1, by decide⟩ (fun c8 => ?_) (fun c8 => ?_)
  · have h := h.2.1 c8
    refine zW.go 3 80 [(2, 261), (0, x1), (0, x2), (0, x3), (0, x4), (0, x5), z6] [(0, x5), (0, x4), (2, 261)] _ rfl ?_
    refine w_calli (as := [(2, 261), (0, x4), (0, x5)]) [] 83 rfl rfl rfl rfl (Nat.le_of_ble_eq_true rfl) (Nat.le_of_ble_eq_true rfl) (Nat.le_of_ble_eq_true rfl) (Or.inr rfl) (Ci.imp h (fun r9 mem10 h => ?_))
    exact h (0, x4) (0, x5) (by show (0 : Nat) ≠ 1; decide) z6
  · have h := h.2.2 c8
    refine zW.go 2 83 [(2, 261), (0, x1), (0, x2), (0, x3), (0, x4), (0, x5), z6] [(0, (-1))] _ rfl ?_
    exact h (0, x4) (0, x5) (by show (0 : Nat) ≠ 1; decide) z6
set_option maxRecDepth 4000 in
theorem s_m_drifts_83 {X : zX} {d : Nat} {rf mem : zF} {Q : zF → Prop} (hR : zall rf zRK = true) {x1 : Int} {x2 : Int} {x3 : Int} {s0 : Int} (h : (inI s0) ∧ ((¬ s0 = (-1) → (0 ≤ ((6 * x1) + x3) ∧ ((6 * x1) + x3) < 132) ∧ ((0 ≤ x3 ∧ x3 < 6) ∧ (L_m_drifts_2 X d rf Q (zup (zup mem 297 (((6 * x1) + x3)).toNat s0) 307 (x3).toNat 1) x1 x2 (x3 + 1)))) ∧ (s0 = (-1) → L_m_drifts_2 X d rf Q mem x1 x2 (x3 + 1)))) : L_m_drifts_83 X d rf Q mem x1 x2 x3 s0 := by
  intro z4 z5 hz5 z6
  refine zW.step 85 [(2, 261), (0, x1), (0, x2), (0, x3), z4, z5, (0, s0)] [] _ rfl (by decide) (by decide) (by show some (_, zst1 [(2, 261), (0, x1), (0, x2), (0, x3), z4, z5, z6] 6 _, _, _) = _; rw [zst1_z (ls := [(2, 261), (0, x1), (0, x2), (0, x3), z4, z5, z6]) (i := 6) hz5]; rfl) ?_
  refine zW.go 2 88 [(2, 261), (0, x1), (0, x2), (0, x3), z4, z5, (0, s0)] [(0, (-1)), (0, s0)] _ rfl ?_
  refine w_ic_ne rfl (by decide) (pc' := 91) rfl ⟨h.1, by decide⟩ (fun c11 => ?_) (fun c11 => ?_)
  · have h := h.2.1 c11
    refine zW.go 1 95 [(2, 261), (0, x1), (0, x2), (0, x3), z4, z5, (0, s0)] [(2, 261)] _ rfl ?_
    refine w_getL (q := 261) (v := 297) rfl (by decide) (pc' := 98) rfl ⟨by decide, rfl⟩ rfl rfl (zall_at hR (by decide)) ?_
    refine zW.go 6 106 [(2, 261), (0, x1), (0, x2), (0, x3), z4, z5, (0, s0)] [(0, s0), (0, ((6 * x1) + x3)), (2, 297)] _ rfl ?_
    obtain ⟨g, h⟩ := h
    refine w_iast (q := 297) rfl (by decide) (pc' := 107) rfl ⟨by decide, rfl⟩ rfl g rfl ?_
    refine zW.go 1 108 [(2, 261), (0, x1), (0, x2), (0, x3), z4, z5, (0, s0)] [(2, 261)] _ rfl ?_
    refine w_getL (q := 261) (v := 307) rfl (by decide) (pc' := 111) rfl ⟨by decide, rfl⟩ rfl rfl (zall_at hR (by decide)) ?_
    refine zW.go 2 113 [(2, 261), (0, x1), (0, x2), (0, x3), z4, z5, (0, s0)] [(0, 1), (0, x3), (2, 307)] _ rfl ?_
    obtain ⟨g, h⟩ := h
    refine w_iast (q := 307) rfl (by decide) (pc' := 114) rfl ⟨by decide, rfl⟩ rfl g rfl ?_
    refine zW.go 2 2 [(2, 261), (0, x1), (0, x2), (0, (x3 + 1)), z4, z5, (0, s0)] [] _ rfl ?_
    exact h z4 z5 (0, s0)
  · have h := h.2.2 c11
    refine zW.go 3 2 [(2, 261), (0, x1), (0, x2), (0, (x3 + 1)), z4, z5, (0, s0)] [] _ rfl ?_
    exact h z4 z5 (0, s0)
set_option maxRecDepth 4000 in
theorem s_m_drifts {X : zX} {d : Nat} {rf mem : zF} {Q : zF → Prop} (hR : zall rf zRK = true) {x1 : Int} {x2 : Int} (h : L_m_drifts_2 X d rf Q mem x1 x2 0) : Cv X (d + 1) 260 [(2, 261), (0, x1), (0, x2)] rf mem Q := by
  show zW X (d + 1) 260 0 [(2, 261), (0, x1), (0, x2), (9, 0), (9, 0), (9, 0), (9, 0)] [] (zty, rf, mem) (qv rf Q)
  refine zW.go 2 2 [(2, 261), (0, x1), (0, x2), (0, 0), (9, 0), (9, 0), (9, 0)] [] _ rfl ?_
  exact h (9, 0) (9, 0) (9, 0)
set_option maxRecDepth 4000 in
theorem s_m_goesOut {X : zX} {d : Nat} {rf mem : zF} {Q : zF → Prop} (hR : zall rf zRK = true) {x1 : Int} {x2 : Int} (h : (0 ≤ ((6 * x1) + x2) ∧ ((6 * x1) + x2) < 132) ∧ ((0 ≤ ((6 * x1) + x2) ∧ ((6 * x1) + x2) < 132) ∧ ((0 ≤ ((6 * x1) + x2) ∧ ((6 * x1) + x2) < 132) ∧ ((0 ≤ ((6 * x1) + x2) ∧ ((6 * x1) + x2) < 132) ∧ (Q (zup (zup (zup (zup mem 297 (((6 * x1) + x2)).toNat (-1)) 298 (((6 * x1) + x2)).toNat 0) 299 (((6 * x1) + x2)).toNat 0) 300 (((6 * x1) + x2)).toNat 0)))))) : Cv X d 261 [(2, 261), (0, x1), (0, x2)] rf mem Q := by
  show zW X d 261 0 [(2, 261), (0, x1), (0, x2)] [] (zty, rf, mem) (qv rf Q)
  refine zW.go 1 1 [(2, 261), (0, x1), (0, x2)] [(2, 261)] _ rfl ?_
  refine w_getL (q := 261) (v := 297) rfl (by decide) (pc' := 4) rfl ⟨by decide, rfl⟩ rfl rfl (zall_at hR (by decide)) ?_
  refine zW.go 6 11 [(2, 261), (0, x1), (0, x2)] [(0, (-1)), (0, ((6 * x1) + x2)), (2, 297)] _ rfl ?_
  obtain ⟨g, h⟩ := h
  refine w_iast (q := 297) rfl (by decide) (pc' := 12) rfl ⟨by decide, rfl⟩ rfl g rfl ?_
  refine zW.go 1 13 [(2, 261), (0, x1), (0, x2)] [(2, 261)] _ rfl ?_
  refine w_getL (q := 261) (v := 298) rfl (by decide) (pc' := 16) rfl ⟨by decide, rfl⟩ rfl rfl (zall_at hR (by decide)) ?_
  refine zW.go 6 23 [(2, 261), (0, x1), (0, x2)] [(0, 0), (0, ((6 * x1) + x2)), (2, 298)] _ rfl ?_
  obtain ⟨g, h⟩ := h
  refine w_iast (q := 298) rfl (by decide) (pc' := 24) rfl ⟨by decide, rfl⟩ rfl g rfl ?_
  refine zW.go 1 25 [(2, 261), (0, x1), (0, x2)] [(2, 261)] _ rfl ?_
  refine w_getL (q := 261) (v := 299) rfl (by decide) (pc' := 28) rfl ⟨by decide, rfl⟩ rfl rfl (zall_at hR (by decide)) ?_
  refine zW.go 6 35 [(2, 261), (0, x1), (0, x2)] [(0, 0), (0, ((6 * x1) + x2)), (2, 299)] _ rfl ?_
  obtain ⟨g, h⟩ := h
  refine w_iast (q := 299) rfl (by decide) (pc' := 36) rfl ⟨by decide, rfl⟩ rfl g rfl ?_
  refine zW.go 1 37 [(2, 261), (0, x1), (0, x2)] [(2, 261)] _ rfl ?_
  refine w_getL (q := 261) (v := 300) rfl (by decide) (pc' := 40) rfl ⟨by decide, rfl⟩ rfl rfl (zall_at hR (by decide)) ?_
  refine zW.go 6 47 [(2, 261), (0, x1), (0, x2)] [(0, 0), (0, ((6 * x1) + x2)), (2, 300)] _ rfl ?_
  obtain ⟨g, h⟩ := h
  refine w_iast (q := 300) rfl (by decide) (pc' := 48) rfl ⟨by decide, rfl⟩ rfl g rfl ?_
  exact w_retv rfl rfl h
def L_m_joinsAll_2 (X : zX) (d : Nat) (rf : zF) (Q : zF → Prop) (mem : zF) (x1 : Int) (x2 : Int) : Prop := ∀ z3 : zV, zW X (d + 1) 262 2 [(2, 261), (0, x1), (0, x2), z3] [] (zty, rf, mem) (qv rf Q)
def L_m_joinsAll_19 (X : zX) (d : Nat) (rf : zF) (Q : zF → Prop) (mem : zF) (x1 : Int) (x2 : Int) (x3 : Int) : Prop := zW X (d + 1) 262 19 [(2, 261), (0, x1), (0, x2), (0, x3)] [] (zty, rf, mem) (qv rf Q)
set_option maxRecDepth 4000 in
theorem s_m_joinsAll_2 {X : zX} {d : Nat} {rf mem : zF} {Q : zF → Prop} (hR : zall rf zRK = true) {x1 : Int} {x2 : Int} (h : (0 ≤ (mem 261 13) ∧ (mem 261 13) < 2) ∧ ((inI x2 ∧ inI (mem 274 ((mem 261 13)).toNat)) ∧ (((mem 274 ((mem 261 13)).toNat) ≤ x2 → Q mem) ∧ (¬ (mem 274 ((mem 261 13)).toNat) ≤ x2 → L_m_joinsAll_19 X d rf Q mem x1 x2 (x2 + 1))))) : L_m_joinsAll_2 X d rf Q mem x1 x2 := by
  intro z3
  refine zW.go 2 4 [(2, 261), (0, x1), (0, x2), z3] [(2, 261), (0, x2)] _ rfl ?_
  refine w_getL (q := 261) (v := 274) rfl (by decide) (pc' := 7) rfl ⟨by decide, rfl⟩ rfl rfl (zall_at hR (by decide)) ?_
  refine zW.go 1 8 [(2, 261), (0, x1), (0, x2), z3] [(2, 261), (2, 274), (0, x2)] _ rfl ?_
  refine w_getI (q := 261) rfl (by decide) (pc' := 11) rfl ⟨by decide, rfl⟩ rfl (by decide) ?_
  obtain ⟨g, h⟩ := h
  refine w_iald (q := 274) rfl (by decide) (pc' := 12) rfl ⟨by decide, rfl⟩ rfl g rfl ?_
  refine w_ic_ge rfl (by decide) (pc' := 15) rfl h.1 (fun c1 => ?_) (fun c1 => ?_)
  · have h := h.2.1 c1
    exact w_retv rfl rfl h
  · have h := h.2.2 c1
    refine zW.go 4 19 [(2, 261), (0, x1), (0, x2), (0, (x2 + 1))] [] _ rfl ?_
    exact h
set_option maxRecDepth 4000 in
theorem s_m_joinsAll_19 {X : zX} {d : Nat} {rf mem : zF} {Q : zF → Prop} (hR : zall rf zRK = true) {x1 : Int} {x2 : Int} {x3 : Int} (h : (0 ≤ (mem 261 13) ∧ (mem 261 13) < 2) ∧ ((inI x3 ∧ inI (mem 274 ((mem 261 13)).toNat)) ∧ (((mem 274 ((mem 261 13)).toNat) ≤ x3 → L_m_joinsAll_2 X d rf Q mem x1 (x2 + 1)) ∧ (¬ (mem 274 ((mem 261 13)).toNat) ≤ x3 → Ci X d 258 [(2, 261), (0, x1), (0, x2)] rf mem (fun r3 mem4 => (inI r3) ∧ ((r3 = 0 → L_m_joinsAll_2 X d rf Q mem4 x1 (x2 + 1)) ∧ (¬ r3 = 0 → (0 ≤ ((6 * x1) + x3) ∧ ((6 * x1) + x3) < 132) ∧ ((0 ≤ ((6 * x1) + x2) ∧ ((6 * x1) + x2) < 132) ∧ ((inI (mem4 297 (((6 * x1) + x3)).toNat) ∧ inI (mem4 297 (((6 * x1) + x2)).toNat)) ∧ (((mem4 297 (((6 * x1) + x3)).toNat) = (mem4 297 (((6 * x1) + x2)).toNat) → (0 ≤ ((6 * x1) + x2) ∧ ((6 * x1) + x2) < 132) ∧ ((0 ≤ ((6 * x1) + x3) ∧ ((6 * x1) + x3) < 132) ∧ ((0 ≤ ((6 * x1) + x2) ∧ ((6 * x1) + x2) < 132) ∧ ((0 ≤ ((6 * x1) + x2) ∧ ((6 * x1) + x2) < 132) ∧ ((0 ≤ ((6 * x1) + x3) ∧ ((6 * x1) + x3) < 132) ∧ ((inI ((mem4 299 (((6 * x1) + x2)).toNat) + (mem4 299 (((6 * x1) + x3)).toNat))) ∧ (Ci X d 252 [(1, ((mem4 299 (((6 * x1) + x2)).toNat) + (mem4 299 (((6 * x1) + x3)).toNat))), (0, 9)] rf (zup mem4 300 (((6 * x1) + x2)).toNat (zor (mem4 300 (((6 * x1) + x2)).toNat) (mem4 300 (((6 * x1) + x3)).toNat))) (fun r7 mem8 => (0 ≤ ((6 * x1) + x2) ∧ ((6 * x1) + x2) < 132) ∧ ((0 ≤ ((6 * x1) + x3) ∧ ((6 * x1) + x3) < 132) ∧ ((0 ≤ ((6 * x1) + x2) ∧ ((6 * x1) + x2) < 132) ∧ ((inI (mem8 298 (((6 * x1) + x3)).toNat) ∧ inI (mem8 298 (((6 * x1) + x2)).toNat)) ∧ (((mem8 298 (((6 * x1) + x3)).toNat) ≤ (mem8 298 (((6 * x1) + x2)).toNat) → Cv X d 261 [(2, 261), (0, x1), (0, x3)] rf (zup mem8 299 (((6 * x1) + x2)).toNat r7) (fun mem10 => L_m_joinsAll_19 X d rf Q mem10 x1 x2 (x3 + 1))) ∧ (¬ (mem8 298 (((6 * x1) + x3)).toNat) ≤ (mem8 298 (((6 * x1) + x2)).toNat) → (0 ≤ ((6 * x1) + x3) ∧ ((6 * x1) + x3) < 132) ∧ ((0 ≤ ((6 * x1) + x2) ∧ ((6 * x1) + x2) < 132) ∧ (Cv X d 261 [(2, 261), (0, x1), (0, x3)] rf (zup (zup mem8 299 (((6 * x1) + x2)).toNat r7) 298 (((6 * x1) + x2)).toNat (mem8 298 (((6 * x1) + x3)).toNat)) (fun mem11 => L_m_joinsAll_19 X d rf Q mem11 x1 x2 (x3 + 1))))))))))))))))) ∧ (¬ (mem4 297 (((6 * x1) + x3)).toNat) = (mem4 297 (((6 * x1) + x2)).toNat) → L_m_joinsAll_19 X d rf Q mem4 x1 x2 (x3 + 1)))))))))))) : L_m_joinsAll_19 X d rf Q mem x1 x2 x3 := by
  refine zW.go 2 21 [(2, 261), (0, x1), (0, x2), (0, x3)] [(2, 261), (0, x3)] _ rfl ?_
  refine w_getL (q := 261) (v := 274) rfl (by decide) (pc' := 24) rfl ⟨by decide, rfl⟩ rfl rfl (zall_at hR (by decide)) ?_
  refine zW.go 1 25 [(2, 261), (0, x1), (0, x2), (0, x3)] [(2, 261), (2, 274), (0, x3)] _ rfl ?_
  refine w_getI (q := 261) rfl (by decide) (pc' := 28) rfl ⟨by decide, rfl⟩ rfl (by decide) ?_
  obtain ⟨g, h⟩ := h
  refine w_iald (q := 274) rfl (by decide) (pc' := 29) rfl ⟨by decide, rfl⟩ rfl g rfl ?_
  refine w_ic_ge rfl (by decide) (pc' := 32) rfl h.1 (fun c2 => ?_) (fun c2 => ?_)
  · have h := h.2.1 c2
    refine zW.go 2 2 [(2, 261), (0, x1), (0, (x2 + 1)), (0, x3)] [] _ rfl ?_
    exact h (0, x3)
  · have h := h.2.2 c2
    refine zW.go 3 35 [(2, 261), (0, x1), (0, x2), (0, x3)] [(0, x2), (0, x1), (2, 261)] _ rfl ?_
    refine w_calli (as := [(2, 261), (0, x1), (0, x2)]) [] 38 rfl rfl rfl rfl (Nat.le_of_ble_eq_true rfl) (Nat.le_of_ble_eq_true rfl) (Nat.le_of_ble_eq_true rfl) (Or.inr rfl) (Ci.imp h (fun r3 mem4 h => ?_))
    refine w_if_eq rfl (by decide) (pc' := 41) rfl h.1 (fun c5 => ?_) (fun c5 => ?_)
    · have h := h.2.1 c5
      refine zW.go 2 2 [(2, 261), (0, x1), (0, (x2 + 1)), (0, x3)] [] _ rfl ?_
      exact h (0, x3)
    · have h := h.2.2 c5
      refine zW.go 1 42 [(2, 261), (0, x1), (0, x2), (0, x3)] [(2, 261)] _ rfl ?_
      refine w_getL (q := 261) (v := 297) rfl (by decide) (pc' := 45) rfl ⟨by decide, rfl⟩ rfl rfl (zall_at hR (by decide)) ?_
      refine zW.go 5 51 [(2, 261), (0, x1), (0, x2), (0, x3)] [(0, ((6 * x1) + x3)), (2, 297)] _ rfl ?_
      obtain ⟨g, h⟩ := h
      refine w_iald (q := 297) rfl (by decide) (pc' := 52) rfl ⟨by decide, rfl⟩ rfl g rfl ?_
      refine zW.go 1 53 [(2, 261), (0, x1), (0, x2), (0, x3)] [(2, 261), (0, (mem4 297 (((6 * x1) + x3)).toNat))] _ rfl ?_
      refine w_getL (q := 261) (v := 297) rfl (by decide) (pc' := 56) rfl ⟨by decide, rfl⟩ rfl rfl (zall_at hR (by decide)) ?_
      refine zW.go 5 62 [(2, 261), (0, x1), (0, x2), (0, x3)] [(0, ((6 * x1) + x2)), (2, 297), (0, (mem4 297 (((6 * x1) + x3)).toNat))] _ rfl ?_
      obtain ⟨g, h⟩ := h
      refine w_iald (q := 297) rfl (by decide) (pc' := 63) rfl ⟨by decide, rfl⟩ rfl g rfl ?_
      refine w_ic_eq rfl (by decide) (pc' := 66) rfl h.1 (fun c6 => ?_) (fun c6 => ?_)
      · have h := h.2.1 c6
        refine zW.go 1 70 [(2, 261), (0, x1), (0, x2), (0, x3)] [(2, 261)] _ rfl ?_
        refine w_getL (q := 261) (v := 300) rfl (by decide) (pc' := 73) rfl ⟨by decide, rfl⟩ rfl rfl (zall_at hR (by decide)) ?_
        refine zW.go 6 80 [(2, 261), (0, x1), (0, x2), (0, x3)] [(0, ((6 * x1) + x2)), (2, 300), (0, ((6 * x1) + x2)), (2, 300)] _ rfl ?_
        obtain ⟨g, h⟩ := h
        refine w_iald (q := 300) rfl (by decide) (pc' := 81) rfl ⟨by decide, rfl⟩ rfl g rfl ?_
        refine zW.go 1 82 [(2, 261), (0, x1), (0, x2), (0, x3)] [(2, 261), (0, (mem4 300 (((6 * x1) + x2)).toNat)), (0, ((6 * x1) + x2)), (2, 300)] _ rfl ?_
        refine w_getL (q := 261) (v := 300) rfl (by decide) (pc' := 85) rfl ⟨by decide, rfl⟩ rfl rfl (zall_at hR (by decide)) ?_
        refine zW.go 5 91 [(2, 261), (0, x1), (0, x2), (0, x3)] [(0, ((6 * x1) + x3)), (2, 300), (0, (mem4 300 (((6 * x1) + x2)).toNat)), (0, ((6 * x1) + x2)), (2, 300)] _ rfl ?_
        obtain ⟨g, h⟩ := h
        refine w_iald (q := 300) rfl (by decide) (pc' := 92) rfl ⟨by decide, rfl⟩ rfl g rfl ?_
        refine zW.go 1 93 [(2, 261), (0, x1), (0, x2), (0, x3)] [(0, (zor (mem4 300 (((6 * x1) + x2)).toNat) (mem4 300 (((6 * x1) + x3)).toNat))), (0, ((6 * x1) + x2)), (2, 300)] _ rfl ?_
        obtain ⟨g, h⟩ := h
        refine w_iast (q := 300) rfl (by decide) (pc' := 94) rfl ⟨by decide, rfl⟩ rfl g rfl ?_
        refine zW.go 1 95 [(2, 261), (0, x1), (0, x2), (0, x3)] [(2, 261)] _ rfl ?_
        refine w_getL (q := 261) (v := 299) rfl (by decide) (pc' := 98) rfl ⟨by decide, rfl⟩ rfl rfl (zall_at hR (by decide)) ?_
        refine zW.go 6 105 [(2, 261), (0, x1), (0, x2), (0, x3)] [(2, 261), (0, ((6 * x1) + x2)), (2, 299)] _ rfl ?_
        refine w_getL (q := 261) (v := 299) rfl (by decide) (pc' := 108) rfl ⟨by decide, rfl⟩ rfl rfl (zall_at hR (by decide)) ?_
        refine zW.go 5 114 [(2, 261), (0, x1), (0, x2), (0, x3)] [(0, ((6 * x1) + x2)), (2, 299), (0, ((6 * x1) + x2)), (2, 299)] _ rfl ?_
        obtain ⟨g, h⟩ := h
        refine w_iald (q := 299) rfl (by decide) (pc' := 115) rfl ⟨by decide, rfl⟩ rfl g rfl ?_
        refine zW.go 1 116 [(2, 261), (0, x1), (0, x2), (0, x3)] [(2, 261), (0, (mem4 299 (((6 * x1) + x2)).toNat)), (0, ((6 * x1) + x2)), (2, 299)] _ rfl ?_
        refine w_getL (q := 261) (v := 299) rfl (by decide) (pc' := 119) rfl ⟨by decide, rfl⟩ rfl rfl (zall_at hR (by decide)) ?_
        refine zW.go 5 125 [(2, 261), (0, x1), (0, x2), (0, x3)] [(0, ((6 * x1) + x3)), (2, 299), (0, (mem4 299 (((6 * x1) + x2)).toNat)), (0, ((6 * x1) + x2)), (2, 299)] _ rfl ?_
        obtain ⟨g, h⟩ := h
        refine w_iald (q := 299) rfl (by decide) (pc' := 126) rfl ⟨by decide, rfl⟩ rfl g rfl ?_
        refine zW.go 1 127 [(2, 261), (0, x1), (0, x2), (0, x3)] [(0, ((mem4 299 (((6 * x1) + x2)).toNat) + (mem4 299 (((6 * x1) + x3)).toNat))), (0, ((6 * x1) + x2)), (2, 299)] _ rfl ?_
        obtain ⟨g, h⟩ := h
        refine w_i2l rfl (by decide) (pc' := 128) rfl g ?_
        refine zW.go 1 130 [(2, 261), (0, x1), (0, x2), (0, x3)] [(0, 9), (1, ((mem4 299 (((6 * x1) + x2)).toNat) + (mem4 299 (((6 * x1) + x3)).toNat))), (0, ((6 * x1) + x2)), (2, 299)] _ rfl ?_
        refine w_calli (as := [(1, ((mem4 299 (((6 * x1) + x2)).toNat) + (mem4 299 (((6 * x1) + x3)).toNat))), (0, 9)]) [(0, ((6 * x1) + x2)), (2, 299)] 133 rfl rfl rfl rfl (Nat.le_of_ble_eq_true rfl) (Nat.le_of_ble_eq_true rfl) (Nat.le_of_ble_eq_true rfl) (Or.inl rfl) (Ci.imp h (fun r7 mem8 h => ?_))
        obtain ⟨g, h⟩ := h
        refine w_iast (q := 299) rfl (by decide) (pc' := 134) rfl ⟨by decide, rfl⟩ rfl g rfl ?_
        refine zW.go 1 135 [(2, 261), (0, x1), (0, x2), (0, x3)] [(2, 261)] _ rfl ?_
        refine w_getL (q := 261) (v := 298) rfl (by decide) (pc' := 138) rfl ⟨by decide, rfl⟩ rfl rfl (zall_at hR (by decide)) ?_
        refine zW.go 5 144 [(2, 261), (0, x1), (0, x2), (0, x3)] [(0, ((6 * x1) + x3)), (2, 298)] _ rfl ?_
        obtain ⟨g, h⟩ := h
        refine w_iald (q := 298) rfl (by decide) (pc' := 145) rfl ⟨by decide, rfl⟩ rfl g rfl ?_
        refine zW.go 1 146 [(2, 261), (0, x1), (0, x2), (0, x3)] [(2, 261), (0, (mem8 298 (((6 * x1) + x3)).toNat))] _ rfl ?_
        refine w_getL (q := 261) (v := 298) rfl (by decide) (pc' := 149) rfl ⟨by decide, rfl⟩ rfl rfl (zall_at hR (by decide)) ?_
        refine zW.go 5 155 [(2, 261), (0, x1), (0, x2), (0, x3)] [(0, ((6 * x1) + x2)), (2, 298), (0, (mem8 298 (((6 * x1) + x3)).toNat))] _ rfl ?_
        obtain ⟨g, h⟩ := h
        refine w_iald (q := 298) rfl (by decide) (pc' := 156) rfl ⟨by decide, rfl⟩ rfl g rfl ?_
        refine w_ic_le rfl (by decide) (pc' := 159) rfl h.1 (fun c9 => ?_) (fun c9 => ?_)
        · have h := h.2.1 c9
          refine zW.go 3 184 [(2, 261), (0, x1), (0, x2), (0, x3)] [(0, x3), (0, x1), (2, 261)] _ rfl ?_
          refine w_callv (as := [(2, 261), (0, x1), (0, x3)]) [] 187 rfl rfl rfl rfl (Nat.le_of_ble_eq_true rfl) (Nat.le_of_ble_eq_true rfl) (Nat.le_of_ble_eq_true rfl) (Or.inr rfl) (Cv.imp h (fun mem10 h => ?_))
          refine zW.go 2 19 [(2, 261), (0, x1), (0, x2), (0, (x3 + 1))] [] _ rfl ?_
          exact h
        · have h := h.2.2 c9
          refine zW.go 1 160 [(2, 261), (0, x1), (0, x2), (0, x3)] [(2, 261)] _ rfl ?_
          refine w_getL (q := 261) (v := 298) rfl (by decide) (pc' := 163) rfl ⟨by decide, rfl⟩ rfl rfl (zall_at hR (by decide)) ?_
          refine zW.go 6 170 [(2, 261), (0, x1), (0, x2), (0, x3)] [(2, 261), (0, ((6 * x1) + x2)), (2, 298)] _ rfl ?_
          refine w_getL (q := 261) (v := 298) rfl (by decide) (pc' := 173) rfl ⟨by decide, rfl⟩ rfl rfl (zall_at hR (by decide)) ?_
          refine zW.go 5 179 [(2, 261), (0, x1), (0, x2), (0, x3)] [(0, ((6 * x1) + x3)), (2, 298), (0, ((6 * x1) + x2)), (2, 298)] _ rfl ?_
          obtain ⟨g, h⟩ := h
          refine w_iald (q := 298) rfl (by decide) (pc' := 180) rfl ⟨by decide, rfl⟩ rfl g rfl ?_
          obtain ⟨g, h⟩ := h
          refine w_iast (q := 298) rfl (by decide) (pc' := 181) rfl ⟨by decide, rfl⟩ rfl g rfl ?_
          refine zW.go 3 184 [(2, 261), (0, x1), (0, x2), (0, x3)] [(0, x3), (0, x1), (2, 261)] _ rfl ?_
          refine w_callv (as := [(2, 261), (0, x1), (0, x3)]) [] 187 rfl rfl rfl rfl (Nat.le_of_ble_eq_true rfl) (Nat.le_of_ble_eq_true rfl) (Nat.le_of_ble_eq_true rfl) (Or.inr rfl) (Cv.imp h (fun mem11 h => ?_))
          refine zW.go 2 19 [(2, 261), (0, x1), (0, x2), (0, (x3 + 1))] [] _ rfl ?_
          exact h
      · have h := h.2.2 c6
        refine zW.go 3 19 [(2, 261), (0, x1), (0, x2), (0, (x3 + 1))] [] _ rfl ?_
        exact h
set_option maxRecDepth 4000 in
theorem s_m_joinsAll {X : zX} {d : Nat} {rf mem : zF} {Q : zF → Prop} (hR : zall rf zRK = true) {x1 : Int} (h : L_m_joinsAll_2 X d rf Q mem x1 0) : Cv X (d + 1) 262 [(2, 261), (0, x1)] rf mem Q := by
  show zW X (d + 1) 262 0 [(2, 261), (0, x1), (9, 0), (9, 0)] [] (zty, rf, mem) (qv rf Q)
  refine zW.go 2 2 [(2, 261), (0, x1), (0, 0), (9, 0)] [] _ rfl ?_
  exact h (9, 0)
def L_m_lays_103 (X : zX) (d : Nat) (rf : zF) (Q : zF → Prop) (mem : zF) (x1 : Int) (x2 : Int) (s1 : Int) (s2 : Int) : Prop := ∀ z3 : zV, zW X (d + 1) 263 103 [(2, 261), (0, x1), (0, x2), z3] [(0, s2), (0, s1), (2, 306)] (zty, rf, mem) (qv rf Q)
set_option maxRecDepth 4000 in
theorem s_m_lays_103 {X : zX} {d : Nat} {rf mem : zF} {Q : zF → Prop} (hR : zall rf zRK = true) {x1 : Int} {x2 : Int} {s1 : Int} {s2 : Int} (h : (0 ≤ s1 ∧ s1 < 10) ∧ ((0 ≤ ((6 * x1) + x2) ∧ ((6 * x1) + x2) < 132) ∧ (Ci X d 264 [(0, (mem 300 (((6 * x1) + x2)).toNat))] rf (zup mem 306 (s1).toNat s2) (fun r4 mem5 => Q (zup mem5 306 6 r4))))) : L_m_lays_103 X d rf Q mem x1 x2 s1 s2 := by
  intro z3
  obtain ⟨g, h⟩ := h
  refine w_iast (q := 306) rfl (by decide) (pc' := 104) rfl ⟨by decide, rfl⟩ rfl g rfl ?_
  refine zW.go 1 105 [(2, 261), (0, x1), (0, x2), z3] [(2, 261)] _ rfl ?_
  refine w_getL (q := 261) (v := 306) rfl (by decide) (pc' := 108) rfl ⟨by decide, rfl⟩ rfl rfl (zall_at hR (by decide)) ?_
  refine zW.go 2 111 [(2, 261), (0, x1), (0, x2), z3] [(2, 261), (0, 6), (2, 306)] _ rfl ?_
  refine w_getL (q := 261) (v := 300) rfl (by decide) (pc' := 114) rfl ⟨by decide, rfl⟩ rfl rfl (zall_at hR (by decide)) ?_
  refine zW.go 5 120 [(2, 261), (0, x1), (0, x2), z3] [(0, ((6 * x1) + x2)), (2, 300), (0, 6), (2, 306)] _ rfl ?_
  obtain ⟨g, h⟩ := h
  refine w_iald (q := 300) rfl (by decide) (pc' := 121) rfl ⟨by decide, rfl⟩ rfl g rfl ?_
  refine w_calli (as := [(0, (mem 300 (((6 * x1) + x2)).toNat))]) [(0, 6), (2, 306)] 124 rfl rfl rfl rfl (Nat.le_of_ble_eq_true rfl) (Nat.le_of_ble_eq_true rfl) (Nat.le_of_ble_eq_true rfl) (Or.inl rfl) (Ci.imp h (fun r4 mem5 h => ?_))
  refine w_iast (q := 306) rfl (by decide) (pc' := 125) rfl ⟨by decide, rfl⟩ rfl (by decide) rfl ?_
  exact w_retv rfl rfl h
set_option maxRecDepth 4000 in
theorem s_m_lays {X : zX} {d : Nat} {rf mem : zF} {Q : zF → Prop} (hR : zall rf zRK = true) {x1 : Int} {x2 : Int} (h : (0 ≤ ((6 * x1) + x2) ∧ ((6 * x1) + x2) < 132) ∧ (Ci X d 259 [(2, 261), (0, x1), (0, (mem 297 (((6 * x1) + x2)).toNat))] rf mem (fun r1 mem2 => (0 ≤ ((6 * x1) + x2) ∧ ((6 * x1) + x2) < 132) ∧ ((0 ≤ ((6 * x1) + x2) ∧ ((6 * x1) + x2) < 132) ∧ ((0 ≤ x1 ∧ x1 < 22) ∧ ((0 ≤ x2 ∧ x2 < 6) ∧ ((inI r1) ∧ ((¬ r1 = (-1) → (0 ≤ ((6 * (mem2 261 13)) + r1) ∧ ((6 * (mem2 261 13)) + r1) < 12) ∧ (L_m_lays_103 X d rf Q (zup (zup (zup (zup mem2 306 1 (mem2 298 (((6 * x1) + x2)).toNat)) 306 2 (mem2 299 (((6 * x1) + x2)).toNat)) 306 3 (mem2 293 (x1).toNat)) 306 4 (mem2 307 (x2).toNat)) x1 x2 5 (mem2 273 (((6 * (mem2 261 13)) + r1)).toNat))) ∧ (r1 = (-1) → L_m_lays_103 X d rf Q (zup (zup (zup (zup mem2 306 1 (mem2 298 (((6 * x1) + x2)).toNat)) 306 2 (mem2 299 (((6 * x1) + x2)).toNat)) 306 3 (mem2 293 (x1).toNat)) 306 4 (mem2 307 (x2).toNat)) x1 x2 5 0))))))))) : Cv X (d + 1) 263 [(2, 261), (0, x1), (0, x2)] rf mem Q := by
  show zW X (d + 1) 263 0 [(2, 261), (0, x1), (0, x2), (9, 0)] [] (zty, rf, mem) (qv rf Q)
  refine zW.go 3 3 [(2, 261), (0, x1), (0, x2), (9, 0)] [(2, 261), (0, x1), (2, 261)] _ rfl ?_
  refine w_getL (q := 261) (v := 297) rfl (by decide) (pc' := 6) rfl ⟨by decide, rfl⟩ rfl rfl (zall_at hR (by decide)) ?_
  refine zW.go 5 12 [(2, 261), (0, x1), (0, x2), (9, 0)] [(0, ((6 * x1) + x2)), (2, 297), (0, x1), (2, 261)] _ rfl ?_
  obtain ⟨g, h⟩ := h
  refine w_iald (q := 297) rfl (by decide) (pc' := 13) rfl ⟨by decide, rfl⟩ rfl g rfl ?_
  refine w_calli (as := [(2, 261), (0, x1), (0, (mem 297 (((6 * x1) + x2)).toNat))]) [] 16 rfl rfl rfl rfl (Nat.le_of_ble_eq_true rfl) (Nat.le_of_ble_eq_true rfl) (Nat.le_of_ble_eq_true rfl) (Or.inr rfl) (Ci.imp h (fun r1 mem2 h => ?_))
  refine zW.go 2 18 [(2, 261), (0, x1), (0, x2), (0, r1)] [(2, 261)] _ rfl ?_
  refine w_getL (q := 261) (v := 306) rfl (by decide) (pc' := 21) rfl ⟨by decide, rfl⟩ rfl rfl (zall_at hR (by decide)) ?_
  refine zW.go 2 23 [(2, 261), (0, x1), (0, x2), (0, r1)] [(2, 261), (0, 1), (2, 306)] _ rfl ?_
  refine w_getL (q := 261) (v := 298) rfl (by decide) (pc' := 26) rfl ⟨by decide, rfl⟩ rfl rfl (zall_at hR (by decide)) ?_
  refine zW.go 5 32 [(2, 261), (0, x1), (0, x2), (0, r1)] [(0, ((6 * x1) + x2)), (2, 298), (0, 1), (2, 306)] _ rfl ?_
  obtain ⟨g, h⟩ := h
  refine w_iald (q := 298) rfl (by decide) (pc' := 33) rfl ⟨by decide, rfl⟩ rfl g rfl ?_
  refine w_iast (q := 306) rfl (by decide) (pc' := 34) rfl ⟨by decide, rfl⟩ rfl (by decide) rfl ?_
  refine zW.go 1 35 [(2, 261), (0, x1), (0, x2), (0, r1)] [(2, 261)] _ rfl ?_
  refine w_getL (q := 261) (v := 306) rfl (by decide) (pc' := 38) rfl ⟨by decide, rfl⟩ rfl rfl (zall_at hR (by decide)) ?_
  refine zW.go 2 40 [(2, 261), (0, x1), (0, x2), (0, r1)] [(2, 261), (0, 2), (2, 306)] _ rfl ?_
  refine w_getL (q := 261) (v := 299) rfl (by decide) (pc' := 43) rfl ⟨by decide, rfl⟩ rfl rfl (zall_at hR (by decide)) ?_
  refine zW.go 5 49 [(2, 261), (0, x1), (0, x2), (0, r1)] [(0, ((6 * x1) + x2)), (2, 299), (0, 2), (2, 306)] _ rfl ?_
  obtain ⟨g, h⟩ := h
  refine w_iald (q := 299) rfl (by decide) (pc' := 50) rfl ⟨by decide, rfl⟩ rfl g rfl ?_
  refine w_iast (q := 306) rfl (by decide) (pc' := 51) rfl ⟨by decide, rfl⟩ rfl (by decide) rfl ?_
  refine zW.go 1 52 [(2, 261), (0, x1), (0, x2), (0, r1)] [(2, 261)] _ rfl ?_
  refine w_getL (q := 261) (v := 306) rfl (by decide) (pc' := 55) rfl ⟨by decide, rfl⟩ rfl rfl (zall_at hR (by decide)) ?_
  refine zW.go 2 57 [(2, 261), (0, x1), (0, x2), (0, r1)] [(2, 261), (0, 3), (2, 306)] _ rfl ?_
  refine w_getL (q := 261) (v := 293) rfl (by decide) (pc' := 60) rfl ⟨by decide, rfl⟩ rfl rfl (zall_at hR (by decide)) ?_
  refine zW.go 1 61 [(2, 261), (0, x1), (0, x2), (0, r1)] [(0, x1), (2, 293), (0, 3), (2, 306)] _ rfl ?_
  obtain ⟨g, h⟩ := h
  refine w_iald (q := 293) rfl (by decide) (pc' := 62) rfl ⟨by decide, rfl⟩ rfl g rfl ?_
  refine w_iast (q := 306) rfl (by decide) (pc' := 63) rfl ⟨by decide, rfl⟩ rfl (by decide) rfl ?_
  refine zW.go 1 64 [(2, 261), (0, x1), (0, x2), (0, r1)] [(2, 261)] _ rfl ?_
  refine w_getL (q := 261) (v := 306) rfl (by decide) (pc' := 67) rfl ⟨by decide, rfl⟩ rfl rfl (zall_at hR (by decide)) ?_
  refine zW.go 2 69 [(2, 261), (0, x1), (0, x2), (0, r1)] [(2, 261), (0, 4), (2, 306)] _ rfl ?_
  refine w_getL (q := 261) (v := 307) rfl (by decide) (pc' := 72) rfl ⟨by decide, rfl⟩ rfl rfl (zall_at hR (by decide)) ?_
  refine zW.go 1 73 [(2, 261), (0, x1), (0, x2), (0, r1)] [(0, x2), (2, 307), (0, 4), (2, 306)] _ rfl ?_
  obtain ⟨g, h⟩ := h
  refine w_iald (q := 307) rfl (by decide) (pc' := 74) rfl ⟨by decide, rfl⟩ rfl g rfl ?_
  refine w_iast (q := 306) rfl (by decide) (pc' := 75) rfl ⟨by decide, rfl⟩ rfl (by decide) rfl ?_
  refine zW.go 1 76 [(2, 261), (0, x1), (0, x2), (0, r1)] [(2, 261)] _ rfl ?_
  refine w_getL (q := 261) (v := 306) rfl (by decide) (pc' := 79) rfl ⟨by decide, rfl⟩ rfl rfl (zall_at hR (by decide)) ?_
  refine zW.go 3 82 [(2, 261), (0, x1), (0, x2), (0, r1)] [(0, (-1)), (0, r1), (0, 5), (2, 306)] _ rfl ?_
  refine w_ic_ne rfl (by decide) (pc' := 85) rfl ⟨h.1, by decide⟩ (fun c3 => ?_) (fun c3 => ?_)
  · have h := h.2.1 c3
    refine zW.go 1 90 [(2, 261), (0, x1), (0, x2), (0, r1)] [(2, 261), (0, 5), (2, 306)] _ rfl ?_
    refine w_getL (q := 261) (v := 273) rfl (by decide) (pc' := 93) rfl ⟨by decide, rfl⟩ rfl rfl (zall_at hR (by decide)) ?_
    refine zW.go 2 96 [(2, 261), (0, x1), (0, x2), (0, r1)] [(2, 261), (0, 6), (2, 273), (0, 5), (2, 306)] _ rfl ?_
    refine w_getI (q := 261) rfl (by decide) (pc' := 99) rfl ⟨by decide, rfl⟩ rfl (by decide) ?_
    refine zW.go 3 102 [(2, 261), (0, x1), (0, x2), (0, r1)] [(0, ((6 * (mem2 261 13)) + r1)), (2, 273), (0, 5), (2, 306)] _ rfl ?_
    obtain ⟨g, h⟩ := h
    refine w_iald (q := 273) rfl (by decide) (pc' := 103) rfl ⟨by decide, rfl⟩ rfl g rfl ?_
    exact h (0, r1)
  · have h := h.2.2 c3
    refine zW.go 2 103 [(2, 261), (0, x1), (0, x2), (0, r1)] [(0, 0), (0, 5), (2, 306)] _ rfl ?_
    exact h (0, r1)
def L_m_bits_4 (X : zX) (d : Nat) (rf : zF) (Q : Int → zF → Prop) (mem : zF) (x1 : Int) (x2 : Int) : Prop := ∀ z0 : zV, z0.1 ≠ 1 → zW X d 264 4 [z0, (0, x1), (0, x2)] [] (zty, rf, mem) (qi rf Q)
set_option maxRecDepth 4000 in
theorem s_m_bits_4 {X : zX} {d : Nat} {rf mem : zF} {Q : Int → zF → Prop} (hR : zall rf zRK = true) {x1 : Int} {x2 : Int} (h : (inI x2) ∧ ((x2 = 0 → Q x1 mem) ∧ (¬ x2 = 0 → L_m_bits_4 X d rf Q mem (x1 + 1) (zand x2 (x2 - 1))))) : L_m_bits_4 X d rf Q mem x1 x2 := by
  intro z0 hz0
  refine zW.go 1 5 [z0, (0, x1), (0, x2)] [(0, x2)] _ rfl ?_
  refine w_if_eq rfl (by decide) (pc' := 8) rfl h.1 (fun c1 => ?_) (fun c1 => ?_)
  · have h := h.2.1 c1
    refine zW.go 1 21 [z0, (0, x1), (0, x2)] [(0, x1)] _ rfl ?_
    exact w_reti rfl rfl h
  · have h := h.2.2 c1
    refine zW.step 11 [z0, (0, (x1 + 1)), (0, x2)] [] _ rfl (by decide) (by decide) (by show some (_, zst1 [z0, (0, x1), (0, x2)] 1 _, _, _) = _; rw [zst1_z (ls := [z0, (0, x1), (0, x2)]) (i := 1) hz0]; rfl) ?_
    refine zW.go 7 4 [z0, (0, (x1 + 1)), (0, (zand x2 (x2 - 1)))] [] _ rfl ?_
    exact h z0 hz0
set_option maxRecDepth 4000 in
theorem s_m_bits {X : zX} {d : Nat} {rf mem : zF} {Q : Int → zF → Prop} (hR : zall rf zRK = true) {x0 : Int} (h : L_m_bits_4 X d rf Q mem 0 x0) : Ci X d 264 [(0, x0)] rf mem Q := by
  show zW X d 264 0 [(0, x0), (9, 0), (9, 0)] [] (zty, rf, mem) (qi rf Q)
  refine zW.go 4 4 [(0, x0), (0, 0), (0, x0)] [] _ rfl ?_
  exact h (0, x0) (by show (0 : Nat) ≠ 1; decide)
def L_m_writesDown_66 (X : zX) (d : Nat) (rf : zF) (Q : zF → Prop) (mem : zF) (x1 : Int) (x2 : Int) (x3 : Int) : Prop := ∀ z4 : zV, zW X (d + 1) 265 66 [(2, 261), (0, x1), (0, x2), (0, x3), z4] [] (zty, rf, mem) (qv rf Q)
def L_m_writesDown_18 (X : zX) (d : Nat) (rf : zF) (Q : zF → Prop) (mem : zF) (x1 : Int) (x2 : Int) (x3 : Int) (x4 : Int) : Prop := zW X (d + 1) 265 18 [(2, 261), (0, x1), (0, x2), (0, x3), (0, x4)] [] (zty, rf, mem) (qv rf Q)
set_option maxRecDepth 4000 in
theorem s_m_writesDown_66 {X : zX} {d : Nat} {rf mem : zF} {Q : zF → Prop} (hR : zall rf zRK = true) {x1 : Int} {x2 : Int} {x3 : Int} (h : (0 ≤ x1 ∧ x1 < 22) ∧ ((0 ≤ x1 ∧ x1 < 22) ∧ ((0 ≤ (4 * ((40 * x1) + (mem 303 (x1).toNat))) ∧ (4 * ((40 * x1) + (mem 303 (x1).toNat))) < 3520) ∧ ((0 ≤ ((4 * ((40 * x1) + (mem 303 (x1).toNat))) + 1) ∧ ((4 * ((40 * x1) + (mem 303 (x1).toNat))) + 1) < 3520) ∧ ((0 ≤ ((4 * ((40 * x1) + (mem 303 (x1).toNat))) + 2) ∧ ((4 * ((40 * x1) + (mem 303 (x1).toNat))) + 2) < 3520) ∧ ((0 ≤ ((6 * x1) + x2) ∧ ((6 * x1) + x2) < 132) ∧ (Ci X d 264 [(0, (mem 300 (((6 * x1) + x2)).toNat))] rf (zup (zup (zup mem 304 ((4 * ((40 * x1) + (mem 303 (x1).toNat)))).toNat (mem 293 (x1).toNat)) 304 (((4 * ((40 * x1) + (mem 303 (x1).toNat))) + 1)).toNat x2) 304 (((4 * ((40 * x1) + (mem 303 (x1).toNat))) + 2)).toNat x3) (fun r2 mem3 => (0 ≤ ((4 * ((40 * x1) + (mem 303 (x1).toNat))) + 3) ∧ ((4 * ((40 * x1) + (mem 303 (x1).toNat))) + 3) < 3520) ∧ ((0 ≤ x1 ∧ x1 < 22) ∧ ((0 ≤ x1 ∧ x1 < 22) ∧ (Q (zup (zup mem3 304 (((4 * ((40 * x1) + (mem 303 (x1).toNat))) + 3)).toNat r2) 303 (x1).toNat ((mem3 303 (x1).toNat) + 1))))))))))))) : L_m_writesDown_66 X d rf Q mem x1 x2 x3 := by
  intro z4
  refine zW.go 5 72 [(2, 261), (0, x1), (0, x2), (0, x3), z4] [(2, 261), (0, (40 * x1)), (0, 4)] _ rfl ?_
  refine w_getL (q := 261) (v := 303) rfl (by decide) (pc' := 75) rfl ⟨by decide, rfl⟩ rfl rfl (zall_at hR (by decide)) ?_
  refine zW.go 1 76 [(2, 261), (0, x1), (0, x2), (0, x3), z4] [(0, x1), (2, 303), (0, (40 * x1)), (0, 4)] _ rfl ?_
  obtain ⟨g, h⟩ := h
  refine w_iald (q := 303) rfl (by decide) (pc' := 77) rfl ⟨by decide, rfl⟩ rfl g rfl ?_
  refine zW.go 4 82 [(2, 261), (0, x1), (0, x2), (0, x3), (0, (4 * ((40 * x1) + (mem 303 (x1).toNat))))] [(2, 261)] _ rfl ?_
  refine w_getL (q := 261) (v := 304) rfl (by decide) (pc' := 85) rfl ⟨by decide, rfl⟩ rfl rfl (zall_at hR (by decide)) ?_
  refine zW.go 2 88 [(2, 261), (0, x1), (0, x2), (0, x3), (0, (4 * ((40 * x1) + (mem 303 (x1).toNat))))] [(2, 261), (0, (4 * ((40 * x1) + (mem 303 (x1).toNat)))), (2, 304)] _ rfl ?_
  refine w_getL (q := 261) (v := 293) rfl (by decide) (pc' := 91) rfl ⟨by decide, rfl⟩ rfl rfl (zall_at hR (by decide)) ?_
  refine zW.go 1 92 [(2, 261), (0, x1), (0, x2), (0, x3), (0, (4 * ((40 * x1) + (mem 303 (x1).toNat))))] [(0, x1), (2, 293), (0, (4 * ((40 * x1) + (mem 303 (x1).toNat)))), (2, 304)] _ rfl ?_
  obtain ⟨g, h⟩ := h
  refine w_iald (q := 293) rfl (by decide) (pc' := 93) rfl ⟨by decide, rfl⟩ rfl g rfl ?_
  obtain ⟨g, h⟩ := h
  refine w_iast (q := 304) rfl (by decide) (pc' := 94) rfl ⟨by decide, rfl⟩ rfl g rfl ?_
  refine zW.go 1 95 [(2, 261), (0, x1), (0, x2), (0, x3), (0, (4 * ((40 * x1) + (mem 303 (x1).toNat))))] [(2, 261)] _ rfl ?_
  refine w_getL (q := 261) (v := 304) rfl (by decide) (pc' := 98) rfl ⟨by decide, rfl⟩ rfl rfl (zall_at hR (by decide)) ?_
  refine zW.go 4 103 [(2, 261), (0, x1), (0, x2), (0, x3), (0, (4 * ((40 * x1) + (mem 303 (x1).toNat))))] [(0, x2), (0, ((4 * ((40 * x1) + (mem 303 (x1).toNat))) + 1)), (2, 304)] _ rfl ?_
  obtain ⟨g, h⟩ := h
  refine w_iast (q := 304) rfl (by decide) (pc' := 104) rfl ⟨by decide, rfl⟩ rfl g rfl ?_
  refine zW.go 1 105 [(2, 261), (0, x1), (0, x2), (0, x3), (0, (4 * ((40 * x1) + (mem 303 (x1).toNat))))] [(2, 261)] _ rfl ?_
  refine w_getL (q := 261) (v := 304) rfl (by decide) (pc' := 108) rfl ⟨by decide, rfl⟩ rfl rfl (zall_at hR (by decide)) ?_
  refine zW.go 4 113 [(2, 261), (0, x1), (0, x2), (0, x3), (0, (4 * ((40 * x1) + (mem 303 (x1).toNat))))] [(0, x3), (0, ((4 * ((40 * x1) + (mem 303 (x1).toNat))) + 2)), (2, 304)] _ rfl ?_
  obtain ⟨g, h⟩ := h
  refine w_iast (q := 304) rfl (by decide) (pc' := 114) rfl ⟨by decide, rfl⟩ rfl g rfl ?_
  refine zW.go 1 115 [(2, 261), (0, x1), (0, x2), (0, x3), (0, (4 * ((40 * x1) + (mem 303 (x1).toNat))))] [(2, 261)] _ rfl ?_
  refine w_getL (q := 261) (v := 304) rfl (by decide) (pc' := 118) rfl ⟨by decide, rfl⟩ rfl rfl (zall_at hR (by decide)) ?_
  refine zW.go 4 123 [(2, 261), (0, x1), (0, x2), (0, x3), (0, (4 * ((40 * x1) + (mem 303 (x1).toNat))))] [(2, 261), (0, ((4 * ((40 * x1) + (mem 303 (x1).toNat))) + 3)), (2, 304)] _ rfl ?_
  refine w_getL (q := 261) (v := 300) rfl (by decide) (pc' := 126) rfl ⟨by decide, rfl⟩ rfl rfl (zall_at hR (by decide)) ?_
  refine zW.go 5 132 [(2, 261), (0, x1), (0, x2), (0, x3), (0, (4 * ((40 * x1) + (mem 303 (x1).toNat))))] [(0, ((6 * x1) + x2)), (2, 300), (0, ((4 * ((40 * x1) + (mem 303 (x1).toNat))) + 3)), (2, 304)] _ rfl ?_
  obtain ⟨g, h⟩ := h
  refine w_iald (q := 300) rfl (by decide) (pc' := 133) rfl ⟨by decide, rfl⟩ rfl g rfl ?_
  refine w_calli (as := [(0, (mem 300 (((6 * x1) + x2)).toNat))]) [(0, ((4 * ((40 * x1) + (mem 303 (x1).toNat))) + 3)), (2, 304)] 136 rfl rfl rfl rfl (Nat.le_of_ble_eq_true rfl) (Nat.le_of_ble_eq_true rfl) (Nat.le_of_ble_eq_true rfl) (Or.inl rfl) (Ci.imp h (fun r2 mem3 h => ?_))
  obtain ⟨g, h⟩ := h
  refine w_iast (q := 304) rfl (by decide) (pc' := 137) rfl ⟨by decide, rfl⟩ rfl g rfl ?_
  refine zW.go 1 138 [(2, 261), (0, x1), (0, x2), (0, x3), (0, (4 * ((40 * x1) + (mem 303 (x1).toNat))))] [(2, 261)] _ rfl ?_
  refine w_getL (q := 261) (v := 303) rfl (by decide) (pc' := 141) rfl ⟨by decide, rfl⟩ rfl rfl (zall_at hR (by decide)) ?_
  refine zW.go 2 143 [(2, 261), (0, x1), (0, x2), (0, x3), (0, (4 * ((40 * x1) + (mem 303 (x1).toNat))))] [(0, x1), (2, 303), (0, x1), (2, 303)] _ rfl ?_
  obtain ⟨g, h⟩ := h
  refine w_iald (q := 303) rfl (by decide) (pc' := 144) rfl ⟨by decide, rfl⟩ rfl g rfl ?_
  refine zW.go 2 146 [(2, 261), (0, x1), (0, x2), (0, x3), (0, (4 * ((40 * x1) + (mem 303 (x1).toNat))))] [(0, ((mem3 303 (x1).toNat) + 1)), (0, x1), (2, 303)] _ rfl ?_
  obtain ⟨g, h⟩ := h
  refine w_iast (q := 303) rfl (by decide) (pc' := 147) rfl ⟨by decide, rfl⟩ rfl g rfl ?_
  exact w_retv rfl rfl h
set_option maxRecDepth 4000 in
theorem s_m_writesDown_18 {X : zX} {d : Nat} {rf mem : zF} {Q : zF → Prop} (hR : zall rf zRK = true) {x1 : Int} {x2 : Int} {x3 : Int} {x4 : Int} (h : (inI x4 ∧ inI (((160 * x1) + 160) - 4)) ∧ (((((160 * x1) + 160) - 4) ≤ x4 → (0 ≤ x1 ∧ x1 < 22) ∧ ((0 ≤ x1 ∧ x1 < 22) ∧ (L_m_writesDown_66 X d rf Q (zup mem 303 (x1).toNat ((mem 303 (x1).toNat) - 1)) x1 x2 x3))) ∧ (¬ (((160 * x1) + 160) - 4) ≤ x4 → (0 ≤ (x4 + 4) ∧ (x4 + 4) < 3520) ∧ ((0 ≤ x4 ∧ x4 < 3520) ∧ (L_m_writesDown_18 X d rf Q (zup mem 304 (x4).toNat (mem 304 ((x4 + 4)).toNat)) x1 x2 x3 (x4 + 1)))))) : L_m_writesDown_18 X d rf Q mem x1 x2 x3 x4 := by
  refine zW.go 8 31 [(2, 261), (0, x1), (0, x2), (0, x3), (0, x4)] [(0, (((160 * x1) + 160) - 4)), (0, x4)] _ rfl ?_
  refine w_ic_ge rfl (by decide) (pc' := 34) rfl h.1 (fun c4 => ?_) (fun c4 => ?_)
  · have h := h.2.1 c4
    refine zW.go 1 57 [(2, 261), (0, x1), (0, x2), (0, x3), (0, x4)] [(2, 261)] _ rfl ?_
    refine w_getL (q := 261) (v := 303) rfl (by decide) (pc' := 60) rfl ⟨by decide, rfl⟩ rfl rfl (zall_at hR (by decide)) ?_
    refine zW.go 2 62 [(2, 261), (0, x1), (0, x2), (0, x3), (0, x4)] [(0, x1), (2, 303), (0, x1), (2, 303)] _ rfl ?_
    obtain ⟨g, h⟩ := h
    refine w_iald (q := 303) rfl (by decide) (pc' := 63) rfl ⟨by decide, rfl⟩ rfl g rfl ?_
    refine zW.go 2 65 [(2, 261), (0, x1), (0, x2), (0, x3), (0, x4)] [(0, ((mem 303 (x1).toNat) - 1)), (0, x1), (2, 303)] _ rfl ?_
    obtain ⟨g, h⟩ := h
    refine w_iast (q := 303) rfl (by decide) (pc' := 66) rfl ⟨by decide, rfl⟩ rfl g rfl ?_
    exact h (0, x4)
  · have h := h.2.2 c4
    refine zW.go 1 35 [(2, 261), (0, x1), (0, x2), (0, x3), (0, x4)] [(2, 261)] _ rfl ?_
    refine w_getL (q := 261) (v := 304) rfl (by decide) (pc' := 38) rfl ⟨by decide, rfl⟩ rfl rfl (zall_at hR (by decide)) ?_
    refine zW.go 2 41 [(2, 261), (0, x1), (0, x2), (0, x3), (0, x4)] [(2, 261), (0, x4), (2, 304)] _ rfl ?_
    refine w_getL (q := 261) (v := 304) rfl (by decide) (pc' := 44) rfl ⟨by decide, rfl⟩ rfl rfl (zall_at hR (by decide)) ?_
    refine zW.go 3 48 [(2, 261), (0, x1), (0, x2), (0, x3), (0, x4)] [(0, (x4 + 4)), (2, 304), (0, x4), (2, 304)] _ rfl ?_
    obtain ⟨g, h⟩ := h
    refine w_iald (q := 304) rfl (by decide) (pc' := 49) rfl ⟨by decide, rfl⟩ rfl g rfl ?_
    obtain ⟨g, h⟩ := h
    refine w_iast (q := 304) rfl (by decide) (pc' := 50) rfl ⟨by decide, rfl⟩ rfl g rfl ?_
    refine zW.go 2 18 [(2, 261), (0, x1), (0, x2), (0, x3), (0, (x4 + 1))] [] _ rfl ?_
    exact h
set_option maxRecDepth 4000 in
theorem s_m_writesDown {X : zX} {d : Nat} {rf mem : zF} {Q : zF → Prop} (hR : zall rf zRK = true) {x1 : Int} {x2 : Int} {x3 : Int} (h : (0 ≤ x1 ∧ x1 < 22) ∧ ((inI (mem 303 (x1).toNat)) ∧ ((¬ (mem 303 (x1).toNat) = 40 → L_m_writesDown_66 X d rf Q mem x1 x2 x3) ∧ ((mem 303 (x1).toNat) = 40 → L_m_writesDown_18 X d rf Q mem x1 x2 x3 (160 * x1))))) : Cv X (d + 1) 265 [(2, 261), (0, x1), (0, x2), (0, x3)] rf mem Q := by
  show zW X (d + 1) 265 0 [(2, 261), (0, x1), (0, x2), (0, x3), (9, 0)] [] (zty, rf, mem) (qv rf Q)
  refine zW.go 1 1 [(2, 261), (0, x1), (0, x2), (0, x3), (9, 0)] [(2, 261)] _ rfl ?_
  refine w_getL (q := 261) (v := 303) rfl (by decide) (pc' := 4) rfl ⟨by decide, rfl⟩ rfl rfl (zall_at hR (by decide)) ?_
  refine zW.go 1 5 [(2, 261), (0, x1), (0, x2), (0, x3), (9, 0)] [(0, x1), (2, 303)] _ rfl ?_
  obtain ⟨g, h⟩ := h
  refine w_iald (q := 303) rfl (by decide) (pc' := 6) rfl ⟨by decide, rfl⟩ rfl g rfl ?_
  refine zW.go 1 8 [(2, 261), (0, x1), (0, x2), (0, x3), (9, 0)] [(0, 40), (0, (mem 303 (x1).toNat))] _ rfl ?_
  refine w_ic_ne rfl (by decide) (pc' := 11) rfl ⟨h.1, by decide⟩ (fun c1 => ?_) (fun c1 => ?_)
  · have h := h.2.1 c1
    exact h (9, 0)
  · have h := h.2.2 c1
    refine zW.go 4 18 [(2, 261), (0, x1), (0, x2), (0, x3), (0, (160 * x1))] [] _ rfl ?_
    exact h
def L_m_burst_20 (X : zX) (d : Nat) (rf : zF) (Q : zF → Prop) (mem : zF) (x1 : Int) (x2 : Int) (x3 : Int) (x4 : Int) : Prop := zW X (d + 1) 266 20 [(2, 261), (0, x1), (0, x2), (0, x3), (0, x4)] [] (zty, rf, mem) (qv rf Q)
set_option maxRecDepth 4000 in
theorem s_m_burst_20 {X : zX} {d : Nat} {rf mem : zF} {Q : zF → Prop} (hR : zall rf zRK = true) {x1 : Int} {x2 : Int} {x3 : Int} {x4 : Int} (h : (0 ≤ (mem 261 13) ∧ (mem 261 13) < 2) ∧ ((inI x4 ∧ inI (mem 274 ((mem 261 13)).toNat)) ∧ (((mem 274 ((mem 261 13)).toNat) ≤ x4 → Cv X d 265 [(2, 261), (0, x1), (0, x2), (0, x3)] rf mem (fun mem4 => Cv X d 261 [(2, 261), (0, x1), (0, x2)] rf mem4 (fun mem5 => Q mem5))) ∧ (¬ (mem 274 ((mem 261 13)).toNat) ≤ x4 → (0 ≤ ((6 * x1) + x2) ∧ ((6 * x1) + x2) < 132) ∧ (Ci X d 223 [(0, (mem 300 (((6 * x1) + x2)).toNat)), (0, x4)] rf mem (fun r6 mem7 => (inI r6) ∧ ((r6 = 0 → L_m_burst_20 X d rf Q mem7 x1 x2 x3 (x4 + 1)) ∧ (¬ r6 = 0 → (0 ≤ ((6 * x1) + x4) ∧ ((6 * x1) + x4) < 132) ∧ (L_m_burst_20 X d rf Q (zup mem7 301 (((6 * x1) + x4)).toNat x3) x1 x2 x3 (x4 + 1)))))))))) : L_m_burst_20 X d rf Q mem x1 x2 x3 x4 := by
  refine zW.go 2 23 [(2, 261), (0, x1), (0, x2), (0, x3), (0, x4)] [(2, 261), (0, x4)] _ rfl ?_
  refine w_getL (q := 261) (v := 274) rfl (by decide) (pc' := 26) rfl ⟨by decide, rfl⟩ rfl rfl (zall_at hR (by decide)) ?_
  refine zW.go 1 27 [(2, 261), (0, x1), (0, x2), (0, x3), (0, x4)] [(2, 261), (2, 274), (0, x4)] _ rfl ?_
  refine w_getI (q := 261) rfl (by decide) (pc' := 30) rfl ⟨by decide, rfl⟩ rfl (by decide) ?_
  obtain ⟨g, h⟩ := h
  refine w_iald (q := 274) rfl (by decide) (pc' := 31) rfl ⟨by decide, rfl⟩ rfl g rfl ?_
  refine w_ic_ge rfl (by decide) (pc' := 34) rfl h.1 (fun c3 => ?_) (fun c3 => ?_)
  · have h := h.2.1 c3
    refine zW.go 4 76 [(2, 261), (0, x1), (0, x2), (0, x3), (0, x4)] [(0, x3), (0, x2), (0, x1), (2, 261)] _ rfl ?_
    refine w_callv (as := [(2, 261), (0, x1), (0, x2), (0, x3)]) [] 79 rfl rfl rfl rfl (Nat.le_of_ble_eq_true rfl) (Nat.le_of_ble_eq_true rfl) (Nat.le_of_ble_eq_true rfl) (Or.inr rfl) (Cv.imp h (fun mem4 h => ?_))
    refine zW.go 3 82 [(2, 261), (0, x1), (0, x2), (0, x3), (0, x4)] [(0, x2), (0, x1), (2, 261)] _ rfl ?_
    refine w_callv (as := [(2, 261), (0, x1), (0, x2)]) [] 85 rfl rfl rfl rfl (Nat.le_of_ble_eq_true rfl) (Nat.le_of_ble_eq_true rfl) (Nat.le_of_ble_eq_true rfl) (Or.inr rfl) (Cv.imp h (fun mem5 h => ?_))
    exact w_retv rfl rfl h
  · have h := h.2.2 c3
    refine zW.go 1 35 [(2, 261), (0, x1), (0, x2), (0, x3), (0, x4)] [(2, 261)] _ rfl ?_
    refine w_getL (q := 261) (v := 300) rfl (by decide) (pc' := 38) rfl ⟨by decide, rfl⟩ rfl rfl (zall_at hR (by decide)) ?_
    refine zW.go 5 44 [(2, 261), (0, x1), (0, x2), (0, x3), (0, x4)] [(0, ((6 * x1) + x2)), (2, 300)] _ rfl ?_
    obtain ⟨g, h⟩ := h
    refine w_iald (q := 300) rfl (by decide) (pc' := 45) rfl ⟨by decide, rfl⟩ rfl g rfl ?_
    refine zW.go 1 47 [(2, 261), (0, x1), (0, x2), (0, x3), (0, x4)] [(0, x4), (0, (mem 300 (((6 * x1) + x2)).toNat))] _ rfl ?_
    refine w_calli (as := [(0, (mem 300 (((6 * x1) + x2)).toNat)), (0, x4)]) [] 50 rfl rfl rfl rfl (Nat.le_of_ble_eq_true rfl) (Nat.le_of_ble_eq_true rfl) (Nat.le_of_ble_eq_true rfl) (Or.inl rfl) (Ci.imp h (fun r6 mem7 h => ?_))
    refine w_if_eq rfl (by decide) (pc' := 53) rfl h.1 (fun c8 => ?_) (fun c8 => ?_)
    · have h := h.2.1 c8
      refine zW.go 2 20 [(2, 261), (0, x1), (0, x2), (0, x3), (0, (x4 + 1))] [] _ rfl ?_
      exact h
    · have h := h.2.2 c8
      refine zW.go 1 54 [(2, 261), (0, x1), (0, x2), (0, x3), (0, x4)] [(2, 261)] _ rfl ?_
      refine w_getL (q := 261) (v := 301) rfl (by decide) (pc' := 57) rfl ⟨by decide, rfl⟩ rfl rfl (zall_at hR (by decide)) ?_
      refine zW.go 6 65 [(2, 261), (0, x1), (0, x2), (0, x3), (0, x4)] [(0, x3), (0, ((6 * x1) + x4)), (2, 301)] _ rfl ?_
      obtain ⟨g, h⟩ := h
      refine w_iast (q := 301) rfl (by decide) (pc' := 66) rfl ⟨by decide, rfl⟩ rfl g rfl ?_
      refine zW.go 2 20 [(2, 261), (0, x1), (0, x2), (0, x3), (0, (x4 + 1))] [] _ rfl ?_
      exact h
set_option maxRecDepth 4000 in
theorem s_m_burst {X : zX} {d : Nat} {rf mem : zF} {Q : zF → Prop} (hR : zall rf zRK = true) {x1 : Int} {x2 : Int} (h : (0 ≤ ((6 * x1) + x2) ∧ ((6 * x1) + x2) < 132) ∧ (Ci X d 259 [(2, 261), (0, x1), (0, (mem 297 (((6 * x1) + x2)).toNat))] rf mem (fun r1 mem2 => L_m_burst_20 X d rf Q mem2 x1 x2 r1 0))) : Cv X (d + 1) 266 [(2, 261), (0, x1), (0, x2)] rf mem Q := by
  show zW X (d + 1) 266 0 [(2, 261), (0, x1), (0, x2), (9, 0), (9, 0)] [] (zty, rf, mem) (qv rf Q)
  refine zW.go 3 3 [(2, 261), (0, x1), (0, x2), (9, 0), (9, 0)] [(2, 261), (0, x1), (2, 261)] _ rfl ?_
  refine w_getL (q := 261) (v := 297) rfl (by decide) (pc' := 6) rfl ⟨by decide, rfl⟩ rfl rfl (zall_at hR (by decide)) ?_
  refine zW.go 5 12 [(2, 261), (0, x1), (0, x2), (9, 0), (9, 0)] [(0, ((6 * x1) + x2)), (2, 297), (0, x1), (2, 261)] _ rfl ?_
  obtain ⟨g, h⟩ := h
  refine w_iald (q := 297) rfl (by decide) (pc' := 13) rfl ⟨by decide, rfl⟩ rfl g rfl ?_
  refine w_calli (as := [(2, 261), (0, x1), (0, (mem 297 (((6 * x1) + x2)).toNat))]) [] 16 rfl rfl rfl rfl (Nat.le_of_ble_eq_true rfl) (Nat.le_of_ble_eq_true rfl) (Nat.le_of_ble_eq_true rfl) (Or.inr rfl) (Ci.imp h (fun r1 mem2 h => ?_))
  refine zW.go 3 20 [(2, 261), (0, x1), (0, x2), (0, r1), (0, 0)] [] _ rfl ?_
  exact h
def L_m_shines_45 (X : zX) (d : Nat) (rf : zF) (Q : zF → Prop) (mem : zF) (x1 : Int) (x2 : Int) (x3 : Int) (x4 : Int) : Prop := zW X (d + 1) 267 45 [(2, 261), (0, x1), (0, x2), (0, x3), (0, x4)] [] (zty, rf, mem) (qv rf Q)
set_option maxRecDepth 4000 in
theorem s_m_shines_45 {X : zX} {d : Nat} {rf mem : zF} {Q : zF → Prop} (hR : zall rf zRK = true) {x1 : Int} {x2 : Int} {x3 : Int} {x4 : Int} (h : (0 ≤ (mem 261 13) ∧ (mem 261 13) < 2) ∧ ((inI x4 ∧ inI (mem 274 ((mem 261 13)).toNat)) ∧ (((mem 274 ((mem 261 13)).toNat) ≤ x4 → Q mem) ∧ (¬ (mem 274 ((mem 261 13)).toNat) ≤ x4 → (0 ≤ ((6 * x1) + x2) ∧ ((6 * x1) + x2) < 132) ∧ (Ci X d 223 [(0, (mem 300 (((6 * x1) + x2)).toNat)), (0, x4)] rf mem (fun r10 mem11 => (inI r10) ∧ ((r10 = 0 → L_m_shines_45 X d rf Q mem11 x1 x2 x3 (x4 + 1)) ∧ (¬ r10 = 0 → (0 ≤ ((6 * x1) + x4) ∧ ((6 * x1) + x4) < 132) ∧ ((inI ((mem11 302 (((6 * x1) + x4)).toNat) + x3)) ∧ (Ci X d 252 [(1, ((mem11 302 (((6 * x1) + x4)).toNat) + x3)), (0, 999)] rf mem11 (fun r13 mem14 => (0 ≤ ((6 * x1) + x4) ∧ ((6 * x1) + x4) < 132) ∧ (L_m_shines_45 X d rf Q (zup mem14 302 (((6 * x1) + x4)).toNat r13) x1 x2 x3 (x4 + 1))))))))))))) : L_m_shines_45 X d rf Q mem x1 x2 x3 x4 := by
  refine zW.go 2 48 [(2, 261), (0, x1), (0, x2), (0, x3), (0, x4)] [(2, 261), (0, x4)] _ rfl ?_
  refine w_getL (q := 261) (v := 274) rfl (by decide) (pc' := 51) rfl ⟨by decide, rfl⟩ rfl rfl (zall_at hR (by decide)) ?_
  refine zW.go 1 52 [(2, 261), (0, x1), (0, x2), (0, x3), (0, x4)] [(2, 261), (2, 274), (0, x4)] _ rfl ?_
  refine w_getI (q := 261) rfl (by decide) (pc' := 55) rfl ⟨by decide, rfl⟩ rfl (by decide) ?_
  obtain ⟨g, h⟩ := h
  refine w_iald (q := 274) rfl (by decide) (pc' := 56) rfl ⟨by decide, rfl⟩ rfl g rfl ?_
  refine w_ic_ge rfl (by decide) (pc' := 59) rfl h.1 (fun c9 => ?_) (fun c9 => ?_)
  · have h := h.2.1 c9
    exact w_retv rfl rfl h
  · have h := h.2.2 c9
    refine zW.go 1 60 [(2, 261), (0, x1), (0, x2), (0, x3), (0, x4)] [(2, 261)] _ rfl ?_
    refine w_getL (q := 261) (v := 300) rfl (by decide) (pc' := 63) rfl ⟨by decide, rfl⟩ rfl rfl (zall_at hR (by decide)) ?_
    refine zW.go 5 69 [(2, 261), (0, x1), (0, x2), (0, x3), (0, x4)] [(0, ((6 * x1) + x2)), (2, 300)] _ rfl ?_
    obtain ⟨g, h⟩ := h
    refine w_iald (q := 300) rfl (by decide) (pc' := 70) rfl ⟨by decide, rfl⟩ rfl g rfl ?_
    refine zW.go 1 72 [(2, 261), (0, x1), (0, x2), (0, x3), (0, x4)] [(0, x4), (0, (mem 300 (((6 * x1) + x2)).toNat))] _ rfl ?_
    refine w_calli (as := [(0, (mem 300 (((6 * x1) + x2)).toNat)), (0, x4)]) [] 75 rfl rfl rfl rfl (Nat.le_of_ble_eq_true rfl) (Nat.le_of_ble_eq_true rfl) (Nat.le_of_ble_eq_true rfl) (Or.inl rfl) (Ci.imp h (fun r10 mem11 h => ?_))
    refine w_if_eq rfl (by decide) (pc' := 78) rfl h.1 (fun c12 => ?_) (fun c12 => ?_)
    · have h := h.2.1 c12
      refine zW.go 2 45 [(2, 261), (0, x1), (0, x2), (0, x3), (0, (x4 + 1))] [] _ rfl ?_
      exact h
    · have h := h.2.2 c12
      refine zW.go 1 79 [(2, 261), (0, x1), (0, x2), (0, x3), (0, x4)] [(2, 261)] _ rfl ?_
      refine w_getL (q := 261) (v := 302) rfl (by decide) (pc' := 82) rfl ⟨by decide, rfl⟩ rfl rfl (zall_at hR (by decide)) ?_
      refine zW.go 6 90 [(2, 261), (0, x1), (0, x2), (0, x3), (0, x4)] [(2, 261), (0, ((6 * x1) + x4)), (2, 302)] _ rfl ?_
      refine w_getL (q := 261) (v := 302) rfl (by decide) (pc' := 93) rfl ⟨by decide, rfl⟩ rfl rfl (zall_at hR (by decide)) ?_
      refine zW.go 5 100 [(2, 261), (0, x1), (0, x2), (0, x3), (0, x4)] [(0, ((6 * x1) + x4)), (2, 302), (0, ((6 * x1) + x4)), (2, 302)] _ rfl ?_
      obtain ⟨g, h⟩ := h
      refine w_iald (q := 302) rfl (by decide) (pc' := 101) rfl ⟨by decide, rfl⟩ rfl g rfl ?_
      refine zW.go 2 103 [(2, 261), (0, x1), (0, x2), (0, x3), (0, x4)] [(0, ((mem11 302 (((6 * x1) + x4)).toNat) + x3)), (0, ((6 * x1) + x4)), (2, 302)] _ rfl ?_
      obtain ⟨g, h⟩ := h
      refine w_i2l rfl (by decide) (pc' := 104) rfl g ?_
      refine zW.go 1 107 [(2, 261), (0, x1), (0, x2), (0, x3), (0, x4)] [(0, 999), (1, ((mem11 302 (((6 * x1) + x4)).toNat) + x3)), (0, ((6 * x1) + x4)), (2, 302)] _ rfl ?_
      refine w_calli (as := [(1, ((mem11 302 (((6 * x1) + x4)).toNat) + x3)), (0, 999)]) [(0, ((6 * x1) + x4)), (2, 302)] 110 rfl rfl rfl rfl (Nat.le_of_ble_eq_true rfl) (Nat.le_of_ble_eq_true rfl) (Nat.le_of_ble_eq_true rfl) (Or.inl rfl) (Ci.imp h (fun r13 mem14 h => ?_))
      obtain ⟨g, h⟩ := h
      refine w_iast (q := 302) rfl (by decide) (pc' := 111) rfl ⟨by decide, rfl⟩ rfl g rfl ?_
      refine zW.go 2 45 [(2, 261), (0, x1), (0, x2), (0, x3), (0, (x4 + 1))] [] _ rfl ?_
      exact h
set_option maxRecDepth 4000 in
theorem s_m_shines {X : zX} {d : Nat} {rf mem : zF} {Q : zF → Prop} (hR : zall rf zRK = true) {x1 : Int} {x2 : Int} (h : Cv X d 263 [(2, 261), (0, x1), (0, x2)] rf mem (fun mem1 => Ci X d 251 [(2, 261), (0, 2)] rf mem1 (fun r2 mem3 => (inI r2) ∧ ((r2 = 0 → (0 ≤ ((6 * x1) + x2) ∧ ((6 * x1) + x2) < 132) ∧ ((inI (mem3 298 (((6 * x1) + x2)).toNat)) ∧ (L_m_shines_45 X d rf Q mem3 x1 x2 ((mem3 298 (((6 * x1) + x2)).toNat).tdiv 10) 0))) ∧ (¬ r2 = 0 → Cl X d 250 [(2, 261), (0, 2)] rf mem3 (fun r5 mem6 => Ci X d 252 [(1, r5), (0, 9)] rf mem6 (fun r7 mem8 => L_m_shines_45 X d rf Q mem8 x1 x2 r7 0))))))) : Cv X (d + 1) 267 [(2, 261), (0, x1), (0, x2)] rf mem Q := by
  show zW X (d + 1) 267 0 [(2, 261), (0, x1), (0, x2), (9, 0), (9, 0)] [] (zty, rf, mem) (qv rf Q)
  refine zW.go 3 3 [(2, 261), (0, x1), (0, x2), (9, 0), (9, 0)] [(0, x2), (0, x1), (2, 261)] _ rfl ?_
  refine w_callv (as := [(2, 261), (0, x1), (0, x2)]) [] 6 rfl rfl rfl rfl (Nat.le_of_ble_eq_true rfl) (Nat.le_of_ble_eq_true rfl) (Nat.le_of_ble_eq_true rfl) (Or.inr rfl) (Cv.imp h (fun mem1 h => ?_))
  refine zW.go 2 8 [(2, 261), (0, x1), (0, x2), (9, 0), (9, 0)] [(0, 2), (2, 261)] _ rfl ?_
  refine w_calli (as := [(2, 261), (0, 2)]) [] 11 rfl rfl rfl rfl (Nat.le_of_ble_eq_true rfl) (Nat.le_of_ble_eq_true rfl) (Nat.le_of_ble_eq_true rfl) (Or.inr rfl) (Ci.imp h (fun r2 mem3 h => ?_))
  refine w_if_eq rfl (by decide) (pc' := 14) rfl h.1 (fun c4 => ?_) (fun c4 => ?_)
  · have h := h.2.1 c4
    refine zW.go 1 28 [(2, 261), (0, x1), (0, x2), (9, 0), (9, 0)] [(2, 261)] _ rfl ?_
    refine w_getL (q := 261) (v := 298) rfl (by decide) (pc' := 31) rfl ⟨by decide, rfl⟩ rfl rfl (zall_at hR (by decide)) ?_
    refine zW.go 5 37 [(2, 261), (0, x1), (0, x2), (9, 0), (9, 0)] [(0, ((6 * x1) + x2)), (2, 298)] _ rfl ?_
    obtain ⟨g, h⟩ := h
    refine w_iald (q := 298) rfl (by decide) (pc' := 38) rfl ⟨by decide, rfl⟩ rfl g rfl ?_
    refine zW.go 1 40 [(2, 261), (0, x1), (0, x2), (9, 0), (9, 0)] [(0, 10), (0, (mem3 298 (((6 * x1) + x2)).toNat))] _ rfl ?_
    obtain ⟨g, h⟩ := h
    refine w_idiv rfl (by decide) (pc' := 41) rfl ⟨g, by decide, by decide⟩ ?_
    refine zW.go 3 45 [(2, 261), (0, x1), (0, x2), (0, ((mem3 298 (((6 * x1) + x2)).toNat).tdiv 10)), (0, 0)] [] _ rfl ?_
    exact h
  · have h := h.2.2 c4
    refine zW.go 2 16 [(2, 261), (0, x1), (0, x2), (9, 0), (9, 0)] [(0, 2), (2, 261)] _ rfl ?_
    refine w_calll (as := [(2, 261), (0, 2)]) [] 19 rfl rfl rfl rfl (Nat.le_of_ble_eq_true rfl) (Nat.le_of_ble_eq_true rfl) (Nat.le_of_ble_eq_true rfl) (Or.inr rfl) (Cl.imp h (fun r5 mem6 h => ?_))
    refine zW.go 1 21 [(2, 261), (0, x1), (0, x2), (9, 0), (9, 0)] [(0, 9), (1, r5)] _ rfl ?_
    refine w_calli (as := [(1, r5), (0, 9)]) [] 24 rfl rfl rfl rfl (Nat.le_of_ble_eq_true rfl) (Nat.le_of_ble_eq_true rfl) (Nat.le_of_ble_eq_true rfl) (Or.inl rfl) (Ci.imp h (fun r7 mem8 h => ?_))
    refine zW.go 4 45 [(2, 261), (0, x1), (0, x2), (0, r7), (0, 0)] [] _ rfl ?_
    exact h
def L_m_ticks_16 (X : zX) (d : Nat) (rf : zF) (Q : Int → zF → Prop) (mem : zF) (x1 : Int) (x3 : Int) (x4 : Int) : Prop := ∀ z2 : zV, z2.1 ≠ 1 → zW X (d + 1) 268 16 [(2, 261), (0, x1), z2, (0, x3), (0, x4)] [] (zty, rf, mem) (qi rf Q)
def L_m_ticks_91 (X : zX) (d : Nat) (rf : zF) (Q : Int → zF → Prop) (mem : zF) (x1 : Int) (x3 : Int) (x4 : Int) (s1 : Int) (s2 : Int) (s3 : Int) : Prop := ∀ z2 : zV, z2.1 ≠ 1 → zW X (d + 1) 268 91 [(2, 261), (0, x1), z2, (0, x3), (0, x4)] [(1, s3), (1, s2), (0, s1), (2, 298)] (zty, rf, mem) (qi rf Q)
def L_m_ticks_138 (X : zX) (d : Nat) (rf : zF) (Q : Int → zF → Prop) (mem : zF) (x1 : Int) (x3 : Int) (x4 : Int) : Prop := ∀ z2 : zV, z2.1 ≠ 1 → zW X (d + 1) 268 138 [(2, 261), (0, x1), z2, (0, x3), (0, x4)] [] (zty, rf, mem) (qi rf Q)
def L_m_ticks_151 (X : zX) (d : Nat) (rf : zF) (Q : Int → zF → Prop) (mem : zF) (x1 : Int) (x3 : Int) (x4 : Int) : Prop := ∀ z2 : zV, z2.1 ≠ 1 → zW X (d + 1) 268 151 [(2, 261), (0, x1), z2, (0, x3), (0, x4)] [] (zty, rf, mem) (qi rf Q)
set_option maxRecDepth 4000 in
theorem s_m_ticks_16 {X : zX} {d : Nat} {rf mem : zF} {Q : Int → zF → Prop} (hR : zall rf zRK = true) {x1 : Int} {x3 : Int} {x4 : Int} (h : (0 ≤ (mem 261 13) ∧ (mem 261 13) < 2) ∧ ((inI x4 ∧ inI (mem 274 ((mem 261 13)).toNat)) ∧ (((mem 274 ((mem 261 13)).toNat) ≤ x4 → (0 ≤ x1 ∧ x1 < 22) ∧ ((0 ≤ x1 ∧ x1 < 22) ∧ (Q x3 (zup mem 293 (x1).toNat ((mem 293 (x1).toNat) + 1))))) ∧ (¬ (mem 274 ((mem 261 13)).toNat) ≤ x4 → Ci X d 258 [(2, 261), (0, x1), (0, x4)] rf mem (fun r4 mem5 => (inI r4) ∧ ((¬ r4 = 0 → Cv X d 263 [(2, 261), (0, x1), (0, x4)] rf mem5 (fun mem7 => (0 ≤ ((6 * x1) + x4) ∧ ((6 * x1) + x4) < 132) ∧ ((inI (mem7 298 (((6 * x1) + x4)).toNat)) ∧ (Ci X d 251 [(2, 261), (0, 0)] rf mem7 (fun r8 mem9 => (inI r8) ∧ ((r8 = 0 → L_m_ticks_91 X d rf Q mem9 x1 x3 x4 ((6 * x1) + x4) (mem7 298 (((6 * x1) + x4)).toNat) 1) ∧ (¬ r8 = 0 → Cl X d 250 [(2, 261), (0, 0)] rf mem9 (fun r11 mem12 => L_m_ticks_91 X d rf Q mem12 x1 x3 x4 ((6 * x1) + x4) (mem7 298 (((6 * x1) + x4)).toNat) r11)))))))) ∧ (r4 = 0 → L_m_ticks_16 X d rf Q mem5 x1 x3 (x4 + 1)))))))) : L_m_ticks_16 X d rf Q mem x1 x3 x4 := by
  intro z2 hz2
  refine zW.go 2 19 [(2, 261), (0, x1), z2, (0, x3), (0, x4)] [(2, 261), (0, x4)] _ rfl ?_
  refine w_getL (q := 261) (v := 274) rfl (by decide) (pc' := 22) rfl ⟨by decide, rfl⟩ rfl rfl (zall_at hR (by decide)) ?_
  refine zW.go 1 23 [(2, 261), (0, x1), z2, (0, x3), (0, x4)] [(2, 261), (2, 274), (0, x4)] _ rfl ?_
  refine w_getI (q := 261) rfl (by decide) (pc' := 26) rfl ⟨by decide, rfl⟩ rfl (by decide) ?_
  obtain ⟨g, h⟩ := h
  refine w_iald (q := 274) rfl (by decide) (pc' := 27) rfl ⟨by decide, rfl⟩ rfl g rfl ?_
  refine w_ic_ge rfl (by decide) (pc' := 30) rfl h.1 (fun c3 => ?_) (fun c3 => ?_)
  · have h := h.2.1 c3
    refine zW.go 1 186 [(2, 261), (0, x1), z2, (0, x3), (0, x4)] [(2, 261)] _ rfl ?_
    refine w_getL (q := 261) (v := 293) rfl (by decide) (pc' := 189) rfl ⟨by decide, rfl⟩ rfl rfl (zall_at hR (by decide)) ?_
    refine zW.go 2 191 [(2, 261), (0, x1), z2, (0, x3), (0, x4)] [(0, x1), (2, 293), (0, x1), (2, 293)] _ rfl ?_
    obtain ⟨g, h⟩ := h
    refine w_iald (q := 293) rfl (by decide) (pc' := 192) rfl ⟨by decide, rfl⟩ rfl g rfl ?_
    refine zW.go 2 194 [(2, 261), (0, x1), z2, (0, x3), (0, x4)] [(0, ((mem 293 (x1).toNat) + 1)), (0, x1), (2, 293)] _ rfl ?_
    obtain ⟨g, h⟩ := h
    refine w_iast (q := 293) rfl (by decide) (pc' := 195) rfl ⟨by decide, rfl⟩ rfl g rfl ?_
    refine zW.go 1 196 [(2, 261), (0, x1), z2, (0, x3), (0, x4)] [(0, x3)] _ rfl ?_
    exact w_reti rfl rfl h
  · have h := h.2.2 c3
    refine zW.go 3 34 [(2, 261), (0, x1), z2, (0, x3), (0, x4)] [(0, x4), (0, x1), (2, 261)] _ rfl ?_
    refine w_calli (as := [(2, 261), (0, x1), (0, x4)]) [] 37 rfl rfl rfl rfl (Nat.le_of_ble_eq_true rfl) (Nat.le_of_ble_eq_true rfl) (Nat.le_of_ble_eq_true rfl) (Or.inr rfl) (Ci.imp h (fun r4 mem5 h => ?_))
    refine w_if_ne rfl (by decide) (pc' := 40) rfl h.1 (fun c6 => ?_) (fun c6 => ?_)
    · have h := h.2.1 c6
      refine zW.go 3 47 [(2, 261), (0, x1), z2, (0, x3), (0, x4)] [(0, x4), (0, x1), (2, 261)] _ rfl ?_
      refine w_callv (as := [(2, 261), (0, x1), (0, x4)]) [] 50 rfl rfl rfl rfl (Nat.le_of_ble_eq_true rfl) (Nat.le_of_ble_eq_true rfl) (Nat.le_of_ble_eq_true rfl) (Or.inr rfl) (Cv.imp h (fun mem7 h => ?_))
      refine zW.go 1 51 [(2, 261), (0, x1), z2, (0, x3), (0, x4)] [(2, 261)] _ rfl ?_
      refine w_getL (q := 261) (v := 298) rfl (by decide) (pc' := 54) rfl ⟨by decide, rfl⟩ rfl rfl (zall_at hR (by decide)) ?_
      refine zW.go 6 62 [(2, 261), (0, x1), z2, (0, x3), (0, x4)] [(2, 261), (0, ((6 * x1) + x4)), (2, 298)] _ rfl ?_
      refine w_getL (q := 261) (v := 298) rfl (by decide) (pc' := 65) rfl ⟨by decide, rfl⟩ rfl rfl (zall_at hR (by decide)) ?_
      refine zW.go 5 72 [(2, 261), (0, x1), z2, (0, x3), (0, x4)] [(0, ((6 * x1) + x4)), (2, 298), (0, ((6 * x1) + x4)), (2, 298)] _ rfl ?_
      obtain ⟨g, h⟩ := h
      refine w_iald (q := 298) rfl (by decide) (pc' := 73) rfl ⟨by decide, rfl⟩ rfl g rfl ?_
      obtain ⟨g, h⟩ := h
      refine w_i2l rfl (by decide) (pc' := 74) rfl g ?_
      refine zW.go 2 76 [(2, 261), (0, x1), z2, (0, x3), (0, x4)] [(0, 0), (2, 261), (1, (mem7 298 (((6 * x1) + x4)).toNat)), (0, ((6 * x1) + x4)), (2, 298)] _ rfl ?_
      refine w_calli (as := [(2, 261), (0, 0)]) [(1, (mem7 298 (((6 * x1) + x4)).toNat)), (0, ((6 * x1) + x4)), (2, 298)] 79 rfl rfl rfl rfl (Nat.le_of_ble_eq_true rfl) (Nat.le_of_ble_eq_true rfl) (Nat.le_of_ble_eq_true rfl) (Or.inr rfl) (Ci.imp h (fun r8 mem9 h => ?_))
      refine w_if_eq rfl (by decide) (pc' := 82) rfl h.1 (fun c10 => ?_) (fun c10 => ?_)
      · have h := h.2.1 c10
        refine zW.go 1 91 [(2, 261), (0, x1), z2, (0, x3), (0, x4)] [(1, 1), (1, (mem7 298 (((6 * x1) + x4)).toNat)), (0, ((6 * x1) + x4)), (2, 298)] _ rfl ?_
        exact h z2 hz2
      · have h := h.2.2 c10
        refine zW.go 2 84 [(2, 261), (0, x1), z2, (0, x3), (0, x4)] [(0, 0), (2, 261), (1, (mem7 298 (((6 * x1) + x4)).toNat)), (0, ((6 * x1) + x4)), (2, 298)] _ rfl ?_
        refine w_calll (as := [(2, 261), (0, 0)]) [(1, (mem7 298 (((6 * x1) + x4)).toNat)), (0, ((6 * x1) + x4)), (2, 298)] 87 rfl rfl rfl rfl (Nat.le_of_ble_eq_true rfl) (Nat.le_of_ble_eq_true rfl) (Nat.le_of_ble_eq_true rfl) (Or.inr rfl) (Cl.imp h (fun r11 mem12 h => ?_))
        refine zW.go 1 91 [(2, 261), (0, x1), z2, (0, x3), (0, x4)] [(1, r11), (1, (mem7 298 (((6 * x1) + x4)).toNat)), (0, ((6 * x1) + x4)), (2, 298)] _ rfl ?_
        exact h z2 hz2
    · have h := h.2.2 c6
      refine zW.go 3 16 [(2, 261), (0, x1), z2, (0, x3), (0, (x4 + 1))] [] _ rfl ?_
      exact h z2 hz2
set_option maxRecDepth 4000 in
theorem s_m_ticks_91 {X : zX} {d : Nat} {rf mem : zF} {Q : Int → zF → Prop} (hR : zall rf zRK = true) {x1 : Int} {x3 : Int} {x4 : Int} {s1 : Int} {s2 : Int} {s3 : Int} (h : Ci X d 252 [(1, (s2 - s3)), (0, 99)] rf mem (fun r13 mem14 => (0 ≤ s1 ∧ s1 < 132) ∧ (Cv X d 263 [(2, 261), (0, x1), (0, x4)] rf (zup mem14 298 (s1).toNat r13) (fun mem15 => (0 ≤ ((6 * x1) + x4) ∧ ((6 * x1) + x4) < 132) ∧ ((inI (mem15 298 (((6 * x1) + x4)).toNat)) ∧ (((mem15 298 (((6 * x1) + x4)).toNat) = 0 → L_m_ticks_138 X d rf Q mem15 x1 x3 x4) ∧ (¬ (mem15 298 (((6 * x1) + x4)).toNat) = 0 → Ci X d 251 [(2, 261), (0, 1)] rf mem15 (fun r17 mem18 => (inI r17) ∧ ((r17 = 0 → L_m_ticks_151 X d rf Q mem18 x1 x3 x4) ∧ (¬ r17 = 0 → Cl X d 250 [(2, 261), (0, 1)] rf mem18 (fun r20 mem21 => (inL r20 ∧ inL 1) ∧ ((inI (if r20 < 1 then -1 else if r20 = 1 then 0 else 1)) ∧ ((¬ (if r20 < 1 then -1 else if r20 = 1 then 0 else 1) = 0 → L_m_ticks_151 X d rf Q mem21 x1 x3 x4) ∧ ((if r20 < 1 then -1 else if r20 = 1 then 0 else 1) = 0 → L_m_ticks_138 X d rf Q mem21 x1 x3 x4)))))))))))))) : L_m_ticks_91 X d rf Q mem x1 x3 x4 s1 s2 s3 := by
  intro z2 hz2
  refine zW.go 2 94 [(2, 261), (0, x1), z2, (0, x3), (0, x4)] [(0, 99), (1, (s2 - s3)), (0, s1), (2, 298)] _ rfl ?_
  refine w_calli (as := [(1, (s2 - s3)), (0, 99)]) [(0, s1), (2, 298)] 97 rfl rfl rfl rfl (Nat.le_of_ble_eq_true rfl) (Nat.le_of_ble_eq_true rfl) (Nat.le_of_ble_eq_true rfl) (Or.inl rfl) (Ci.imp h (fun r13 mem14 h => ?_))
  obtain ⟨g, h⟩ := h
  refine w_iast (q := 298) rfl (by decide) (pc' := 98) rfl ⟨by decide, rfl⟩ rfl g rfl ?_
  refine zW.go 3 102 [(2, 261), (0, x1), z2, (0, x3), (0, x4)] [(0, x4), (0, x1), (2, 261)] _ rfl ?_
  refine w_callv (as := [(2, 261), (0, x1), (0, x4)]) [] 105 rfl rfl rfl rfl (Nat.le_of_ble_eq_true rfl) (Nat.le_of_ble_eq_true rfl) (Nat.le_of_ble_eq_true rfl) (Or.inr rfl) (Cv.imp h (fun mem15 h => ?_))
  refine zW.go 1 106 [(2, 261), (0, x1), z2, (0, x3), (0, x4)] [(2, 261)] _ rfl ?_
  refine w_getL (q := 261) (v := 298) rfl (by decide) (pc' := 109) rfl ⟨by decide, rfl⟩ rfl rfl (zall_at hR (by decide)) ?_
  refine zW.go 5 116 [(2, 261), (0, x1), z2, (0, x3), (0, x4)] [(0, ((6 * x1) + x4)), (2, 298)] _ rfl ?_
  obtain ⟨g, h⟩ := h
  refine w_iald (q := 298) rfl (by decide) (pc' := 117) rfl ⟨by decide, rfl⟩ rfl g rfl ?_
  refine w_if_eq rfl (by decide) (pc' := 120) rfl h.1 (fun c16 => ?_) (fun c16 => ?_)
  · have h := h.2.1 c16
    exact h z2 hz2
  · have h := h.2.2 c16
    refine zW.go 2 122 [(2, 261), (0, x1), z2, (0, x3), (0, x4)] [(0, 1), (2, 261)] _ rfl ?_
    refine w_calli (as := [(2, 261), (0, 1)]) [] 125 rfl rfl rfl rfl (Nat.le_of_ble_eq_true rfl) (Nat.le_of_ble_eq_true rfl) (Nat.le_of_ble_eq_true rfl) (Or.inr rfl) (Ci.imp h (fun r17 mem18 h => ?_))
    refine w_if_eq rfl (by decide) (pc' := 128) rfl h.1 (fun c19 => ?_) (fun c19 => ?_)
    · have h := h.2.1 c19
      exact h z2 hz2
    · have h := h.2.2 c19
      refine zW.go 2 130 [(2, 261), (0, x1), z2, (0, x3), (0, x4)] [(0, 1), (2, 261)] _ rfl ?_
      refine w_calll (as := [(2, 261), (0, 1)]) [] 133 rfl rfl rfl rfl (Nat.le_of_ble_eq_true rfl) (Nat.le_of_ble_eq_true rfl) (Nat.le_of_ble_eq_true rfl) (Or.inr rfl) (Cl.imp h (fun r20 mem21 h => ?_))
      refine zW.go 1 134 [(2, 261), (0, x1), z2, (0, x3), (0, x4)] [(1, 1), (1, r20)] _ rfl ?_
      obtain ⟨g, h⟩ := h
      refine w_lcmp rfl (by decide) (pc' := 135) rfl g ?_
      refine w_if_ne rfl (by decide) (pc' := 138) rfl h.1 (fun c22 => ?_) (fun c22 => ?_)
      · have h := h.2.1 c22
        exact h z2 hz2
      · have h := h.2.2 c22
        exact h z2 hz2
set_option maxRecDepth 4000 in
theorem s_m_ticks_138 {X : zX} {d : Nat} {rf mem : zF} {Q : Int → zF → Prop} (hR : zall rf zRK = true) {x1 : Int} {x3 : Int} {x4 : Int} (h : Cv X d 266 [(2, 261), (0, x1), (0, x4)] rf mem (fun mem23 => L_m_ticks_16 X d rf Q mem23 x1 (x3 + 1) (x4 + 1))) : L_m_ticks_138 X d rf Q mem x1 x3 x4 := by
  intro z2 hz2
  refine zW.go 3 142 [(2, 261), (0, x1), z2, (0, x3), (0, x4)] [(0, x4), (0, x1), (2, 261)] _ rfl ?_
  refine w_callv (as := [(2, 261), (0, x1), (0, x4)]) [] 145 rfl rfl rfl rfl (Nat.le_of_ble_eq_true rfl) (Nat.le_of_ble_eq_true rfl) (Nat.le_of_ble_eq_true rfl) (Or.inr rfl) (Cv.imp h (fun mem23 h => ?_))
  refine zW.step 148 [(2, 261), (0, x1), z2, (0, (x3 + 1)), (0, x4)] [] _ rfl (by decide) (by decide) (by show some (_, zst1 [(2, 261), (0, x1), z2, (0, x3), (0, x4)] 3 _, _, _) = _; rw [zst1_z (ls := [(2, 261), (0, x1), z2, (0, x3), (0, x4)]) (i := 3) hz2]; rfl) ?_
  refine zW.go 3 16 [(2, 261), (0, x1), z2, (0, (x3 + 1)), (0, (x4 + 1))] [] _ rfl ?_
  exact h z2 hz2
set_option maxRecDepth 4000 in
theorem s_m_ticks_151 {X : zX} {d : Nat} {rf mem : zF} {Q : Int → zF → Prop} (hR : zall rf zRK = true) {x1 : Int} {x3 : Int} {x4 : Int} (h : (0 ≤ ((6 * x1) + x4) ∧ ((6 * x1) + x4) < 132) ∧ ((0 ≤ x1 ∧ x1 < 22) ∧ ((inI (mem 297 (((6 * x1) + x4)).toNat) ∧ inI (mem 294 (x1).toNat)) ∧ ((¬ (mem 297 (((6 * x1) + x4)).toNat) = (mem 294 (x1).toNat) → L_m_ticks_16 X d rf Q mem x1 x3 (x4 + 1)) ∧ ((mem 297 (((6 * x1) + x4)).toNat) = (mem 294 (x1).toNat) → Cv X d 267 [(2, 261), (0, x1), (0, x4)] rf mem (fun mem25 => L_m_ticks_16 X d rf Q mem25 x1 x3 (x4 + 1))))))) : L_m_ticks_151 X d rf Q mem x1 x3 x4 := by
  intro z2 hz2
  refine zW.go 1 152 [(2, 261), (0, x1), z2, (0, x3), (0, x4)] [(2, 261)] _ rfl ?_
  refine w_getL (q := 261) (v := 297) rfl (by decide) (pc' := 155) rfl ⟨by decide, rfl⟩ rfl rfl (zall_at hR (by decide)) ?_
  refine zW.go 5 162 [(2, 261), (0, x1), z2, (0, x3), (0, x4)] [(0, ((6 * x1) + x4)), (2, 297)] _ rfl ?_
  obtain ⟨g, h⟩ := h
  refine w_iald (q := 297) rfl (by decide) (pc' := 163) rfl ⟨by decide, rfl⟩ rfl g rfl ?_
  refine zW.go 1 164 [(2, 261), (0, x1), z2, (0, x3), (0, x4)] [(2, 261), (0, (mem 297 (((6 * x1) + x4)).toNat))] _ rfl ?_
  refine w_getL (q := 261) (v := 294) rfl (by decide) (pc' := 167) rfl ⟨by decide, rfl⟩ rfl rfl (zall_at hR (by decide)) ?_
  refine zW.go 1 168 [(2, 261), (0, x1), z2, (0, x3), (0, x4)] [(0, x1), (2, 294), (0, (mem 297 (((6 * x1) + x4)).toNat))] _ rfl ?_
  obtain ⟨g, h⟩ := h
  refine w_iald (q := 294) rfl (by decide) (pc' := 169) rfl ⟨by decide, rfl⟩ rfl g rfl ?_
  refine w_ic_ne rfl (by decide) (pc' := 172) rfl h.1 (fun c24 => ?_) (fun c24 => ?_)
  · have h := h.2.1 c24
    refine zW.go 2 16 [(2, 261), (0, x1), z2, (0, x3), (0, (x4 + 1))] [] _ rfl ?_
    exact h z2 hz2
  · have h := h.2.2 c24
    refine zW.go 3 176 [(2, 261), (0, x1), z2, (0, x3), (0, x4)] [(0, x4), (0, x1), (2, 261)] _ rfl ?_
    refine w_callv (as := [(2, 261), (0, x1), (0, x4)]) [] 179 rfl rfl rfl rfl (Nat.le_of_ble_eq_true rfl) (Nat.le_of_ble_eq_true rfl) (Nat.le_of_ble_eq_true rfl) (Or.inr rfl) (Cv.imp h (fun mem25 h => ?_))
    refine zW.go 2 16 [(2, 261), (0, x1), z2, (0, x3), (0, (x4 + 1))] [] _ rfl ?_
    exact h z2 hz2
set_option maxRecDepth 4000 in
theorem s_m_ticks {X : zX} {d : Nat} {rf mem : zF} {Q : Int → zF → Prop} (hR : zall rf zRK = true) {x1 : Int} {x2 : Int} (h : Cv X d 260 [(2, 261), (0, x1), (0, x2)] rf mem (fun mem1 => Cv X d 262 [(2, 261), (0, x1)] rf mem1 (fun mem2 => L_m_ticks_16 X d rf Q mem2 x1 0 0))) : Ci X (d + 1) 268 [(2, 261), (0, x1), (0, x2)] rf mem Q := by
  show zW X (d + 1) 268 0 [(2, 261), (0, x1), (0, x2), (9, 0), (9, 0)] [] (zty, rf, mem) (qi rf Q)
  refine zW.go 5 5 [(2, 261), (0, x1), (0, x2), (0, 0), (9, 0)] [(0, x2), (0, x1), (2, 261)] _ rfl ?_
  refine w_callv (as := [(2, 261), (0, x1), (0, x2)]) [] 8 rfl rfl rfl rfl (Nat.le_of_ble_eq_true rfl) (Nat.le_of_ble_eq_true rfl) (Nat.le_of_ble_eq_true rfl) (Or.inr rfl) (Cv.imp h (fun mem1 h => ?_))
  refine zW.go 2 10 [(2, 261), (0, x1), (0, x2), (0, 0), (9, 0)] [(0, x1), (2, 261)] _ rfl ?_
  refine w_callv (as := [(2, 261), (0, x1)]) [] 13 rfl rfl rfl rfl (Nat.le_of_ble_eq_true rfl) (Nat.le_of_ble_eq_true rfl) (Nat.le_of_ble_eq_true rfl) (Or.inr rfl) (Cv.imp h (fun mem2 h => ?_))
  refine zW.go 2 16 [(2, 261), (0, x1), (0, x2), (0, 0), (0, 0)] [] _ rfl ?_
  exact h (0, x2) (by show (0 : Nat) ≠ 1; decide)
set_option maxRecDepth 4000 in
theorem s_m_isDoor {X : zX} {d : Nat} {rf mem : zF} {Q : Int → zF → Prop} (hR : zall rf zRK = true) {x1 : Int} (h : (inI x1) ∧ ((x1 < 0 → Q 0 mem) ∧ (¬ x1 < 0 → (0 ≤ (mem 261 13) ∧ (mem 261 13) < 2) ∧ ((inI x1 ∧ inI (mem 266 ((mem 261 13)).toNat)) ∧ (((mem 266 ((mem 261 13)).toNat) ≤ x1 → Q 0 mem) ∧ (¬ (mem 266 ((mem 261 13)).toNat) ≤ x1 → Q 1 mem)))))) : Ci X d 269 [(2, 261), (0, x1)] rf mem Q := by
  show zW X d 269 0 [(2, 261), (0, x1)] [] (zty, rf, mem) (qi rf Q)
  refine zW.go 1 1 [(2, 261), (0, x1)] [(0, x1)] _ rfl ?_
  refine w_if_lt rfl (by decide) (pc' := 4) rfl h.1 (fun c1 => ?_) (fun c1 => ?_)
  · have h := h.2.1 c1
    refine zW.go 1 22 [(2, 261), (0, x1)] [(0, 0)] _ rfl ?_
    exact w_retz rfl rfl (by decide) h
  · have h := h.2.2 c1
    refine zW.go 2 6 [(2, 261), (0, x1)] [(2, 261), (0, x1)] _ rfl ?_
    refine w_getL (q := 261) (v := 266) rfl (by decide) (pc' := 9) rfl ⟨by decide, rfl⟩ rfl rfl (zall_at hR (by decide)) ?_
    refine zW.go 1 10 [(2, 261), (0, x1)] [(2, 261), (2, 266), (0, x1)] _ rfl ?_
    refine w_getI (q := 261) rfl (by decide) (pc' := 13) rfl ⟨by decide, rfl⟩ rfl (by decide) ?_
    obtain ⟨g, h⟩ := h
    refine w_iald (q := 266) rfl (by decide) (pc' := 14) rfl ⟨by decide, rfl⟩ rfl g rfl ?_
    refine w_ic_ge rfl (by decide) (pc' := 17) rfl h.1 (fun c2 => ?_) (fun c2 => ?_)
    · have h := h.2.1 c2
      refine zW.go 1 22 [(2, 261), (0, x1)] [(0, 0)] _ rfl ?_
      exact w_retz rfl rfl (by decide) h
    · have h := h.2.2 c2
      refine zW.go 2 22 [(2, 261), (0, x1)] [(0, 1)] _ rfl ?_
      exact w_retz rfl rfl (by decide) h
set_option maxRecDepth 4000 in
theorem s_m_isHeir {X : zX} {d : Nat} {rf mem : zF} {Q : Int → zF → Prop} (hR : zall rf zRK = true) {x1 : Int} (h : (inI x1) ∧ ((x1 < 0 → Q 0 mem) ∧ (¬ x1 < 0 → (0 ≤ (mem 261 13) ∧ (mem 261 13) < 2) ∧ ((inI x1 ∧ inI (mem 271 ((mem 261 13)).toNat)) ∧ (((mem 271 ((mem 261 13)).toNat) ≤ x1 → Q 0 mem) ∧ (¬ (mem 271 ((mem 261 13)).toNat) ≤ x1 → Q 1 mem)))))) : Ci X d 270 [(2, 261), (0, x1)] rf mem Q := by
  show zW X d 270 0 [(2, 261), (0, x1)] [] (zty, rf, mem) (qi rf Q)
  refine zW.go 1 1 [(2, 261), (0, x1)] [(0, x1)] _ rfl ?_
  refine w_if_lt rfl (by decide) (pc' := 4) rfl h.1 (fun c1 => ?_) (fun c1 => ?_)
  · have h := h.2.1 c1
    refine zW.go 1 22 [(2, 261), (0, x1)] [(0, 0)] _ rfl ?_
    exact w_retz rfl rfl (by decide) h
  · have h := h.2.2 c1
    refine zW.go 2 6 [(2, 261), (0, x1)] [(2, 261), (0, x1)] _ rfl ?_
    refine w_getL (q := 261) (v := 271) rfl (by decide) (pc' := 9) rfl ⟨by decide, rfl⟩ rfl rfl (zall_at hR (by decide)) ?_
    refine zW.go 1 10 [(2, 261), (0, x1)] [(2, 261), (2, 271), (0, x1)] _ rfl ?_
    refine w_getI (q := 261) rfl (by decide) (pc' := 13) rfl ⟨by decide, rfl⟩ rfl (by decide) ?_
    obtain ⟨g, h⟩ := h
    refine w_iald (q := 271) rfl (by decide) (pc' := 14) rfl ⟨by decide, rfl⟩ rfl g rfl ?_
    refine w_ic_ge rfl (by decide) (pc' := 17) rfl h.1 (fun c2 => ?_) (fun c2 => ?_)
    · have h := h.2.1 c2
      refine zW.go 1 22 [(2, 261), (0, x1)] [(0, 0)] _ rfl ?_
      exact w_retz rfl rfl (by decide) h
    · have h := h.2.2 c2
      refine zW.go 2 22 [(2, 261), (0, x1)] [(0, 1)] _ rfl ?_
      exact w_retz rfl rfl (by decide) h
set_option maxRecDepth 4000 in
theorem s_m_isBubble {X : zX} {d : Nat} {rf mem : zF} {Q : Int → zF → Prop} (hR : zall rf zRK = true) {x1 : Int} (h : (inI x1) ∧ ((x1 < 0 → Q 0 mem) ∧ (¬ x1 < 0 → (0 ≤ (mem 261 13) ∧ (mem 261 13) < 2) ∧ ((inI x1 ∧ inI (mem 274 ((mem 261 13)).toNat)) ∧ (((mem 274 ((mem 261 13)).toNat) ≤ x1 → Q 0 mem) ∧ (¬ (mem 274 ((mem 261 13)).toNat) ≤ x1 → Q 1 mem)))))) : Ci X d 271 [(2, 261), (0, x1)] rf mem Q := by
  show zW X d 271 0 [(2, 261), (0, x1)] [] (zty, rf, mem) (qi rf Q)
  refine zW.go 1 1 [(2, 261), (0, x1)] [(0, x1)] _ rfl ?_
  refine w_if_lt rfl (by decide) (pc' := 4) rfl h.1 (fun c1 => ?_) (fun c1 => ?_)
  · have h := h.2.1 c1
    refine zW.go 1 22 [(2, 261), (0, x1)] [(0, 0)] _ rfl ?_
    exact w_retz rfl rfl (by decide) h
  · have h := h.2.2 c1
    refine zW.go 2 6 [(2, 261), (0, x1)] [(2, 261), (0, x1)] _ rfl ?_
    refine w_getL (q := 261) (v := 274) rfl (by decide) (pc' := 9) rfl ⟨by decide, rfl⟩ rfl rfl (zall_at hR (by decide)) ?_
    refine zW.go 1 10 [(2, 261), (0, x1)] [(2, 261), (2, 274), (0, x1)] _ rfl ?_
    refine w_getI (q := 261) rfl (by decide) (pc' := 13) rfl ⟨by decide, rfl⟩ rfl (by decide) ?_
    obtain ⟨g, h⟩ := h
    refine w_iald (q := 274) rfl (by decide) (pc' := 14) rfl ⟨by decide, rfl⟩ rfl g rfl ?_
    refine w_ic_ge rfl (by decide) (pc' := 17) rfl h.1 (fun c2 => ?_) (fun c2 => ?_)
    · have h := h.2.1 c2
      refine zW.go 1 22 [(2, 261), (0, x1)] [(0, 0)] _ rfl ?_
      exact w_retz rfl rfl (by decide) h
    · have h := h.2.2 c2
      refine zW.go 2 22 [(2, 261), (0, x1)] [(0, 1)] _ rfl ?_
      exact w_retz rfl rfl (by decide) h
def L_m_inBubble_2 (X : zX) (d : Nat) (rf : zF) (Q : Int → zF → Prop) (mem : zF) (x1 : Int) (x2 : Int) : Prop := zW X (d + 1) 272 2 [(2, 261), (0, x1), (0, x2)] [] (zty, rf, mem) (qi rf Q)
set_option maxRecDepth 4000 in
theorem s_m_inBubble_2 {X : zX} {d : Nat} {rf mem : zF} {Q : Int → zF → Prop} (hR : zall rf zRK = true) {x1 : Int} {x2 : Int} (h : (0 ≤ (mem 261 13) ∧ (mem 261 13) < 2) ∧ ((inI x2 ∧ inI (mem 274 ((mem 261 13)).toNat)) ∧ (((mem 274 ((mem 261 13)).toNat) ≤ x2 → Q (-1) mem) ∧ (¬ (mem 274 ((mem 261 13)).toNat) ≤ x2 → (0 ≤ x2 ∧ x2 < 132) ∧ (Ci X d 223 [(0, (mem 300 (x2).toNat)), (0, x1)] rf mem (fun r2 mem3 => (inI r2) ∧ ((r2 = 0 → L_m_inBubble_2 X d rf Q mem3 x1 (x2 + 1)) ∧ (¬ r2 = 0 → Q x2 mem3)))))))) : L_m_inBubble_2 X d rf Q mem x1 x2 := by
  refine zW.go 2 4 [(2, 261), (0, x1), (0, x2)] [(2, 261), (0, x2)] _ rfl ?_
  refine w_getL (q := 261) (v := 274) rfl (by decide) (pc' := 7) rfl ⟨by decide, rfl⟩ rfl rfl (zall_at hR (by decide)) ?_
  refine zW.go 1 8 [(2, 261), (0, x1), (0, x2)] [(2, 261), (2, 274), (0, x2)] _ rfl ?_
  refine w_getI (q := 261) rfl (by decide) (pc' := 11) rfl ⟨by decide, rfl⟩ rfl (by decide) ?_
  obtain ⟨g, h⟩ := h
  refine w_iald (q := 274) rfl (by decide) (pc' := 12) rfl ⟨by decide, rfl⟩ rfl g rfl ?_
  refine w_ic_ge rfl (by decide) (pc' := 15) rfl h.1 (fun c1 => ?_) (fun c1 => ?_)
  · have h := h.2.1 c1
    refine zW.go 1 37 [(2, 261), (0, x1), (0, x2)] [(0, (-1))] _ rfl ?_
    exact w_reti rfl rfl h
  · have h := h.2.2 c1
    refine zW.go 1 16 [(2, 261), (0, x1), (0, x2)] [(2, 261)] _ rfl ?_
    refine w_getL (q := 261) (v := 300) rfl (by decide) (pc' := 19) rfl ⟨by decide, rfl⟩ rfl rfl (zall_at hR (by decide)) ?_
    refine zW.go 1 20 [(2, 261), (0, x1), (0, x2)] [(0, x2), (2, 300)] _ rfl ?_
    obtain ⟨g, h⟩ := h
    refine w_iald (q := 300) rfl (by decide) (pc' := 21) rfl ⟨by decide, rfl⟩ rfl g rfl ?_
    refine zW.go 1 22 [(2, 261), (0, x1), (0, x2)] [(0, x1), (0, (mem 300 (x2).toNat))] _ rfl ?_
    refine w_calli (as := [(0, (mem 300 (x2).toNat)), (0, x1)]) [] 25 rfl rfl rfl rfl (Nat.le_of_ble_eq_true rfl) (Nat.le_of_ble_eq_true rfl) (Nat.le_of_ble_eq_true rfl) (Or.inl rfl) (Ci.imp h (fun r2 mem3 h => ?_))
    refine w_if_eq rfl (by decide) (pc' := 28) rfl h.1 (fun c4 => ?_) (fun c4 => ?_)
    · have h := h.2.1 c4
      refine zW.go 2 2 [(2, 261), (0, x1), (0, (x2 + 1))] [] _ rfl ?_
      exact h
    · have h := h.2.2 c4
      refine zW.go 1 29 [(2, 261), (0, x1), (0, x2)] [(0, x2)] _ rfl ?_
      exact w_reti rfl rfl h
set_option maxRecDepth 4000 in
theorem s_m_inBubble {X : zX} {d : Nat} {rf mem : zF} {Q : Int → zF → Prop} (hR : zall rf zRK = true) {x1 : Int} (h : L_m_inBubble_2 X d rf Q mem x1 0) : Ci X (d + 1) 272 [(2, 261), (0, x1)] rf mem Q := by
  show zW X (d + 1) 272 0 [(2, 261), (0, x1), (9, 0)] [] (zty, rf, mem) (qi rf Q)
  refine zW.go 2 2 [(2, 261), (0, x1), (0, 0)] [] _ rfl ?_
  exact h
def L_m_has_127 (X : zX) (d : Nat) (rf : zF) (Q : Int → zF → Prop) (mem : zF) (x2 : Int) (x3 : Int) : Prop := ∀ z1 : zV, z1.1 ≠ 1 → zW X (d + 1) 273 127 [(2, 261), z1, (0, x2), (0, x3)] [] (zty, rf, mem) (qi rf Q)
def L_m_has_167 (X : zX) (d : Nat) (rf : zF) (Q : Int → zF → Prop) (mem : zF) (x2 : Int) (x3 : Int) : Prop := ∀ z1 : zV, z1.1 ≠ 1 → zW X (d + 1) 273 167 [(2, 261), z1, (0, x2), (0, x3)] [] (zty, rf, mem) (qi rf Q)
def L_m_has_208 (X : zX) (d : Nat) (rf : zF) (Q : Int → zF → Prop) (mem : zF) (x2 : Int) (x3 : Int) : Prop := ∀ z1 : zV, z1.1 ≠ 1 → zW X (d + 1) 273 208 [(2, 261), z1, (0, x2), (0, x3)] [] (zty, rf, mem) (qi rf Q)
set_option maxRecDepth 4000 in
theorem s_m_has_127 {X : zX} {d : Nat} {rf mem : zF} {Q : Int → zF → Prop} (hR : zall rf zRK = true) {x2 : Int} {x3 : Int} (h : (0 ≤ (mem 261 13) ∧ (mem 261 13) < 2) ∧ ((inI x3 ∧ inI (mem 274 ((mem 261 13)).toNat)) ∧ (((mem 274 ((mem 261 13)).toNat) ≤ x3 → Q x2 mem) ∧ (¬ (mem 274 ((mem 261 13)).toNat) ≤ x3 → Ci X d 258 [(2, 261), (0, 0), (0, x3)] rf mem (fun r2 mem3 => (inI r2) ∧ ((r2 = 0 → L_m_has_127 X d rf Q mem3 (x2 + 0) (x3 + 1)) ∧ (¬ r2 = 0 → L_m_has_127 X d rf Q mem3 (x2 + 1) (x3 + 1)))))))) : L_m_has_127 X d rf Q mem x2 x3 := by
  intro z1 hz1
  refine zW.go 2 129 [(2, 261), z1, (0, x2), (0, x3)] [(2, 261), (0, x3)] _ rfl ?_
  refine w_getL (q := 261) (v := 274) rfl (by decide) (pc' := 132) rfl ⟨by decide, rfl⟩ rfl rfl (zall_at hR (by decide)) ?_
  refine zW.go 1 133 [(2, 261), z1, (0, x2), (0, x3)] [(2, 261), (2, 274), (0, x3)] _ rfl ?_
  refine w_getI (q := 261) rfl (by decide) (pc' := 136) rfl ⟨by decide, rfl⟩ rfl (by decide) ?_
  obtain ⟨g, h⟩ := h
  refine w_iald (q := 274) rfl (by decide) (pc' := 137) rfl ⟨by decide, rfl⟩ rfl g rfl ?_
  refine w_ic_ge rfl (by decide) (pc' := 140) rfl h.1 (fun c1 => ?_) (fun c1 => ?_)
  · have h := h.2.1 c1
    refine zW.go 1 164 [(2, 261), z1, (0, x2), (0, x3)] [(0, x2)] _ rfl ?_
    exact w_reti rfl rfl h
  · have h := h.2.2 c1
    refine zW.go 4 144 [(2, 261), z1, (0, x2), (0, x3)] [(0, x3), (0, 0), (2, 261), (0, x2)] _ rfl ?_
    refine w_calli (as := [(2, 261), (0, 0), (0, x3)]) [(0, x2)] 147 rfl rfl rfl rfl (Nat.le_of_ble_eq_true rfl) (Nat.le_of_ble_eq_true rfl) (Nat.le_of_ble_eq_true rfl) (Or.inr rfl) (Ci.imp h (fun r2 mem3 h => ?_))
    refine w_if_eq rfl (by decide) (pc' := 150) rfl h.1 (fun c4 => ?_) (fun c4 => ?_)
    · have h := h.2.1 c4
      refine zW.go 2 156 [(2, 261), z1, (0, x2), (0, x3)] [(0, (x2 + 0))] _ rfl ?_
      refine zW.step 157 [(2, 261), z1, (0, (x2 + 0)), (0, x3)] [] _ rfl (by decide) (by decide) (by show some (_, zst1 [(2, 261), z1, (0, x2), (0, x3)] 2 _, _, _) = _; rw [zst1_z (ls := [(2, 261), z1, (0, x2), (0, x3)]) (i := 2) hz1]; rfl) ?_
      refine zW.go 2 127 [(2, 261), z1, (0, (x2 + 0)), (0, (x3 + 1))] [] _ rfl ?_
      exact h z1 hz1
    · have h := h.2.2 c4
      refine zW.go 3 156 [(2, 261), z1, (0, x2), (0, x3)] [(0, (x2 + 1))] _ rfl ?_
      refine zW.step 157 [(2, 261), z1, (0, (x2 + 1)), (0, x3)] [] _ rfl (by decide) (by decide) (by show some (_, zst1 [(2, 261), z1, (0, x2), (0, x3)] 2 _, _, _) = _; rw [zst1_z (ls := [(2, 261), z1, (0, x2), (0, x3)]) (i := 2) hz1]; rfl) ?_
      refine zW.go 2 127 [(2, 261), z1, (0, (x2 + 1)), (0, (x3 + 1))] [] _ rfl ?_
      exact h z1 hz1
set_option maxRecDepth 4000 in
theorem s_m_has_167 {X : zX} {d : Nat} {rf mem : zF} {Q : Int → zF → Prop} (hR : zall rf zRK = true) {x2 : Int} {x3 : Int} (h : (0 ≤ (mem 261 13) ∧ (mem 261 13) < 2) ∧ ((inI x3 ∧ inI (mem 274 ((mem 261 13)).toNat)) ∧ (((mem 274 ((mem 261 13)).toNat) ≤ x3 → Q x2 mem) ∧ (¬ (mem 274 ((mem 261 13)).toNat) ≤ x3 → (0 ≤ x3 ∧ x3 < 132) ∧ ((inI (mem 301 (x3).toNat)) ∧ ((¬ (mem 301 (x3).toNat) = (-1) → L_m_has_167 X d rf Q mem (x2 + 1) (x3 + 1)) ∧ ((mem 301 (x3).toNat) = (-1) → L_m_has_167 X d rf Q mem (x2 + 0) (x3 + 1)))))))) : L_m_has_167 X d rf Q mem x2 x3 := by
  intro z1 hz1
  refine zW.go 2 169 [(2, 261), z1, (0, x2), (0, x3)] [(2, 261), (0, x3)] _ rfl ?_
  refine w_getL (q := 261) (v := 274) rfl (by decide) (pc' := 172) rfl ⟨by decide, rfl⟩ rfl rfl (zall_at hR (by decide)) ?_
  refine zW.go 1 173 [(2, 261), z1, (0, x2), (0, x3)] [(2, 261), (2, 274), (0, x3)] _ rfl ?_
  refine w_getI (q := 261) rfl (by decide) (pc' := 176) rfl ⟨by decide, rfl⟩ rfl (by decide) ?_
  obtain ⟨g, h⟩ := h
  refine w_iald (q := 274) rfl (by decide) (pc' := 177) rfl ⟨by decide, rfl⟩ rfl g rfl ?_
  refine w_ic_ge rfl (by decide) (pc' := 180) rfl h.1 (fun c5 => ?_) (fun c5 => ?_)
  · have h := h.2.1 c5
    refine zW.go 1 205 [(2, 261), z1, (0, x2), (0, x3)] [(0, x2)] _ rfl ?_
    exact w_reti rfl rfl h
  · have h := h.2.2 c5
    refine zW.go 2 182 [(2, 261), z1, (0, x2), (0, x3)] [(2, 261), (0, x2)] _ rfl ?_
    refine w_getL (q := 261) (v := 301) rfl (by decide) (pc' := 185) rfl ⟨by decide, rfl⟩ rfl rfl (zall_at hR (by decide)) ?_
    refine zW.go 1 186 [(2, 261), z1, (0, x2), (0, x3)] [(0, x3), (2, 301), (0, x2)] _ rfl ?_
    obtain ⟨g, h⟩ := h
    refine w_iald (q := 301) rfl (by decide) (pc' := 187) rfl ⟨by decide, rfl⟩ rfl g rfl ?_
    refine zW.go 1 188 [(2, 261), z1, (0, x2), (0, x3)] [(0, (-1)), (0, (mem 301 (x3).toNat)), (0, x2)] _ rfl ?_
    refine w_ic_ne rfl (by decide) (pc' := 191) rfl ⟨h.1, by decide⟩ (fun c6 => ?_) (fun c6 => ?_)
    · have h := h.2.1 c6
      refine zW.go 2 197 [(2, 261), z1, (0, x2), (0, x3)] [(0, (x2 + 1))] _ rfl ?_
      refine zW.step 198 [(2, 261), z1, (0, (x2 + 1)), (0, x3)] [] _ rfl (by decide) (by decide) (by show some (_, zst1 [(2, 261), z1, (0, x2), (0, x3)] 2 _, _, _) = _; rw [zst1_z (ls := [(2, 261), z1, (0, x2), (0, x3)]) (i := 2) hz1]; rfl) ?_
      refine zW.go 2 167 [(2, 261), z1, (0, (x2 + 1)), (0, (x3 + 1))] [] _ rfl ?_
      exact h z1 hz1
    · have h := h.2.2 c6
      refine zW.go 3 197 [(2, 261), z1, (0, x2), (0, x3)] [(0, (x2 + 0))] _ rfl ?_
      refine zW.step 198 [(2, 261), z1, (0, (x2 + 0)), (0, x3)] [] _ rfl (by decide) (by decide) (by show some (_, zst1 [(2, 261), z1, (0, x2), (0, x3)] 2 _, _, _) = _; rw [zst1_z (ls := [(2, 261), z1, (0, x2), (0, x3)]) (i := 2) hz1]; rfl) ?_
      refine zW.go 2 167 [(2, 261), z1, (0, (x2 + 0)), (0, (x3 + 1))] [] _ rfl ?_
      exact h z1 hz1
set_option maxRecDepth 4000 in
theorem s_m_has_208 {X : zX} {d : Nat} {rf mem : zF} {Q : Int → zF → Prop} (hR : zall rf zRK = true) {x2 : Int} {x3 : Int} (h : (0 ≤ (mem 261 13) ∧ (mem 261 13) < 2) ∧ ((inI x3 ∧ inI (mem 274 ((mem 261 13)).toNat)) ∧ (((mem 274 ((mem 261 13)).toNat) ≤ x3 → Q x2 mem) ∧ (¬ (mem 274 ((mem 261 13)).toNat) ≤ x3 → (0 ≤ x3 ∧ x3 < 132) ∧ ((inI (mem 301 (x3).toNat)) ∧ ((¬ (mem 301 (x3).toNat) = (-1) → L_m_has_208 X d rf Q mem (x2 + 0) (x3 + 1)) ∧ ((mem 301 (x3).toNat) = (-1) → Ci X d 272 [(2, 261), (0, x3)] rf mem (fun r9 mem10 => (inI r9) ∧ ((¬ r9 = (-1) → L_m_has_208 X d rf Q mem10 (x2 + 0) (x3 + 1)) ∧ (r9 = (-1) → L_m_has_208 X d rf Q mem10 (x2 + 1) (x3 + 1))))))))))) : L_m_has_208 X d rf Q mem x2 x3 := by
  intro z1 hz1
  refine zW.go 2 210 [(2, 261), z1, (0, x2), (0, x3)] [(2, 261), (0, x3)] _ rfl ?_
  refine w_getL (q := 261) (v := 274) rfl (by decide) (pc' := 213) rfl ⟨by decide, rfl⟩ rfl rfl (zall_at hR (by decide)) ?_
  refine zW.go 1 214 [(2, 261), z1, (0, x2), (0, x3)] [(2, 261), (2, 274), (0, x3)] _ rfl ?_
  refine w_getI (q := 261) rfl (by decide) (pc' := 217) rfl ⟨by decide, rfl⟩ rfl (by decide) ?_
  obtain ⟨g, h⟩ := h
  refine w_iald (q := 274) rfl (by decide) (pc' := 218) rfl ⟨by decide, rfl⟩ rfl g rfl ?_
  refine w_ic_ge rfl (by decide) (pc' := 221) rfl h.1 (fun c7 => ?_) (fun c7 => ?_)
  · have h := h.2.1 c7
    refine zW.go 1 255 [(2, 261), z1, (0, x2), (0, x3)] [(0, x2)] _ rfl ?_
    exact w_reti rfl rfl h
  · have h := h.2.2 c7
    refine zW.go 2 223 [(2, 261), z1, (0, x2), (0, x3)] [(2, 261), (0, x2)] _ rfl ?_
    refine w_getL (q := 261) (v := 301) rfl (by decide) (pc' := 226) rfl ⟨by decide, rfl⟩ rfl rfl (zall_at hR (by decide)) ?_
    refine zW.go 1 227 [(2, 261), z1, (0, x2), (0, x3)] [(0, x3), (2, 301), (0, x2)] _ rfl ?_
    obtain ⟨g, h⟩ := h
    refine w_iald (q := 301) rfl (by decide) (pc' := 228) rfl ⟨by decide, rfl⟩ rfl g rfl ?_
    refine zW.go 1 229 [(2, 261), z1, (0, x2), (0, x3)] [(0, (-1)), (0, (mem 301 (x3).toNat)), (0, x2)] _ rfl ?_
    refine w_ic_ne rfl (by decide) (pc' := 232) rfl ⟨h.1, by decide⟩ (fun c8 => ?_) (fun c8 => ?_)
    · have h := h.2.1 c8
      refine zW.go 2 247 [(2, 261), z1, (0, x2), (0, x3)] [(0, (x2 + 0))] _ rfl ?_
      refine zW.step 248 [(2, 261), z1, (0, (x2 + 0)), (0, x3)] [] _ rfl (by decide) (by decide) (by show some (_, zst1 [(2, 261), z1, (0, x2), (0, x3)] 2 _, _, _) = _; rw [zst1_z (ls := [(2, 261), z1, (0, x2), (0, x3)]) (i := 2) hz1]; rfl) ?_
      refine zW.go 2 208 [(2, 261), z1, (0, (x2 + 0)), (0, (x3 + 1))] [] _ rfl ?_
      exact h z1 hz1
    · have h := h.2.2 c8
      refine zW.go 2 234 [(2, 261), z1, (0, x2), (0, x3)] [(0, x3), (2, 261), (0, x2)] _ rfl ?_
      refine w_calli (as := [(2, 261), (0, x3)]) [(0, x2)] 237 rfl rfl rfl rfl (Nat.le_of_ble_eq_true rfl) (Nat.le_of_ble_eq_true rfl) (Nat.le_of_ble_eq_true rfl) (Or.inr rfl) (Ci.imp h (fun r9 mem10 h => ?_))
      refine zW.go 1 238 [(2, 261), z1, (0, x2), (0, x3)] [(0, (-1)), (0, r9), (0, x2)] _ rfl ?_
      refine w_ic_ne rfl (by decide) (pc' := 241) rfl ⟨h.1, by decide⟩ (fun c11 => ?_) (fun c11 => ?_)
      · have h := h.2.1 c11
        refine zW.go 2 247 [(2, 261), z1, (0, x2), (0, x3)] [(0, (x2 + 0))] _ rfl ?_
        refine zW.step 248 [(2, 261), z1, (0, (x2 + 0)), (0, x3)] [] _ rfl (by decide) (by decide) (by show some (_, zst1 [(2, 261), z1, (0, x2), (0, x3)] 2 _, _, _) = _; rw [zst1_z (ls := [(2, 261), z1, (0, x2), (0, x3)]) (i := 2) hz1]; rfl) ?_
        refine zW.go 2 208 [(2, 261), z1, (0, (x2 + 0)), (0, (x3 + 1))] [] _ rfl ?_
        exact h z1 hz1
      · have h := h.2.2 c11
        refine zW.go 3 247 [(2, 261), z1, (0, x2), (0, x3)] [(0, (x2 + 1))] _ rfl ?_
        refine zW.step 248 [(2, 261), z1, (0, (x2 + 1)), (0, x3)] [] _ rfl (by decide) (by decide) (by show some (_, zst1 [(2, 261), z1, (0, x2), (0, x3)] 2 _, _, _) = _; rw [zst1_z (ls := [(2, 261), z1, (0, x2), (0, x3)]) (i := 2) hz1]; rfl) ?_
        refine zW.go 2 208 [(2, 261), z1, (0, (x2 + 1)), (0, (x3 + 1))] [] _ rfl ?_
        exact h z1 hz1
set_option maxRecDepth 4000 in
theorem s_m_has {X : zX} {d : Nat} {rf mem : zF} {Q : Int → zF → Prop} (hR : zall rf zRK = true) {x1 : Int} (h : (inI x1) ∧ ((x1 = 0 → (0 ≤ (mem 261 13) ∧ (mem 261 13) < 2) ∧ (Q (mem 263 ((mem 261 13)).toNat) mem)) ∧ (x1 = 1 → (0 ≤ (mem 261 13) ∧ (mem 261 13) < 2) ∧ (Q (mem 264 ((mem 261 13)).toNat) mem)) ∧ (x1 = 2 → (0 ≤ (mem 261 13) ∧ (mem 261 13) < 2) ∧ (Q (mem 266 ((mem 261 13)).toNat) mem)) ∧ (x1 = 3 → (0 ≤ (mem 261 13) ∧ (mem 261 13) < 2) ∧ (Q (mem 271 ((mem 261 13)).toNat) mem)) ∧ (x1 = 4 → (0 ≤ (mem 261 13) ∧ (mem 261 13) < 2) ∧ (Q (mem 274 ((mem 261 13)).toNat) mem)) ∧ (x1 = 5 → Q (mem 293 0) mem) ∧ (x1 = 6 → L_m_has_127 X d rf Q mem 0 0) ∧ (x1 = 7 → L_m_has_167 X d rf Q mem 0 0) ∧ (x1 = 8 → L_m_has_208 X d rf Q mem 0 0) ∧ (x1 = 9 → Q (mem 303 0) mem) ∧ (x1 = 10 → Q (mem 261 70) mem) ∧ (x1 = 11 → Q (mem 261 65) mem) ∧ (x1 = 12 → Q (mem 261 66) mem) ∧ ((x1 ≠ 0 ∧ x1 ≠ 1 ∧ x1 ≠ 2 ∧ x1 ≠ 3 ∧ x1 ≠ 4 ∧ x1 ≠ 5 ∧ x1 ≠ 6 ∧ x1 ≠ 7 ∧ x1 ≠ 8 ∧ x1 ≠ 9 ∧ x1 ≠ 10 ∧ x1 ≠ 11 ∧ x1 ≠ 12) → Q (-1) mem))) : Ci X (d + 1) 273 [(2, 261), (0, x1)] rf mem Q := by
  show zW X (d + 1) 273 0 [(2, 261), (0, x1), (9, 0), (9, 0)] [] (zty, rf, mem) (qi rf Q)
  refine zW.go 3 3 [(2, 261), (0, x1), (0, 0), (9, 0)] [(0, x1)] _ rfl ?_
  obtain ⟨g, h⟩ := h
  by_cases e0 : x1 = 0
  · refine w_tabIn 68 rfl (by decide) g (by omega) (by rw [e0]; rfl) rfl ?_
    have h := h.1 e0
    refine zW.go 1 69 [(2, 261), (0, x1), (0, 0), (9, 0)] [(2, 261)] _ rfl ?_
    refine w_getL (q := 261) (v := 263) rfl (by decide) (pc' := 72) rfl ⟨by decide, rfl⟩ rfl rfl (zall_at hR (by decide)) ?_
    refine zW.go 1 73 [(2, 261), (0, x1), (0, 0), (9, 0)] [(2, 261), (2, 263)] _ rfl ?_
    refine w_getI (q := 261) rfl (by decide) (pc' := 76) rfl ⟨by decide, rfl⟩ rfl (by decide) ?_
    obtain ⟨g, h⟩ := h
    refine w_iald (q := 263) rfl (by decide) (pc' := 77) rfl ⟨by decide, rfl⟩ rfl g rfl ?_
    exact w_reti rfl rfl h
  · by_cases e1 : x1 = 1
    · refine w_tabIn 78 rfl (by decide) g (by omega) (by rw [e1]; rfl) rfl ?_
      have h := h.2.1 e1
      refine zW.go 1 79 [(2, 261), (0, x1), (0, 0), (9, 0)] [(2, 261)] _ rfl ?_
      refine w_getL (q := 261) (v := 264) rfl (by decide) (pc' := 82) rfl ⟨by decide, rfl⟩ rfl rfl (zall_at hR (by decide)) ?_
      refine zW.go 1 83 [(2, 261), (0, x1), (0, 0), (9, 0)] [(2, 261), (2, 264)] _ rfl ?_
      refine w_getI (q := 261) rfl (by decide) (pc' := 86) rfl ⟨by decide, rfl⟩ rfl (by decide) ?_
      obtain ⟨g, h⟩ := h
      refine w_iald (q := 264) rfl (by decide) (pc' := 87) rfl ⟨by decide, rfl⟩ rfl g rfl ?_
      exact w_reti rfl rfl h
    · by_cases e2 : x1 = 2
      · refine w_tabIn 88 rfl (by decide) g (by omega) (by rw [e2]; rfl) rfl ?_
        have h := h.2.2.1 e2
        refine zW.go 1 89 [(2, 261), (0, x1), (0, 0), (9, 0)] [(2, 261)] _ rfl ?_
        refine w_getL (q := 261) (v := 266) rfl (by decide) (pc' := 92) rfl ⟨by decide, rfl⟩ rfl rfl (zall_at hR (by decide)) ?_
        refine zW.go 1 93 [(2, 261), (0, x1), (0, 0), (9, 0)] [(2, 261), (2, 266)] _ rfl ?_
        refine w_getI (q := 261) rfl (by decide) (pc' := 96) rfl ⟨by decide, rfl⟩ rfl (by decide) ?_
        obtain ⟨g, h⟩ := h
        refine w_iald (q := 266) rfl (by decide) (pc' := 97) rfl ⟨by decide, rfl⟩ rfl g rfl ?_
        exact w_reti rfl rfl h
      · by_cases e3 : x1 = 3
        · refine w_tabIn 98 rfl (by decide) g (by omega) (by rw [e3]; rfl) rfl ?_
          have h := h.2.2.2.1 e3
          refine zW.go 1 99 [(2, 261), (0, x1), (0, 0), (9, 0)] [(2, 261)] _ rfl ?_
          refine w_getL (q := 261) (v := 271) rfl (by decide) (pc' := 102) rfl ⟨by decide, rfl⟩ rfl rfl (zall_at hR (by decide)) ?_
          refine zW.go 1 103 [(2, 261), (0, x1), (0, 0), (9, 0)] [(2, 261), (2, 271)] _ rfl ?_
          refine w_getI (q := 261) rfl (by decide) (pc' := 106) rfl ⟨by decide, rfl⟩ rfl (by decide) ?_
          obtain ⟨g, h⟩ := h
          refine w_iald (q := 271) rfl (by decide) (pc' := 107) rfl ⟨by decide, rfl⟩ rfl g rfl ?_
          exact w_reti rfl rfl h
        · by_cases e4 : x1 = 4
          · refine w_tabIn 108 rfl (by decide) g (by omega) (by rw [e4]; rfl) rfl ?_
            have h := h.2.2.2.2.1 e4
            refine zW.go 1 109 [(2, 261), (0, x1), (0, 0), (9, 0)] [(2, 261)] _ rfl ?_
            refine w_getL (q := 261) (v := 274) rfl (by decide) (pc' := 112) rfl ⟨by decide, rfl⟩ rfl rfl (zall_at hR (by decide)) ?_
            refine zW.go 1 113 [(2, 261), (0, x1), (0, 0), (9, 0)] [(2, 261), (2, 274)] _ rfl ?_
            refine w_getI (q := 261) rfl (by decide) (pc' := 116) rfl ⟨by decide, rfl⟩ rfl (by decide) ?_
            obtain ⟨g, h⟩ := h
            refine w_iald (q := 274) rfl (by decide) (pc' := 117) rfl ⟨by decide, rfl⟩ rfl g rfl ?_
            exact w_reti rfl rfl h
          · by_cases e5 : x1 = 5
            · refine w_tabIn 118 rfl (by decide) g (by omega) (by rw [e5]; rfl) rfl ?_
              have h := h.2.2.2.2.2.1 e5
              refine zW.go 1 119 [(2, 261), (0, x1), (0, 0), (9, 0)] [(2, 261)] _ rfl ?_
              refine w_getL (q := 261) (v := 293) rfl (by decide) (pc' := 122) rfl ⟨by decide, rfl⟩ rfl rfl (zall_at hR (by decide)) ?_
              refine zW.go 1 123 [(2, 261), (0, x1), (0, 0), (9, 0)] [(0, 0), (2, 293)] _ rfl ?_
              refine w_iald (q := 293) rfl (by decide) (pc' := 124) rfl ⟨by decide, rfl⟩ rfl (by decide) rfl ?_
              exact w_reti rfl rfl h
            · by_cases e6 : x1 = 6
              · refine w_tabIn 125 rfl (by decide) g (by omega) (by rw [e6]; rfl) rfl ?_
                have h := h.2.2.2.2.2.2.1 e6
                refine zW.go 2 127 [(2, 261), (0, x1), (0, 0), (0, 0)] [] _ rfl ?_
                exact h (0, x1) (by show (0 : Nat) ≠ 1; decide)
              · by_cases e7 : x1 = 7
                · refine w_tabIn 165 rfl (by decide) g (by omega) (by rw [e7]; rfl) rfl ?_
                  have h := h.2.2.2.2.2.2.2.1 e7
                  refine zW.go 2 167 [(2, 261), (0, x1), (0, 0), (0, 0)] [] _ rfl ?_
                  exact h (0, x1) (by show (0 : Nat) ≠ 1; decide)
                · by_cases e8 : x1 = 8
                  · refine w_tabIn 206 rfl (by decide) g (by omega) (by rw [e8]; rfl) rfl ?_
                    have h := h.2.2.2.2.2.2.2.2.1 e8
                    refine zW.go 2 208 [(2, 261), (0, x1), (0, 0), (0, 0)] [] _ rfl ?_
                    exact h (0, x1) (by show (0 : Nat) ≠ 1; decide)
                  · by_cases e9 : x1 = 9
                    · refine w_tabIn 256 rfl (by decide) g (by omega) (by rw [e9]; rfl) rfl ?_
                      have h := h.2.2.2.2.2.2.2.2.2.1 e9
                      refine zW.go 1 257 [(2, 261), (0, x1), (0, 0), (9, 0)] [(2, 261)] _ rfl ?_
                      refine w_getL (q := 261) (v := 303) rfl (by decide) (pc' := 260) rfl ⟨by decide, rfl⟩ rfl rfl (zall_at hR (by decide)) ?_
                      refine zW.go 1 261 [(2, 261), (0, x1), (0, 0), (9, 0)] [(0, 0), (2, 303)] _ rfl ?_
                      refine w_iald (q := 303) rfl (by decide) (pc' := 262) rfl ⟨by decide, rfl⟩ rfl (by decide) rfl ?_
                      exact w_reti rfl rfl h
                    · by_cases e10 : x1 = 10
                      · refine w_tabIn 263 rfl (by decide) g (by omega) (by rw [e10]; rfl) rfl ?_
                        have h := h.2.2.2.2.2.2.2.2.2.2.1 e10
                        refine zW.go 1 264 [(2, 261), (0, x1), (0, 0), (9, 0)] [(2, 261)] _ rfl ?_
                        refine w_getI (q := 261) rfl (by decide) (pc' := 267) rfl ⟨by decide, rfl⟩ rfl (by decide) ?_
                        exact w_reti rfl rfl h
                      · by_cases e11 : x1 = 11
                        · refine w_tabIn 268 rfl (by decide) g (by omega) (by rw [e11]; rfl) rfl ?_
                          have h := h.2.2.2.2.2.2.2.2.2.2.2.1 e11
                          refine zW.go 1 269 [(2, 261), (0, x1), (0, 0), (9, 0)] [(2, 261)] _ rfl ?_
                          refine w_getI (q := 261) rfl (by decide) (pc' := 272) rfl ⟨by decide, rfl⟩ rfl (by decide) ?_
                          exact w_reti rfl rfl h
                        · by_cases e12 : x1 = 12
                          · refine w_tabIn 273 rfl (by decide) g (by omega) (by rw [e12]; rfl) rfl ?_
                            have h := h.2.2.2.2.2.2.2.2.2.2.2.2.1 e12
                            refine zW.go 1 274 [(2, 261), (0, x1), (0, 0), (9, 0)] [(2, 261)] _ rfl ?_
                            refine w_getJ (q := 261) rfl (by decide) (pc' := 277) rfl ⟨by decide, rfl⟩ rfl (by decide) ?_
                            refine zW.go 1 278 [(2, 261), (0, x1), (0, 0), (9, 0)] [(0, (mem 261 66))] _ rfl ?_
                            exact w_reti rfl rfl h
                          · refine w_tabOut 279 rfl (by decide) g (by omega) rfl ?_
                            have h := h.2.2.2.2.2.2.2.2.2.2.2.2.2 ⟨e0, e1, e2, e3, e4, e5, e6, e7, e8, e9, e10, e11, e12⟩
                            refine zW.go 1 280 [(2, 261), (0, x1), (0, 0), (9, 0)] [(0, (-1))] _ rfl ?_
                            exact w_reti rfl rfl h
def L_m_letter_58 (X : zX) (d : Nat) (rf : zF) (Q : Int → zF → Prop) (mem : zF) (x3 : Int) (x4 : Int) (x6 : Int) (x7 : Int) : Prop := ∀ z0 : zV, ∀ z1 : zV, ∀ z2 : zV, zW X (d + 1) 274 58 [z0, z1, z2, (0, x3), (1, x4), (9, 0), (0, x6), (1, x7), (9, 0)] [] (zty, rf, mem) (qi rf Q)
set_option maxRecDepth 4000 in
theorem s_m_letter_58 {X : zX} {d : Nat} {rf mem : zF} {Q : Int → zF → Prop} (hR : zall rf zRK = true) {x3 : Int} {x4 : Int} {x6 : Int} {x7 : Int} (h : (inL x7 ∧ inL 0) ∧ ((inI (if x7 < 0 then -1 else if x7 = 0 then 0 else 1)) ∧ (((if x7 < 0 then -1 else if x7 = 0 then 0 else 1) ≤ 0 → (inI x3 ∧ inI x6) ∧ ((x3 < x6 → Q (((zlan (zlsr x4 (8 * ((x6 - 1) - x3))) 255) - 97) + 1) mem) ∧ (¬ x3 < x6 → Q 0 mem))) ∧ (¬ (if x7 < 0 then -1 else if x7 = 0 then 0 else 1) ≤ 0 → L_m_letter_58 X d rf Q mem x3 x4 (x6 + 1) (zlsr x7 8))))) : L_m_letter_58 X d rf Q mem x3 x4 x6 x7 := by
  intro z0 z1 z2
  refine zW.go 2 61 [z0, z1, z2, (0, x3), (1, x4), (9, 0), (0, x6), (1, x7), (9, 0)] [(1, 0), (1, x7)] _ rfl ?_
  obtain ⟨g, h⟩ := h
  refine w_lcmp rfl (by decide) (pc' := 62) rfl g ?_
  refine w_if_le rfl (by decide) (pc' := 65) rfl h.1 (fun c14 => ?_) (fun c14 => ?_)
  · have h := h.2.1 c14
    refine zW.go 2 81 [z0, z1, z2, (0, x3), (1, x4), (9, 0), (0, x6), (1, x7), (9, 0)] [(0, x6), (0, x3)] _ rfl ?_
    refine w_ic_lt rfl (by decide) (pc' := 84) rfl h.1 (fun c15 => ?_) (fun c15 => ?_)
    · have h := h.2.1 c15
      refine zW.go 16 110 [z0, z1, z2, (0, x3), (1, x4), (9, 0), (0, x6), (1, x7), (9, 0)] [(0, (((zlan (zlsr x4 (8 * ((x6 - 1) - x3))) 255) - 97) + 1))] _ rfl ?_
      exact w_reti rfl rfl h
    · have h := h.2.2 c15
      refine zW.go 2 110 [z0, z1, z2, (0, x3), (1, x4), (9, 0), (0, x6), (1, x7), (9, 0)] [(0, 0)] _ rfl ?_
      exact w_reti rfl rfl h
  · have h := h.2.2 c14
    refine zW.go 6 58 [z0, z1, z2, (0, x3), (1, x4), (9, 0), (0, (x6 + 1)), (1, (zlsr x7 8)), (9, 0)] [] _ rfl ?_
    exact h z0 z1 z2
set_option maxRecDepth 4000 in
theorem s_m_letter {X : zX} {d : Nat} {rf mem : zF} {Q : Int → zF → Prop} (hR : zall rf zRK = true) {x1 : Int} {x2 : Int} {x3 : Int} (h : Ci X d 194 [(0, x1), (0, 0), (0, 2)] rf mem (fun r1 mem2 => (inI r1) ∧ ((r1 = 0 → Q (-1) mem2) ∧ (¬ r1 = 0 → Ci X d 207 [(2, 261), (0, (mem2 261 13)), (0, x1)] rf mem2 (fun r4 mem5 => Ci X d 194 [(0, x2), (0, 0), (0, (r4 - 1))] rf mem5 (fun r6 mem7 => (inI r6) ∧ ((r6 = 0 → Q (-1) mem7) ∧ (¬ r6 = 0 → Ci X d 194 [(0, x3), (0, 0), (0, 5)] rf mem7 (fun r9 mem10 => (inI r9) ∧ ((¬ r9 = 0 → Cl X d 208 [(2, 261), (0, (mem10 261 13)), (0, x1), (0, x2)] rf mem10 (fun r12 mem13 => L_m_letter_58 X d rf Q mem13 x3 r12 0 r12)) ∧ (r9 = 0 → Q (-1) mem10))))))))))) : Ci X (d + 1) 274 [(2, 261), (0, x1), (0, x2), (0, x3)] rf mem Q := by
  show zW X (d + 1) 274 0 [(2, 261), (0, x1), (0, x2), (0, x3), (9, 0), (9, 0), (9, 0), (9, 0), (9, 0)] [] (zty, rf, mem) (qi rf Q)
  refine zW.go 3 3 [(2, 261), (0, x1), (0, x2), (0, x3), (9, 0), (9, 0), (9, 0), (9, 0), (9, 0)] [(0, 2), (0, 0), (0, x1)] _ rfl ?_
  refine w_calli (as := [(0, x1), (0, 0), (0, 2)]) [] 6 rfl rfl rfl rfl (Nat.le_of_ble_eq_true rfl) (Nat.le_of_ble_eq_true rfl) (Nat.le_of_ble_eq_true rfl) (Or.inl rfl) (Ci.imp h (fun r1 mem2 h => ?_))
  refine w_if_eq rfl (by decide) (pc' := 9) rfl h.1 (fun c3 => ?_) (fun c3 => ?_)
  · have h := h.2.1 c3
    refine zW.go 1 38 [(2, 261), (0, x1), (0, x2), (0, x3), (9, 0), (9, 0), (9, 0), (9, 0), (9, 0)] [(0, (-1))] _ rfl ?_
    exact w_reti rfl rfl h
  · have h := h.2.2 c3
    refine zW.go 4 13 [(2, 261), (0, x1), (0, x2), (0, x3), (9, 0), (9, 0), (9, 0), (9, 0), (9, 0)] [(2, 261), (2, 261), (0, 0), (0, x2)] _ rfl ?_
    refine w_getI (q := 261) rfl (by decide) (pc' := 16) rfl ⟨by decide, rfl⟩ rfl (by decide) ?_
    refine zW.go 1 17 [(2, 261), (0, x1), (0, x2), (0, x3), (9, 0), (9, 0), (9, 0), (9, 0), (9, 0)] [(0, x1), (0, (mem2 261 13)), (2, 261), (0, 0), (0, x2)] _ rfl ?_
    refine w_calli (as := [(2, 261), (0, (mem2 261 13)), (0, x1)]) [(0, 0), (0, x2)] 20 rfl rfl rfl rfl (Nat.le_of_ble_eq_true rfl) (Nat.le_of_ble_eq_true rfl) (Nat.le_of_ble_eq_true rfl) (Or.inr rfl) (Ci.imp h (fun r4 mem5 h => ?_))
    refine zW.go 2 22 [(2, 261), (0, x1), (0, x2), (0, x3), (9, 0), (9, 0), (9, 0), (9, 0), (9, 0)] [(0, (r4 - 1)), (0, 0), (0, x2)] _ rfl ?_
    refine w_calli (as := [(0, x2), (0, 0), (0, (r4 - 1))]) [] 25 rfl rfl rfl rfl (Nat.le_of_ble_eq_true rfl) (Nat.le_of_ble_eq_true rfl) (Nat.le_of_ble_eq_true rfl) (Or.inl rfl) (Ci.imp h (fun r6 mem7 h => ?_))
    refine w_if_eq rfl (by decide) (pc' := 28) rfl h.1 (fun c8 => ?_) (fun c8 => ?_)
    · have h := h.2.1 c8
      refine zW.go 1 38 [(2, 261), (0, x1), (0, x2), (0, x3), (9, 0), (9, 0), (9, 0), (9, 0), (9, 0)] [(0, (-1))] _ rfl ?_
      exact w_reti rfl rfl h
    · have h := h.2.2 c8
      refine zW.go 3 31 [(2, 261), (0, x1), (0, x2), (0, x3), (9, 0), (9, 0), (9, 0), (9, 0), (9, 0)] [(0, 5), (0, 0), (0, x3)] _ rfl ?_
      refine w_calli (as := [(0, x3), (0, 0), (0, 5)]) [] 34 rfl rfl rfl rfl (Nat.le_of_ble_eq_true rfl) (Nat.le_of_ble_eq_true rfl) (Nat.le_of_ble_eq_true rfl) (Or.inl rfl) (Ci.imp h (fun r9 mem10 h => ?_))
      refine w_if_ne rfl (by decide) (pc' := 37) rfl h.1 (fun c11 => ?_) (fun c11 => ?_)
      · have h := h.2.1 c11
        refine zW.go 2 41 [(2, 261), (0, x1), (0, x2), (0, x3), (9, 0), (9, 0), (9, 0), (9, 0), (9, 0)] [(2, 261), (2, 261)] _ rfl ?_
        refine w_getI (q := 261) rfl (by decide) (pc' := 44) rfl ⟨by decide, rfl⟩ rfl (by decide) ?_
        refine zW.go 2 46 [(2, 261), (0, x1), (0, x2), (0, x3), (9, 0), (9, 0), (9, 0), (9, 0), (9, 0)] [(0, x2), (0, x1), (0, (mem10 261 13)), (2, 261)] _ rfl ?_
        refine w_calll (as := [(2, 261), (0, (mem10 261 13)), (0, x1), (0, x2)]) [] 49 rfl rfl rfl rfl (Nat.le_of_ble_eq_true rfl) (Nat.le_of_ble_eq_true rfl) (Nat.le_of_ble_eq_true rfl) (Or.inr rfl) (Cl.imp h (fun r12 mem13 h => ?_))
        refine zW.go 5 58 [(2, 261), (0, x1), (0, x2), (0, x3), (1, r12), (9, 0), (0, 0), (1, r12), (9, 0)] [] _ rfl ?_
        exact h (2, 261) (0, x1) (0, x2)
      · have h := h.2.2 c11
        refine zW.go 1 38 [(2, 261), (0, x1), (0, x2), (0, x3), (9, 0), (9, 0), (9, 0), (9, 0), (9, 0)] [(0, (-1))] _ rfl ?_
        exact w_reti rfl rfl h
set_option maxRecDepth 4000 in
theorem s_m_partOf {X : zX} {d : Nat} {rf mem : zF} {Q : Int → zF → Prop} (hR : zall rf zRK = true) {x0 : Int} {x1 : Int} (h : (inI x0) ∧ ((¬ x0 = (-1) → (inI x1) ∧ ((¬ x1 = 0 → (inI x0) ∧ (Q (x0.tdiv 8) mem)) ∧ (x1 = 0 → (inI x0) ∧ (Q (x0.tmod 8) mem)))) ∧ (x0 = (-1) → Q (-1) mem))) : Ci X d 275 [(0, x0), (0, x1)] rf mem Q := by
  show zW X d 275 0 [(0, x0), (0, x1)] [] (zty, rf, mem) (qi rf Q)
  refine zW.go 2 2 [(0, x0), (0, x1)] [(0, (-1)), (0, x0)] _ rfl ?_
  refine w_ic_ne rfl (by decide) (pc' := 5) rfl ⟨h.1, by decide⟩ (fun c1 => ?_) (fun c1 => ?_)
  · have h := h.2.1 c1
    refine zW.go 1 10 [(0, x0), (0, x1)] [(0, x1)] _ rfl ?_
    refine w_if_ne rfl (by decide) (pc' := 13) rfl h.1 (fun c2 => ?_) (fun c2 => ?_)
    · have h := h.2.1 c2
      refine zW.go 2 23 [(0, x0), (0, x1)] [(0, 8), (0, x0)] _ rfl ?_
      obtain ⟨g, h⟩ := h
      refine w_idiv rfl (by decide) (pc' := 24) rfl ⟨g, by decide, by decide⟩ ?_
      exact w_reti rfl rfl h
    · have h := h.2.2 c2
      refine zW.go 2 16 [(0, x0), (0, x1)] [(0, 8), (0, x0)] _ rfl ?_
      obtain ⟨g, h⟩ := h
      refine w_irem rfl (by decide) (pc' := 17) rfl ⟨g, by decide, by decide⟩ ?_
      refine zW.go 1 24 [(0, x0), (0, x1)] [(0, (x0.tmod 8))] _ rfl ?_
      exact w_reti rfl rfl h
  · have h := h.2.2 c1
    refine zW.go 2 24 [(0, x0), (0, x1)] [(0, (-1))] _ rfl ?_
    exact w_reti rfl rfl h
set_option maxRecDepth 4000 in
theorem s_m_lamp {X : zX} {d : Nat} {rf mem : zF} {Q : Int → zF → Prop} (hR : zall rf zRK = true) {x1 : Int} (h : Ci X d 194 [(0, x1), (0, 0), (0, 1)] rf mem (fun r1 mem2 => (inI r1) ∧ ((r1 = 0 → Q (-1) mem2) ∧ (¬ r1 = 0 → Ci X d 275 [(0, (mem2 294 0)), (0, x1)] rf mem2 (fun r4 mem5 => Q r4 mem5))))) : Ci X (d + 1) 276 [(2, 261), (0, x1)] rf mem Q := by
  show zW X (d + 1) 276 0 [(2, 261), (0, x1)] [] (zty, rf, mem) (qi rf Q)
  refine zW.go 3 3 [(2, 261), (0, x1)] [(0, 1), (0, 0), (0, x1)] _ rfl ?_
  refine w_calli (as := [(0, x1), (0, 0), (0, 1)]) [] 6 rfl rfl rfl rfl (Nat.le_of_ble_eq_true rfl) (Nat.le_of_ble_eq_true rfl) (Nat.le_of_ble_eq_true rfl) (Or.inl rfl) (Ci.imp h (fun r1 mem2 h => ?_))
  refine w_if_eq rfl (by decide) (pc' := 9) rfl h.1 (fun c3 => ?_) (fun c3 => ?_)
  · have h := h.2.1 c3
    refine zW.go 1 23 [(2, 261), (0, x1)] [(0, (-1))] _ rfl ?_
    exact w_reti rfl rfl h
  · have h := h.2.2 c3
    refine zW.go 1 10 [(2, 261), (0, x1)] [(2, 261)] _ rfl ?_
    refine w_getL (q := 261) (v := 294) rfl (by decide) (pc' := 13) rfl ⟨by decide, rfl⟩ rfl rfl (zall_at hR (by decide)) ?_
    refine zW.go 1 14 [(2, 261), (0, x1)] [(0, 0), (2, 294)] _ rfl ?_
    refine w_iald (q := 294) rfl (by decide) (pc' := 15) rfl ⟨by decide, rfl⟩ rfl (by decide) rfl ?_
    refine zW.go 1 16 [(2, 261), (0, x1)] [(0, x1), (0, (mem2 294 0))] _ rfl ?_
    refine w_calli (as := [(0, (mem2 294 0)), (0, x1)]) [] 19 rfl rfl rfl rfl (Nat.le_of_ble_eq_true rfl) (Nat.le_of_ble_eq_true rfl) (Nat.le_of_ble_eq_true rfl) (Or.inl rfl) (Ci.imp h (fun r4 mem5 h => ?_))
    refine zW.go 1 23 [(2, 261), (0, x1)] [(0, r4)] _ rfl ?_
    exact w_reti rfl rfl h
set_option maxRecDepth 4000 in
theorem s_m_door {X : zX} {d : Nat} {rf mem : zF} {Q : Int → zF → Prop} (hR : zall rf zRK = true) {x1 : Int} {x2 : Int} (h : Ci X d 269 [(2, 261), (0, x1)] rf mem (fun r1 mem2 => (inI r1) ∧ ((¬ r1 = 0 → (inI x2) ∧ ((x2 = 0 → (0 ≤ ((6 * (mem2 261 13)) + x1) ∧ ((6 * (mem2 261 13)) + x1) < 12) ∧ (Ci X d 275 [(0, (mem2 267 (((6 * (mem2 261 13)) + x1)).toNat)), (0, x2)] rf mem2 (fun r4 mem5 => Q r4 mem5))) ∧ (x2 = 1 → (0 ≤ ((6 * (mem2 261 13)) + x1) ∧ ((6 * (mem2 261 13)) + x1) < 12) ∧ (Ci X d 275 [(0, (mem2 267 (((6 * (mem2 261 13)) + x1)).toNat)), (0, x2)] rf mem2 (fun r6 mem7 => Q r6 mem7))) ∧ (x2 = 2 → (0 ≤ ((6 * (mem2 261 13)) + x1) ∧ ((6 * (mem2 261 13)) + x1) < 12) ∧ (Q (mem2 268 (((6 * (mem2 261 13)) + x1)).toNat) mem2)) ∧ (x2 = 3 → (0 ≤ ((6 * (mem2 261 13)) + x1) ∧ ((6 * (mem2 261 13)) + x1) < 12) ∧ (Q (mem2 269 (((6 * (mem2 261 13)) + x1)).toNat) mem2)) ∧ (x2 = 4 → Ci X d 223 [(0, (mem2 295 0)), (0, x1)] rf mem2 (fun r8 mem9 => (inI r8) ∧ ((r8 = 0 → Q 0 mem9) ∧ (¬ r8 = 0 → Q 1 mem9)))) ∧ ((x2 ≠ 0 ∧ x2 ≠ 1 ∧ x2 ≠ 2 ∧ x2 ≠ 3 ∧ x2 ≠ 4) → Q (-1) mem2))) ∧ (r1 = 0 → Q (-1) mem2)))) : Ci X (d + 1) 277 [(2, 261), (0, x1), (0, x2)] rf mem Q := by
  show zW X (d + 1) 277 0 [(2, 261), (0, x1), (0, x2)] [] (zty, rf, mem) (qi rf Q)
  refine zW.go 2 2 [(2, 261), (0, x1), (0, x2)] [(0, x1), (2, 261)] _ rfl ?_
  refine w_calli (as := [(2, 261), (0, x1)]) [] 5 rfl rfl rfl rfl (Nat.le_of_ble_eq_true rfl) (Nat.le_of_ble_eq_true rfl) (Nat.le_of_ble_eq_true rfl) (Or.inr rfl) (Ci.imp h (fun r1 mem2 h => ?_))
  refine w_if_ne rfl (by decide) (pc' := 8) rfl h.1 (fun c3 => ?_) (fun c3 => ?_)
  · have h := h.2.1 c3
    refine zW.go 1 11 [(2, 261), (0, x1), (0, x2)] [(0, x2)] _ rfl ?_
    obtain ⟨g, h⟩ := h
    by_cases e0 : x2 = 0
    · refine w_tabIn 44 rfl (by decide) g (by omega) (by rw [e0]; rfl) rfl ?_
      have h := h.1 e0
      refine zW.go 1 45 [(2, 261), (0, x1), (0, x2)] [(2, 261)] _ rfl ?_
      refine w_getL (q := 261) (v := 267) rfl (by decide) (pc' := 48) rfl ⟨by decide, rfl⟩ rfl rfl (zall_at hR (by decide)) ?_
      refine zW.go 2 51 [(2, 261), (0, x1), (0, x2)] [(2, 261), (0, 6), (2, 267)] _ rfl ?_
      refine w_getI (q := 261) rfl (by decide) (pc' := 54) rfl ⟨by decide, rfl⟩ rfl (by decide) ?_
      refine zW.go 3 57 [(2, 261), (0, x1), (0, x2)] [(0, ((6 * (mem2 261 13)) + x1)), (2, 267)] _ rfl ?_
      obtain ⟨g, h⟩ := h
      refine w_iald (q := 267) rfl (by decide) (pc' := 58) rfl ⟨by decide, rfl⟩ rfl g rfl ?_
      refine zW.go 1 59 [(2, 261), (0, x1), (0, x2)] [(0, x2), (0, (mem2 267 (((6 * (mem2 261 13)) + x1)).toNat))] _ rfl ?_
      refine w_calli (as := [(0, (mem2 267 (((6 * (mem2 261 13)) + x1)).toNat)), (0, x2)]) [] 62 rfl rfl rfl rfl (Nat.le_of_ble_eq_true rfl) (Nat.le_of_ble_eq_true rfl) (Nat.le_of_ble_eq_true rfl) (Or.inl rfl) (Ci.imp h (fun r4 mem5 h => ?_))
      exact w_reti rfl rfl h
    · by_cases e1 : x2 = 1
      · refine w_tabIn 44 rfl (by decide) g (by omega) (by rw [e1]; rfl) rfl ?_
        have h := h.2.1 e1
        refine zW.go 1 45 [(2, 261), (0, x1), (0, x2)] [(2, 261)] _ rfl ?_
        refine w_getL (q := 261) (v := 267) rfl (by decide) (pc' := 48) rfl ⟨by decide, rfl⟩ rfl rfl (zall_at hR (by decide)) ?_
        refine zW.go 2 51 [(2, 261), (0, x1), (0, x2)] [(2, 261), (0, 6), (2, 267)] _ rfl ?_
        refine w_getI (q := 261) rfl (by decide) (pc' := 54) rfl ⟨by decide, rfl⟩ rfl (by decide) ?_
        refine zW.go 3 57 [(2, 261), (0, x1), (0, x2)] [(0, ((6 * (mem2 261 13)) + x1)), (2, 267)] _ rfl ?_
        obtain ⟨g, h⟩ := h
        refine w_iald (q := 267) rfl (by decide) (pc' := 58) rfl ⟨by decide, rfl⟩ rfl g rfl ?_
        refine zW.go 1 59 [(2, 261), (0, x1), (0, x2)] [(0, x2), (0, (mem2 267 (((6 * (mem2 261 13)) + x1)).toNat))] _ rfl ?_
        refine w_calli (as := [(0, (mem2 267 (((6 * (mem2 261 13)) + x1)).toNat)), (0, x2)]) [] 62 rfl rfl rfl rfl (Nat.le_of_ble_eq_true rfl) (Nat.le_of_ble_eq_true rfl) (Nat.le_of_ble_eq_true rfl) (Or.inl rfl) (Ci.imp h (fun r6 mem7 h => ?_))
        exact w_reti rfl rfl h
      · by_cases e2 : x2 = 2
        · refine w_tabIn 63 rfl (by decide) g (by omega) (by rw [e2]; rfl) rfl ?_
          have h := h.2.2.1 e2
          refine zW.go 1 64 [(2, 261), (0, x1), (0, x2)] [(2, 261)] _ rfl ?_
          refine w_getL (q := 261) (v := 268) rfl (by decide) (pc' := 67) rfl ⟨by decide, rfl⟩ rfl rfl (zall_at hR (by decide)) ?_
          refine zW.go 2 70 [(2, 261), (0, x1), (0, x2)] [(2, 261), (0, 6), (2, 268)] _ rfl ?_
          refine w_getI (q := 261) rfl (by decide) (pc' := 73) rfl ⟨by decide, rfl⟩ rfl (by decide) ?_
          refine zW.go 3 76 [(2, 261), (0, x1), (0, x2)] [(0, ((6 * (mem2 261 13)) + x1)), (2, 268)] _ rfl ?_
          obtain ⟨g, h⟩ := h
          refine w_iald (q := 268) rfl (by decide) (pc' := 77) rfl ⟨by decide, rfl⟩ rfl g rfl ?_
          exact w_reti rfl rfl h
        · by_cases e3 : x2 = 3
          · refine w_tabIn 78 rfl (by decide) g (by omega) (by rw [e3]; rfl) rfl ?_
            have h := h.2.2.2.1 e3
            refine zW.go 1 79 [(2, 261), (0, x1), (0, x2)] [(2, 261)] _ rfl ?_
            refine w_getL (q := 261) (v := 269) rfl (by decide) (pc' := 82) rfl ⟨by decide, rfl⟩ rfl rfl (zall_at hR (by decide)) ?_
            refine zW.go 2 85 [(2, 261), (0, x1), (0, x2)] [(2, 261), (0, 6), (2, 269)] _ rfl ?_
            refine w_getI (q := 261) rfl (by decide) (pc' := 88) rfl ⟨by decide, rfl⟩ rfl (by decide) ?_
            refine zW.go 3 91 [(2, 261), (0, x1), (0, x2)] [(0, ((6 * (mem2 261 13)) + x1)), (2, 269)] _ rfl ?_
            obtain ⟨g, h⟩ := h
            refine w_iald (q := 269) rfl (by decide) (pc' := 92) rfl ⟨by decide, rfl⟩ rfl g rfl ?_
            exact w_reti rfl rfl h
          · by_cases e4 : x2 = 4
            · refine w_tabIn 93 rfl (by decide) g (by omega) (by rw [e4]; rfl) rfl ?_
              have h := h.2.2.2.2.1 e4
              refine zW.go 1 94 [(2, 261), (0, x1), (0, x2)] [(2, 261)] _ rfl ?_
              refine w_getL (q := 261) (v := 295) rfl (by decide) (pc' := 97) rfl ⟨by decide, rfl⟩ rfl rfl (zall_at hR (by decide)) ?_
              refine zW.go 1 98 [(2, 261), (0, x1), (0, x2)] [(0, 0), (2, 295)] _ rfl ?_
              refine w_iald (q := 295) rfl (by decide) (pc' := 99) rfl ⟨by decide, rfl⟩ rfl (by decide) rfl ?_
              refine zW.go 1 100 [(2, 261), (0, x1), (0, x2)] [(0, x1), (0, (mem2 295 0))] _ rfl ?_
              refine w_calli (as := [(0, (mem2 295 0)), (0, x1)]) [] 103 rfl rfl rfl rfl (Nat.le_of_ble_eq_true rfl) (Nat.le_of_ble_eq_true rfl) (Nat.le_of_ble_eq_true rfl) (Or.inl rfl) (Ci.imp h (fun r8 mem9 h => ?_))
              refine w_if_eq rfl (by decide) (pc' := 106) rfl h.1 (fun c10 => ?_) (fun c10 => ?_)
              · have h := h.2.1 c10
                refine zW.go 1 111 [(2, 261), (0, x1), (0, x2)] [(0, 0)] _ rfl ?_
                exact w_reti rfl rfl h
              · have h := h.2.2 c10
                refine zW.go 2 111 [(2, 261), (0, x1), (0, x2)] [(0, 1)] _ rfl ?_
                exact w_reti rfl rfl h
            · refine w_tabOut 112 rfl (by decide) g (by omega) rfl ?_
              have h := h.2.2.2.2.2 ⟨e0, e1, e2, e3, e4⟩
              refine zW.go 1 113 [(2, 261), (0, x1), (0, x2)] [(0, (-1))] _ rfl ?_
              exact w_reti rfl rfl h
  · have h := h.2.2 c3
    refine zW.go 1 9 [(2, 261), (0, x1), (0, x2)] [(0, (-1))] _ rfl ?_
    exact w_reti rfl rfl h
def L_m_ownedBy_5 (X : zX) (d : Nat) (rf : zF) (Q : Int → zF → Prop) (mem : zF) (x1 : Int) (x2 : Int) (x3 : Int) (x4 : Int) : Prop := zW X d 278 5 [(2, 261), (0, x1), (0, x2), (0, x3), (0, x4)] [] (zty, rf, mem) (qi rf Q)
set_option maxRecDepth 4000 in
theorem s_m_ownedBy_5 {X : zX} {d : Nat} {rf mem : zF} {Q : Int → zF → Prop} (hR : zall rf zRK = true) {x1 : Int} {x2 : Int} {x3 : Int} {x4 : Int} (h : (0 ≤ (mem 261 13) ∧ (mem 261 13) < 2) ∧ ((inI x4 ∧ inI (mem 274 ((mem 261 13)).toNat)) ∧ (((mem 274 ((mem 261 13)).toNat) ≤ x4 → Q x3 mem) ∧ (¬ (mem 274 ((mem 261 13)).toNat) ≤ x4 → (0 ≤ ((6 * x1) + x4) ∧ ((6 * x1) + x4) < 132) ∧ ((inI (mem 301 (((6 * x1) + x4)).toNat) ∧ inI x2) ∧ ((¬ (mem 301 (((6 * x1) + x4)).toNat) = x2 → L_m_ownedBy_5 X d rf Q mem x1 x2 (x3 + 0) (x4 + 1)) ∧ ((mem 301 (((6 * x1) + x4)).toNat) = x2 → L_m_ownedBy_5 X d rf Q mem x1 x2 (x3 + 1) (x4 + 1)))))))) : L_m_ownedBy_5 X d rf Q mem x1 x2 x3 x4 := by
  refine zW.go 2 8 [(2, 261), (0, x1), (0, x2), (0, x3), (0, x4)] [(2, 261), (0, x4)] _ rfl ?_
  refine w_getL (q := 261) (v := 274) rfl (by decide) (pc' := 11) rfl ⟨by decide, rfl⟩ rfl rfl (zall_at hR (by decide)) ?_
  refine zW.go 1 12 [(2, 261), (0, x1), (0, x2), (0, x3), (0, x4)] [(2, 261), (2, 274), (0, x4)] _ rfl ?_
  refine w_getI (q := 261) rfl (by decide) (pc' := 15) rfl ⟨by decide, rfl⟩ rfl (by decide) ?_
  obtain ⟨g, h⟩ := h
  refine w_iald (q := 274) rfl (by decide) (pc' := 16) rfl ⟨by decide, rfl⟩ rfl g rfl ?_
  refine w_ic_ge rfl (by decide) (pc' := 19) rfl h.1 (fun c1 => ?_) (fun c1 => ?_)
  · have h := h.2.1 c1
    refine zW.go 1 50 [(2, 261), (0, x1), (0, x2), (0, x3), (0, x4)] [(0, x3)] _ rfl ?_
    exact w_reti rfl rfl h
  · have h := h.2.2 c1
    refine zW.go 2 21 [(2, 261), (0, x1), (0, x2), (0, x3), (0, x4)] [(2, 261), (0, x3)] _ rfl ?_
    refine w_getL (q := 261) (v := 301) rfl (by decide) (pc' := 24) rfl ⟨by decide, rfl⟩ rfl rfl (zall_at hR (by decide)) ?_
    refine zW.go 5 31 [(2, 261), (0, x1), (0, x2), (0, x3), (0, x4)] [(0, ((6 * x1) + x4)), (2, 301), (0, x3)] _ rfl ?_
    obtain ⟨g, h⟩ := h
    refine w_iald (q := 301) rfl (by decide) (pc' := 32) rfl ⟨by decide, rfl⟩ rfl g rfl ?_
    refine zW.go 1 33 [(2, 261), (0, x1), (0, x2), (0, x3), (0, x4)] [(0, x2), (0, (mem 301 (((6 * x1) + x4)).toNat)), (0, x3)] _ rfl ?_
    refine w_ic_ne rfl (by decide) (pc' := 36) rfl h.1 (fun c2 => ?_) (fun c2 => ?_)
    · have h := h.2.1 c2
      refine zW.go 5 5 [(2, 261), (0, x1), (0, x2), (0, (x3 + 0)), (0, (x4 + 1))] [] _ rfl ?_
      exact h
    · have h := h.2.2 c2
      refine zW.go 6 5 [(2, 261), (0, x1), (0, x2), (0, (x3 + 1)), (0, (x4 + 1))] [] _ rfl ?_
      exact h
set_option maxRecDepth 4000 in
theorem s_m_ownedBy {X : zX} {d : Nat} {rf mem : zF} {Q : Int → zF → Prop} (hR : zall rf zRK = true) {x1 : Int} {x2 : Int} (h : L_m_ownedBy_5 X d rf Q mem x1 x2 0 0) : Ci X d 278 [(2, 261), (0, x1), (0, x2)] rf mem Q := by
  show zW X d 278 0 [(2, 261), (0, x1), (0, x2), (9, 0), (9, 0)] [] (zty, rf, mem) (qi rf Q)
  refine zW.go 4 5 [(2, 261), (0, x1), (0, x2), (0, 0), (0, 0)] [] _ rfl ?_
  exact h
def L_m_heir_84 (X : zX) (d : Nat) (rf : zF) (Q : Int → zF → Prop) (mem : zF) (x1 : Int) (x3 : Int) (x4 : Int) : Prop := ∀ z2 : zV, z2.1 ≠ 1 → zW X (d + 1) 279 84 [(2, 261), (0, x1), z2, (0, x3), (0, x4)] [] (zty, rf, mem) (qi rf Q)
set_option maxRecDepth 4000 in
theorem s_m_heir_84 {X : zX} {d : Nat} {rf mem : zF} {Q : Int → zF → Prop} (hR : zall rf zRK = true) {x1 : Int} {x3 : Int} {x4 : Int} (h : (0 ≤ (mem 261 13) ∧ (mem 261 13) < 2) ∧ ((inI x4 ∧ inI (mem 274 ((mem 261 13)).toNat)) ∧ (((mem 274 ((mem 261 13)).toNat) ≤ x4 → Q x3 mem) ∧ (¬ (mem 274 ((mem 261 13)).toNat) ≤ x4 → (0 ≤ x4 ∧ x4 < 132) ∧ ((inI (mem 301 (x4).toNat) ∧ inI x1) ∧ ((¬ (mem 301 (x4).toNat) = x1 → L_m_heir_84 X d rf Q mem x1 (x3 + 0) (x4 + 1)) ∧ ((mem 301 (x4).toNat) = x1 → (0 ≤ x4 ∧ x4 < 132) ∧ (L_m_heir_84 X d rf Q mem x1 (x3 + (mem 302 (x4).toNat)) (x4 + 1))))))))) : L_m_heir_84 X d rf Q mem x1 x3 x4 := by
  intro z2 hz2
  refine zW.go 2 87 [(2, 261), (0, x1), z2, (0, x3), (0, x4)] [(2, 261), (0, x4)] _ rfl ?_
  refine w_getL (q := 261) (v := 274) rfl (by decide) (pc' := 90) rfl ⟨by decide, rfl⟩ rfl rfl (zall_at hR (by decide)) ?_
  refine zW.go 1 91 [(2, 261), (0, x1), z2, (0, x3), (0, x4)] [(2, 261), (2, 274), (0, x4)] _ rfl ?_
  refine w_getI (q := 261) rfl (by decide) (pc' := 94) rfl ⟨by decide, rfl⟩ rfl (by decide) ?_
  obtain ⟨g, h⟩ := h
  refine w_iald (q := 274) rfl (by decide) (pc' := 95) rfl ⟨by decide, rfl⟩ rfl g rfl ?_
  refine w_ic_ge rfl (by decide) (pc' := 98) rfl h.1 (fun c10 => ?_) (fun c10 => ?_)
  · have h := h.2.1 c10
    refine zW.go 1 130 [(2, 261), (0, x1), z2, (0, x3), (0, x4)] [(0, x3)] _ rfl ?_
    exact w_reti rfl rfl h
  · have h := h.2.2 c10
    refine zW.go 2 100 [(2, 261), (0, x1), z2, (0, x3), (0, x4)] [(2, 261), (0, x3)] _ rfl ?_
    refine w_getL (q := 261) (v := 301) rfl (by decide) (pc' := 103) rfl ⟨by decide, rfl⟩ rfl rfl (zall_at hR (by decide)) ?_
    refine zW.go 1 105 [(2, 261), (0, x1), z2, (0, x3), (0, x4)] [(0, x4), (2, 301), (0, x3)] _ rfl ?_
    obtain ⟨g, h⟩ := h
    refine w_iald (q := 301) rfl (by decide) (pc' := 106) rfl ⟨by decide, rfl⟩ rfl g rfl ?_
    refine zW.go 1 107 [(2, 261), (0, x1), z2, (0, x3), (0, x4)] [(0, x1), (0, (mem 301 (x4).toNat)), (0, x3)] _ rfl ?_
    refine w_ic_ne rfl (by decide) (pc' := 110) rfl h.1 (fun c11 => ?_) (fun c11 => ?_)
    · have h := h.2.1 c11
      refine zW.go 2 122 [(2, 261), (0, x1), z2, (0, x3), (0, x4)] [(0, (x3 + 0))] _ rfl ?_
      refine zW.step 123 [(2, 261), (0, x1), z2, (0, (x3 + 0)), (0, x4)] [] _ rfl (by decide) (by decide) (by show some (_, zst1 [(2, 261), (0, x1), z2, (0, x3), (0, x4)] 3 _, _, _) = _; rw [zst1_z (ls := [(2, 261), (0, x1), z2, (0, x3), (0, x4)]) (i := 3) hz2]; rfl) ?_
      refine zW.go 2 84 [(2, 261), (0, x1), z2, (0, (x3 + 0)), (0, (x4 + 1))] [] _ rfl ?_
      exact h z2 hz2
    · have h := h.2.2 c11
      refine zW.go 1 111 [(2, 261), (0, x1), z2, (0, x3), (0, x4)] [(2, 261), (0, x3)] _ rfl ?_
      refine w_getL (q := 261) (v := 302) rfl (by decide) (pc' := 114) rfl ⟨by decide, rfl⟩ rfl rfl (zall_at hR (by decide)) ?_
      refine zW.go 1 116 [(2, 261), (0, x1), z2, (0, x3), (0, x4)] [(0, x4), (2, 302), (0, x3)] _ rfl ?_
      obtain ⟨g, h⟩ := h
      refine w_iald (q := 302) rfl (by decide) (pc' := 117) rfl ⟨by decide, rfl⟩ rfl g rfl ?_
      refine zW.go 2 122 [(2, 261), (0, x1), z2, (0, x3), (0, x4)] [(0, (x3 + (mem 302 (x4).toNat)))] _ rfl ?_
      refine zW.step 123 [(2, 261), (0, x1), z2, (0, (x3 + (mem 302 (x4).toNat))), (0, x4)] [] _ rfl (by decide) (by decide) (by show some (_, zst1 [(2, 261), (0, x1), z2, (0, x3), (0, x4)] 3 _, _, _) = _; rw [zst1_z (ls := [(2, 261), (0, x1), z2, (0, x3), (0, x4)]) (i := 3) hz2]; rfl) ?_
      refine zW.go 2 84 [(2, 261), (0, x1), z2, (0, (x3 + (mem 302 (x4).toNat))), (0, (x4 + 1))] [] _ rfl ?_
      exact h z2 hz2
set_option maxRecDepth 4000 in
theorem s_m_heir {X : zX} {d : Nat} {rf mem : zF} {Q : Int → zF → Prop} (hR : zall rf zRK = true) {x1 : Int} {x2 : Int} (h : Ci X d 270 [(2, 261), (0, x1)] rf mem (fun r1 mem2 => (inI r1) ∧ ((¬ r1 = 0 → (inI x2) ∧ ((x2 = 0 → (0 ≤ x1 ∧ x1 < 132) ∧ (Ci X d 275 [(0, (mem2 296 (x1).toNat)), (0, x2)] rf mem2 (fun r4 mem5 => Q r4 mem5))) ∧ (x2 = 1 → (0 ≤ x1 ∧ x1 < 132) ∧ (Ci X d 275 [(0, (mem2 296 (x1).toNat)), (0, x2)] rf mem2 (fun r6 mem7 => Q r6 mem7))) ∧ (x2 = 2 → (0 ≤ ((6 * (mem2 261 13)) + x1) ∧ ((6 * (mem2 261 13)) + x1) < 12) ∧ (Q (mem2 273 (((6 * (mem2 261 13)) + x1)).toNat) mem2)) ∧ (x2 = 3 → Ci X d 278 [(2, 261), (0, 0), (0, x1)] rf mem2 (fun r8 mem9 => Q r8 mem9)) ∧ (x2 = 4 → L_m_heir_84 X d rf Q mem2 x1 0 0) ∧ ((x2 ≠ 0 ∧ x2 ≠ 1 ∧ x2 ≠ 2 ∧ x2 ≠ 3 ∧ x2 ≠ 4) → Q (-1) mem2))) ∧ (r1 = 0 → Q (-1) mem2)))) : Ci X (d + 1) 279 [(2, 261), (0, x1), (0, x2)] rf mem Q := by
  show zW X (d + 1) 279 0 [(2, 261), (0, x1), (0, x2), (9, 0), (9, 0)] [] (zty, rf, mem) (qi rf Q)
  refine zW.go 2 2 [(2, 261), (0, x1), (0, x2), (9, 0), (9, 0)] [(0, x1), (2, 261)] _ rfl ?_
  refine w_calli (as := [(2, 261), (0, x1)]) [] 5 rfl rfl rfl rfl (Nat.le_of_ble_eq_true rfl) (Nat.le_of_ble_eq_true rfl) (Nat.le_of_ble_eq_true rfl) (Or.inr rfl) (Ci.imp h (fun r1 mem2 h => ?_))
  refine w_if_ne rfl (by decide) (pc' := 8) rfl h.1 (fun c3 => ?_) (fun c3 => ?_)
  · have h := h.2.1 c3
    refine zW.go 3 13 [(2, 261), (0, x1), (0, x2), (0, 0), (9, 0)] [(0, x2)] _ rfl ?_
    obtain ⟨g, h⟩ := h
    by_cases e0 : x2 = 0
    · refine w_tabIn 48 rfl (by decide) g (by omega) (by rw [e0]; rfl) rfl ?_
      have h := h.1 e0
      refine zW.go 1 49 [(2, 261), (0, x1), (0, x2), (0, 0), (9, 0)] [(2, 261)] _ rfl ?_
      refine w_getL (q := 261) (v := 296) rfl (by decide) (pc' := 52) rfl ⟨by decide, rfl⟩ rfl rfl (zall_at hR (by decide)) ?_
      refine zW.go 1 53 [(2, 261), (0, x1), (0, x2), (0, 0), (9, 0)] [(0, x1), (2, 296)] _ rfl ?_
      obtain ⟨g, h⟩ := h
      refine w_iald (q := 296) rfl (by decide) (pc' := 54) rfl ⟨by decide, rfl⟩ rfl g rfl ?_
      refine zW.go 1 55 [(2, 261), (0, x1), (0, x2), (0, 0), (9, 0)] [(0, x2), (0, (mem2 296 (x1).toNat))] _ rfl ?_
      refine w_calli (as := [(0, (mem2 296 (x1).toNat)), (0, x2)]) [] 58 rfl rfl rfl rfl (Nat.le_of_ble_eq_true rfl) (Nat.le_of_ble_eq_true rfl) (Nat.le_of_ble_eq_true rfl) (Or.inl rfl) (Ci.imp h (fun r4 mem5 h => ?_))
      exact w_reti rfl rfl h
    · by_cases e1 : x2 = 1
      · refine w_tabIn 48 rfl (by decide) g (by omega) (by rw [e1]; rfl) rfl ?_
        have h := h.2.1 e1
        refine zW.go 1 49 [(2, 261), (0, x1), (0, x2), (0, 0), (9, 0)] [(2, 261)] _ rfl ?_
        refine w_getL (q := 261) (v := 296) rfl (by decide) (pc' := 52) rfl ⟨by decide, rfl⟩ rfl rfl (zall_at hR (by decide)) ?_
        refine zW.go 1 53 [(2, 261), (0, x1), (0, x2), (0, 0), (9, 0)] [(0, x1), (2, 296)] _ rfl ?_
        obtain ⟨g, h⟩ := h
        refine w_iald (q := 296) rfl (by decide) (pc' := 54) rfl ⟨by decide, rfl⟩ rfl g rfl ?_
        refine zW.go 1 55 [(2, 261), (0, x1), (0, x2), (0, 0), (9, 0)] [(0, x2), (0, (mem2 296 (x1).toNat))] _ rfl ?_
        refine w_calli (as := [(0, (mem2 296 (x1).toNat)), (0, x2)]) [] 58 rfl rfl rfl rfl (Nat.le_of_ble_eq_true rfl) (Nat.le_of_ble_eq_true rfl) (Nat.le_of_ble_eq_true rfl) (Or.inl rfl) (Ci.imp h (fun r6 mem7 h => ?_))
        exact w_reti rfl rfl h
      · by_cases e2 : x2 = 2
        · refine w_tabIn 59 rfl (by decide) g (by omega) (by rw [e2]; rfl) rfl ?_
          have h := h.2.2.1 e2
          refine zW.go 1 60 [(2, 261), (0, x1), (0, x2), (0, 0), (9, 0)] [(2, 261)] _ rfl ?_
          refine w_getL (q := 261) (v := 273) rfl (by decide) (pc' := 63) rfl ⟨by decide, rfl⟩ rfl rfl (zall_at hR (by decide)) ?_
          refine zW.go 2 66 [(2, 261), (0, x1), (0, x2), (0, 0), (9, 0)] [(2, 261), (0, 6), (2, 273)] _ rfl ?_
          refine w_getI (q := 261) rfl (by decide) (pc' := 69) rfl ⟨by decide, rfl⟩ rfl (by decide) ?_
          refine zW.go 3 72 [(2, 261), (0, x1), (0, x2), (0, 0), (9, 0)] [(0, ((6 * (mem2 261 13)) + x1)), (2, 273)] _ rfl ?_
          obtain ⟨g, h⟩ := h
          refine w_iald (q := 273) rfl (by decide) (pc' := 73) rfl ⟨by decide, rfl⟩ rfl g rfl ?_
          exact w_reti rfl rfl h
        · by_cases e3 : x2 = 3
          · refine w_tabIn 74 rfl (by decide) g (by omega) (by rw [e3]; rfl) rfl ?_
            have h := h.2.2.2.1 e3
            refine zW.go 3 77 [(2, 261), (0, x1), (0, x2), (0, 0), (9, 0)] [(0, x1), (0, 0), (2, 261)] _ rfl ?_
            refine w_calli (as := [(2, 261), (0, 0), (0, x1)]) [] 80 rfl rfl rfl rfl (Nat.le_of_ble_eq_true rfl) (Nat.le_of_ble_eq_true rfl) (Nat.le_of_ble_eq_true rfl) (Or.inr rfl) (Ci.imp h (fun r8 mem9 h => ?_))
            exact w_reti rfl rfl h
          · by_cases e4 : x2 = 4
            · refine w_tabIn 81 rfl (by decide) g (by omega) (by rw [e4]; rfl) rfl ?_
              have h := h.2.2.2.2.1 e4
              refine zW.go 2 84 [(2, 261), (0, x1), (0, x2), (0, 0), (0, 0)] [] _ rfl ?_
              exact h (0, x2) (by show (0 : Nat) ≠ 1; decide)
            · refine w_tabOut 131 rfl (by decide) g (by omega) rfl ?_
              have h := h.2.2.2.2.2 ⟨e0, e1, e2, e3, e4⟩
              refine zW.go 1 132 [(2, 261), (0, x1), (0, x2), (0, 0), (9, 0)] [(0, (-1))] _ rfl ?_
              exact w_reti rfl rfl h
  · have h := h.2.2 c3
    refine zW.go 1 9 [(2, 261), (0, x1), (0, x2), (9, 0), (9, 0)] [(0, (-1))] _ rfl ?_
    exact w_reti rfl rfl h
set_option maxRecDepth 4000 in
theorem s_m_bubble {X : zX} {d : Nat} {rf mem : zF} {Q : Int → zF → Prop} (hR : zall rf zRK = true) {x1 : Int} {x2 : Int} (h : Ci X d 271 [(2, 261), (0, x1)] rf mem (fun r1 mem2 => (inI r1) ∧ ((¬ r1 = 0 → (inI x2) ∧ ((x2 = 0 → (0 ≤ x1 ∧ x1 < 132) ∧ (Ci X d 275 [(0, (mem2 297 (x1).toNat)), (0, x2)] rf mem2 (fun r4 mem5 => Q r4 mem5))) ∧ (x2 = 1 → (0 ≤ x1 ∧ x1 < 132) ∧ (Ci X d 275 [(0, (mem2 297 (x1).toNat)), (0, x2)] rf mem2 (fun r6 mem7 => Q r6 mem7))) ∧ (x2 = 2 → (0 ≤ x1 ∧ x1 < 132) ∧ (Q (mem2 298 (x1).toNat) mem2)) ∧ (x2 = 3 → (0 ≤ x1 ∧ x1 < 132) ∧ (Q (mem2 299 (x1).toNat) mem2)) ∧ (x2 = 4 → (0 ≤ x1 ∧ x1 < 132) ∧ (Q (mem2 300 (x1).toNat) mem2)) ∧ ((x2 ≠ 0 ∧ x2 ≠ 1 ∧ x2 ≠ 2 ∧ x2 ≠ 3 ∧ x2 ≠ 4) → Q (-1) mem2))) ∧ (r1 = 0 → Q (-1) mem2)))) : Ci X (d + 1) 280 [(2, 261), (0, x1), (0, x2)] rf mem Q := by
  show zW X (d + 1) 280 0 [(2, 261), (0, x1), (0, x2)] [] (zty, rf, mem) (qi rf Q)
  refine zW.go 2 2 [(2, 261), (0, x1), (0, x2)] [(0, x1), (2, 261)] _ rfl ?_
  refine w_calli (as := [(2, 261), (0, x1)]) [] 5 rfl rfl rfl rfl (Nat.le_of_ble_eq_true rfl) (Nat.le_of_ble_eq_true rfl) (Nat.le_of_ble_eq_true rfl) (Or.inr rfl) (Ci.imp h (fun r1 mem2 h => ?_))
  refine w_if_ne rfl (by decide) (pc' := 8) rfl h.1 (fun c3 => ?_) (fun c3 => ?_)
  · have h := h.2.1 c3
    refine zW.go 1 11 [(2, 261), (0, x1), (0, x2)] [(0, x2)] _ rfl ?_
    obtain ⟨g, h⟩ := h
    by_cases e0 : x2 = 0
    · refine w_tabIn 44 rfl (by decide) g (by omega) (by rw [e0]; rfl) rfl ?_
      have h := h.1 e0
      refine zW.go 1 45 [(2, 261), (0, x1), (0, x2)] [(2, 261)] _ rfl ?_
      refine w_getL (q := 261) (v := 297) rfl (by decide) (pc' := 48) rfl ⟨by decide, rfl⟩ rfl rfl (zall_at hR (by decide)) ?_
      refine zW.go 1 49 [(2, 261), (0, x1), (0, x2)] [(0, x1), (2, 297)] _ rfl ?_
      obtain ⟨g, h⟩ := h
      refine w_iald (q := 297) rfl (by decide) (pc' := 50) rfl ⟨by decide, rfl⟩ rfl g rfl ?_
      refine zW.go 1 51 [(2, 261), (0, x1), (0, x2)] [(0, x2), (0, (mem2 297 (x1).toNat))] _ rfl ?_
      refine w_calli (as := [(0, (mem2 297 (x1).toNat)), (0, x2)]) [] 54 rfl rfl rfl rfl (Nat.le_of_ble_eq_true rfl) (Nat.le_of_ble_eq_true rfl) (Nat.le_of_ble_eq_true rfl) (Or.inl rfl) (Ci.imp h (fun r4 mem5 h => ?_))
      exact w_reti rfl rfl h
    · by_cases e1 : x2 = 1
      · refine w_tabIn 44 rfl (by decide) g (by omega) (by rw [e1]; rfl) rfl ?_
        have h := h.2.1 e1
        refine zW.go 1 45 [(2, 261), (0, x1), (0, x2)] [(2, 261)] _ rfl ?_
        refine w_getL (q := 261) (v := 297) rfl (by decide) (pc' := 48) rfl ⟨by decide, rfl⟩ rfl rfl (zall_at hR (by decide)) ?_
        refine zW.go 1 49 [(2, 261), (0, x1), (0, x2)] [(0, x1), (2, 297)] _ rfl ?_
        obtain ⟨g, h⟩ := h
        refine w_iald (q := 297) rfl (by decide) (pc' := 50) rfl ⟨by decide, rfl⟩ rfl g rfl ?_
        refine zW.go 1 51 [(2, 261), (0, x1), (0, x2)] [(0, x2), (0, (mem2 297 (x1).toNat))] _ rfl ?_
        refine w_calli (as := [(0, (mem2 297 (x1).toNat)), (0, x2)]) [] 54 rfl rfl rfl rfl (Nat.le_of_ble_eq_true rfl) (Nat.le_of_ble_eq_true rfl) (Nat.le_of_ble_eq_true rfl) (Or.inl rfl) (Ci.imp h (fun r6 mem7 h => ?_))
        exact w_reti rfl rfl h
      · by_cases e2 : x2 = 2
        · refine w_tabIn 55 rfl (by decide) g (by omega) (by rw [e2]; rfl) rfl ?_
          have h := h.2.2.1 e2
          refine zW.go 1 56 [(2, 261), (0, x1), (0, x2)] [(2, 261)] _ rfl ?_
          refine w_getL (q := 261) (v := 298) rfl (by decide) (pc' := 59) rfl ⟨by decide, rfl⟩ rfl rfl (zall_at hR (by decide)) ?_
          refine zW.go 1 60 [(2, 261), (0, x1), (0, x2)] [(0, x1), (2, 298)] _ rfl ?_
          obtain ⟨g, h⟩ := h
          refine w_iald (q := 298) rfl (by decide) (pc' := 61) rfl ⟨by decide, rfl⟩ rfl g rfl ?_
          exact w_reti rfl rfl h
        · by_cases e3 : x2 = 3
          · refine w_tabIn 62 rfl (by decide) g (by omega) (by rw [e3]; rfl) rfl ?_
            have h := h.2.2.2.1 e3
            refine zW.go 1 63 [(2, 261), (0, x1), (0, x2)] [(2, 261)] _ rfl ?_
            refine w_getL (q := 261) (v := 299) rfl (by decide) (pc' := 66) rfl ⟨by decide, rfl⟩ rfl rfl (zall_at hR (by decide)) ?_
            refine zW.go 1 67 [(2, 261), (0, x1), (0, x2)] [(0, x1), (2, 299)] _ rfl ?_
            obtain ⟨g, h⟩ := h
            refine w_iald (q := 299) rfl (by decide) (pc' := 68) rfl ⟨by decide, rfl⟩ rfl g rfl ?_
            exact w_reti rfl rfl h
          · by_cases e4 : x2 = 4
            · refine w_tabIn 69 rfl (by decide) g (by omega) (by rw [e4]; rfl) rfl ?_
              have h := h.2.2.2.2.1 e4
              refine zW.go 1 70 [(2, 261), (0, x1), (0, x2)] [(2, 261)] _ rfl ?_
              refine w_getL (q := 261) (v := 300) rfl (by decide) (pc' := 73) rfl ⟨by decide, rfl⟩ rfl rfl (zall_at hR (by decide)) ?_
              refine zW.go 1 74 [(2, 261), (0, x1), (0, x2)] [(0, x1), (2, 300)] _ rfl ?_
              obtain ⟨g, h⟩ := h
              refine w_iald (q := 300) rfl (by decide) (pc' := 75) rfl ⟨by decide, rfl⟩ rfl g rfl ?_
              exact w_reti rfl rfl h
            · refine w_tabOut 76 rfl (by decide) g (by omega) rfl ?_
              have h := h.2.2.2.2.2 ⟨e0, e1, e2, e3, e4⟩
              refine zW.go 1 77 [(2, 261), (0, x1), (0, x2)] [(0, (-1))] _ rfl ?_
              exact w_reti rfl rfl h
  · have h := h.2.2 c3
    refine zW.go 1 9 [(2, 261), (0, x1), (0, x2)] [(0, (-1))] _ rfl ?_
    exact w_reti rfl rfl h
set_option maxRecDepth 4000 in
theorem s_m_deed {X : zX} {d : Nat} {rf mem : zF} {Q : Int → zF → Prop} (hR : zall rf zRK = true) {x1 : Int} {x2 : Int} (h : Ci X d 271 [(2, 261), (0, x1)] rf mem (fun r1 mem2 => (inI r1) ∧ ((¬ r1 = 0 → (inI x2) ∧ ((¬ x2 = 0 → (inI x2) ∧ ((¬ x2 = 1 → (inI x2) ∧ ((¬ x2 = 2 → Q (-1) mem2) ∧ (x2 = 2 → (0 ≤ x1 ∧ x1 < 132) ∧ (Q (mem2 302 (x1).toNat) mem2)))) ∧ (x2 = 1 → Ci X d 272 [(2, 261), (0, x1)] rf mem2 (fun r7 mem8 => Q r7 mem8)))) ∧ (x2 = 0 → (0 ≤ x1 ∧ x1 < 132) ∧ (Q (mem2 301 (x1).toNat) mem2)))) ∧ (r1 = 0 → Q (-1) mem2)))) : Ci X (d + 1) 281 [(2, 261), (0, x1), (0, x2)] rf mem Q := by
  show zW X (d + 1) 281 0 [(2, 261), (0, x1), (0, x2)] [] (zty, rf, mem) (qi rf Q)
  refine zW.go 2 2 [(2, 261), (0, x1), (0, x2)] [(0, x1), (2, 261)] _ rfl ?_
  refine w_calli (as := [(2, 261), (0, x1)]) [] 5 rfl rfl rfl rfl (Nat.le_of_ble_eq_true rfl) (Nat.le_of_ble_eq_true rfl) (Nat.le_of_ble_eq_true rfl) (Or.inr rfl) (Ci.imp h (fun r1 mem2 h => ?_))
  refine w_if_ne rfl (by decide) (pc' := 8) rfl h.1 (fun c3 => ?_) (fun c3 => ?_)
  · have h := h.2.1 c3
    refine zW.go 1 13 [(2, 261), (0, x1), (0, x2)] [(0, x2)] _ rfl ?_
    refine w_if_ne rfl (by decide) (pc' := 16) rfl h.1 (fun c4 => ?_) (fun c4 => ?_)
    · have h := h.2.1 c4
      refine zW.go 2 27 [(2, 261), (0, x1), (0, x2)] [(0, 1), (0, x2)] _ rfl ?_
      refine w_ic_ne rfl (by decide) (pc' := 30) rfl ⟨h.1, by decide⟩ (fun c5 => ?_) (fun c5 => ?_)
      · have h := h.2.1 c5
        refine zW.go 2 40 [(2, 261), (0, x1), (0, x2)] [(0, 2), (0, x2)] _ rfl ?_
        refine w_ic_ne rfl (by decide) (pc' := 43) rfl ⟨h.1, by decide⟩ (fun c6 => ?_) (fun c6 => ?_)
        · have h := h.2.1 c6
          refine zW.go 1 53 [(2, 261), (0, x1), (0, x2)] [(0, (-1))] _ rfl ?_
          exact w_reti rfl rfl h
        · have h := h.2.2 c6
          refine zW.go 1 44 [(2, 261), (0, x1), (0, x2)] [(2, 261)] _ rfl ?_
          refine w_getL (q := 261) (v := 302) rfl (by decide) (pc' := 47) rfl ⟨by decide, rfl⟩ rfl rfl (zall_at hR (by decide)) ?_
          refine zW.go 1 48 [(2, 261), (0, x1), (0, x2)] [(0, x1), (2, 302)] _ rfl ?_
          obtain ⟨g, h⟩ := h
          refine w_iald (q := 302) rfl (by decide) (pc' := 49) rfl ⟨by decide, rfl⟩ rfl g rfl ?_
          refine zW.go 1 53 [(2, 261), (0, x1), (0, x2)] [(0, (mem2 302 (x1).toNat))] _ rfl ?_
          exact w_reti rfl rfl h
      · have h := h.2.2 c5
        refine zW.go 2 32 [(2, 261), (0, x1), (0, x2)] [(0, x1), (2, 261)] _ rfl ?_
        refine w_calli (as := [(2, 261), (0, x1)]) [] 35 rfl rfl rfl rfl (Nat.le_of_ble_eq_true rfl) (Nat.le_of_ble_eq_true rfl) (Nat.le_of_ble_eq_true rfl) (Or.inr rfl) (Ci.imp h (fun r7 mem8 h => ?_))
        refine zW.go 1 53 [(2, 261), (0, x1), (0, x2)] [(0, r7)] _ rfl ?_
        exact w_reti rfl rfl h
    · have h := h.2.2 c4
      refine zW.go 1 17 [(2, 261), (0, x1), (0, x2)] [(2, 261)] _ rfl ?_
      refine w_getL (q := 261) (v := 301) rfl (by decide) (pc' := 20) rfl ⟨by decide, rfl⟩ rfl rfl (zall_at hR (by decide)) ?_
      refine zW.go 1 21 [(2, 261), (0, x1), (0, x2)] [(0, x1), (2, 301)] _ rfl ?_
      obtain ⟨g, h⟩ := h
      refine w_iald (q := 301) rfl (by decide) (pc' := 22) rfl ⟨by decide, rfl⟩ rfl g rfl ?_
      refine zW.go 1 53 [(2, 261), (0, x1), (0, x2)] [(0, (mem2 301 (x1).toNat))] _ rfl ?_
      exact w_reti rfl rfl h
  · have h := h.2.2 c3
    refine zW.go 2 53 [(2, 261), (0, x1), (0, x2)] [(0, (-1))] _ rfl ?_
    exact w_reti rfl rfl h
set_option maxRecDepth 4000 in
theorem s_m_draught {X : zX} {d : Nat} {rf mem : zF} {Q : Int → zF → Prop} (hR : zall rf zRK = true) {x1 : Int} {x2 : Int} (h : Ci X d 253 [(2, 261), (0, x1), (0, x2)] rf mem (fun r1 mem2 => (inI r1) ∧ ((r1 = 0 → Q (-1) mem2) ∧ (¬ r1 = 0 → Ci X d 257 [(2, 261), (0, 0), (0, ((8 * x2) + x1))] rf mem2 (fun r4 mem5 => Q r4 mem5))))) : Ci X (d + 1) 282 [(2, 261), (0, x1), (0, x2)] rf mem Q := by
  show zW X (d + 1) 282 0 [(2, 261), (0, x1), (0, x2)] [] (zty, rf, mem) (qi rf Q)
  refine zW.go 3 3 [(2, 261), (0, x1), (0, x2)] [(0, x2), (0, x1), (2, 261)] _ rfl ?_
  refine w_calli (as := [(2, 261), (0, x1), (0, x2)]) [] 6 rfl rfl rfl rfl (Nat.le_of_ble_eq_true rfl) (Nat.le_of_ble_eq_true rfl) (Nat.le_of_ble_eq_true rfl) (Or.inr rfl) (Ci.imp h (fun r1 mem2 h => ?_))
  refine w_if_eq rfl (by decide) (pc' := 9) rfl h.1 (fun c3 => ?_) (fun c3 => ?_)
  · have h := h.2.1 c3
    refine zW.go 1 24 [(2, 261), (0, x1), (0, x2)] [(0, (-1))] _ rfl ?_
    exact w_reti rfl rfl h
  · have h := h.2.2 c3
    refine zW.go 7 17 [(2, 261), (0, x1), (0, x2)] [(0, ((8 * x2) + x1)), (0, 0), (2, 261)] _ rfl ?_
    refine w_calli (as := [(2, 261), (0, 0), (0, ((8 * x2) + x1))]) [] 20 rfl rfl rfl rfl (Nat.le_of_ble_eq_true rfl) (Nat.le_of_ble_eq_true rfl) (Nat.le_of_ble_eq_true rfl) (Or.inr rfl) (Ci.imp h (fun r4 mem5 h => ?_))
    refine zW.go 1 24 [(2, 261), (0, x1), (0, x2)] [(0, r4)] _ rfl ?_
    exact w_reti rfl rfl h
set_option maxRecDepth 4000 in
theorem s_m_isAhead {X : zX} {d : Nat} {rf mem : zF} {Q : Int → zF → Prop} (hR : zall rf zRK = true) {x1 : Int} {x2 : Int} {x3 : Int} (h : (inI (mem 261 50)) ∧ (((mem 261 50) = 0 → Q 0 mem) ∧ (¬ (mem 261 50) = 0 → Ci X d 194 [(0, x1), (0, x2), (0, x3)] rf mem (fun r2 mem3 => (inI r2) ∧ ((r2 = 0 → Q 0 mem3) ∧ (¬ r2 = 0 → (inI (mem3 293 0) ∧ inI (999 - x1)) ∧ (((999 - x1) < (mem3 293 0) → Q 0 mem3) ∧ (¬ (999 - x1) < (mem3 293 0) → Q 1 mem3)))))))) : Ci X (d + 1) 283 [(2, 261), (0, x1), (0, x2), (0, x3)] rf mem Q := by
  show zW X (d + 1) 283 0 [(2, 261), (0, x1), (0, x2), (0, x3)] [] (zty, rf, mem) (qi rf Q)
  refine zW.go 1 1 [(2, 261), (0, x1), (0, x2), (0, x3)] [(2, 261)] _ rfl ?_
  refine w_getI (q := 261) rfl (by decide) (pc' := 4) rfl ⟨by decide, rfl⟩ rfl (by decide) ?_
  refine w_if_eq rfl (by decide) (pc' := 7) rfl h.1 (fun c1 => ?_) (fun c1 => ?_)
  · have h := h.2.1 c1
    refine zW.go 1 35 [(2, 261), (0, x1), (0, x2), (0, x3)] [(0, 0)] _ rfl ?_
    exact w_retz rfl rfl (by decide) h
  · have h := h.2.2 c1
    refine zW.go 3 10 [(2, 261), (0, x1), (0, x2), (0, x3)] [(0, x3), (0, x2), (0, x1)] _ rfl ?_
    refine w_calli (as := [(0, x1), (0, x2), (0, x3)]) [] 13 rfl rfl rfl rfl (Nat.le_of_ble_eq_true rfl) (Nat.le_of_ble_eq_true rfl) (Nat.le_of_ble_eq_true rfl) (Or.inl rfl) (Ci.imp h (fun r2 mem3 h => ?_))
    refine w_if_eq rfl (by decide) (pc' := 16) rfl h.1 (fun c4 => ?_) (fun c4 => ?_)
    · have h := h.2.1 c4
      refine zW.go 1 35 [(2, 261), (0, x1), (0, x2), (0, x3)] [(0, 0)] _ rfl ?_
      exact w_retz rfl rfl (by decide) h
    · have h := h.2.2 c4
      refine zW.go 1 17 [(2, 261), (0, x1), (0, x2), (0, x3)] [(2, 261)] _ rfl ?_
      refine w_getL (q := 261) (v := 293) rfl (by decide) (pc' := 20) rfl ⟨by decide, rfl⟩ rfl rfl (zall_at hR (by decide)) ?_
      refine zW.go 1 21 [(2, 261), (0, x1), (0, x2), (0, x3)] [(0, 0), (2, 293)] _ rfl ?_
      refine w_iald (q := 293) rfl (by decide) (pc' := 22) rfl ⟨by decide, rfl⟩ rfl (by decide) rfl ?_
      refine zW.go 3 27 [(2, 261), (0, x1), (0, x2), (0, x3)] [(0, (999 - x1)), (0, (mem3 293 0))] _ rfl ?_
      refine w_ic_gt rfl (by decide) (pc' := 30) rfl h.1 (fun c5 => ?_) (fun c5 => ?_)
      · have h := h.2.1 c5
        refine zW.go 1 35 [(2, 261), (0, x1), (0, x2), (0, x3)] [(0, 0)] _ rfl ?_
        exact w_retz rfl rfl (by decide) h
      · have h := h.2.2 c5
        refine zW.go 2 35 [(2, 261), (0, x1), (0, x2), (0, x3)] [(0, 1)] _ rfl ?_
        exact w_retz rfl rfl (by decide) h
def L_m_goesOn_284_2 (X : zX) (d : Nat) (rf : zF) (Q : zF → Prop) (mem : zF) (x1 : Int) (x2 : Int) : Prop := zW X (d + 1) 284 2 [(2, 261), (0, x1), (0, x2)] [] (zty, rf, mem) (qv rf Q)
set_option maxRecDepth 4000 in
theorem s_m_goesOn_284_2 {X : zX} {d : Nat} {rf mem : zF} {Q : zF → Prop} (hR : zall rf zRK = true) {x1 : Int} {x2 : Int} (h : (inI x2 ∧ inI x1) ∧ ((x1 ≤ x2 → Q mem) ∧ (¬ x1 ≤ x2 → Ci X d 268 [(2, 261), (0, 1), (0, (-1))] rf mem (fun r2 mem3 => L_m_goesOn_284_2 X d rf Q mem3 x1 (x2 + 1))))) : L_m_goesOn_284_2 X d rf Q mem x1 x2 := by
  refine zW.go 2 4 [(2, 261), (0, x1), (0, x2)] [(0, x1), (0, x2)] _ rfl ?_
  refine w_ic_ge rfl (by decide) (pc' := 7) rfl h.1 (fun c1 => ?_) (fun c1 => ?_)
  · have h := h.2.1 c1
    exact w_retv rfl rfl h
  · have h := h.2.2 c1
    refine zW.go 3 10 [(2, 261), (0, x1), (0, x2)] [(0, (-1)), (0, 1), (2, 261)] _ rfl ?_
    refine w_calli (as := [(2, 261), (0, 1), (0, (-1))]) [] 13 rfl rfl rfl rfl (Nat.le_of_ble_eq_true rfl) (Nat.le_of_ble_eq_true rfl) (Nat.le_of_ble_eq_true rfl) (Or.inr rfl) (Ci.imp h (fun r2 mem3 h => ?_))
    refine zW.go 3 2 [(2, 261), (0, x1), (0, (x2 + 1))] [] _ rfl ?_
    exact h
set_option maxRecDepth 4000 in
theorem s_m_goesOn_284 {X : zX} {d : Nat} {rf mem : zF} {Q : zF → Prop} (hR : zall rf zRK = true) {x1 : Int} (h : L_m_goesOn_284_2 X d rf Q mem x1 0) : Cv X (d + 1) 284 [(2, 261), (0, x1)] rf mem Q := by
  show zW X (d + 1) 284 0 [(2, 261), (0, x1), (9, 0)] [] (zty, rf, mem) (qv rf Q)
  refine zW.go 2 2 [(2, 261), (0, x1), (0, 0)] [] _ rfl ?_
  exact h
set_option maxRecDepth 4000 in
theorem s_m_later {X : zX} {d : Nat} {rf mem : zF} {Q : Int → zF → Prop} (hR : zall rf zRK = true) {x1 : Int} {x2 : Int} {x3 : Int} (h : Ci X d 271 [(2, 261), (0, x1)] rf mem (fun r1 mem2 => (inI r1) ∧ ((r1 = 0 → Q (-1) mem2) ∧ (¬ r1 = 0 → Ci X d 283 [(2, 261), (0, x2), (0, 0), (0, 40)] rf mem2 (fun r4 mem5 => (inI r4) ∧ ((r4 = 0 → Q (-1) mem5) ∧ (¬ r4 = 0 → Ci X d 194 [(0, x3), (0, 0), (0, 2)] rf mem5 (fun r7 mem8 => (inI r7) ∧ ((¬ r7 = 0 → Cv X d 242 [(2, 261), (0, 1), (0, 0)] rf mem8 (fun mem10 => Cv X d 284 [(2, 261), (0, x2)] rf mem10 (fun mem11 => (inI x3) ∧ ((2 ≤ x3 → (0 ≤ (6 + x1) ∧ (6 + x1) < 132) ∧ (Q (mem11 298 ((6 + x1)).toNat) mem11)) ∧ (¬ 2 ≤ x3 → (0 ≤ (6 + x1) ∧ (6 + x1) < 132) ∧ (Ci X d 275 [(0, (mem11 297 ((6 + x1)).toNat)), (0, x3)] rf mem11 (fun r13 mem14 => Q r13 mem14))))))) ∧ (r7 = 0 → Q (-1) mem8)))))))))) : Ci X (d + 1) 285 [(2, 261), (0, x1), (0, x2), (0, x3)] rf mem Q := by
  show zW X (d + 1) 285 0 [(2, 261), (0, x1), (0, x2), (0, x3)] [] (zty, rf, mem) (qi rf Q)
  refine zW.go 2 2 [(2, 261), (0, x1), (0, x2), (0, x3)] [(0, x1), (2, 261)] _ rfl ?_
  refine w_calli (as := [(2, 261), (0, x1)]) [] 5 rfl rfl rfl rfl (Nat.le_of_ble_eq_true rfl) (Nat.le_of_ble_eq_true rfl) (Nat.le_of_ble_eq_true rfl) (Or.inr rfl) (Ci.imp h (fun r1 mem2 h => ?_))
  refine w_if_eq rfl (by decide) (pc' := 8) rfl h.1 (fun c3 => ?_) (fun c3 => ?_)
  · have h := h.2.1 c3
    refine zW.go 1 29 [(2, 261), (0, x1), (0, x2), (0, x3)] [(0, (-1))] _ rfl ?_
    exact w_reti rfl rfl h
  · have h := h.2.2 c3
    refine zW.go 4 13 [(2, 261), (0, x1), (0, x2), (0, x3)] [(0, 40), (0, 0), (0, x2), (2, 261)] _ rfl ?_
    refine w_calli (as := [(2, 261), (0, x2), (0, 0), (0, 40)]) [] 16 rfl rfl rfl rfl (Nat.le_of_ble_eq_true rfl) (Nat.le_of_ble_eq_true rfl) (Nat.le_of_ble_eq_true rfl) (Or.inr rfl) (Ci.imp h (fun r4 mem5 h => ?_))
    refine w_if_eq rfl (by decide) (pc' := 19) rfl h.1 (fun c6 => ?_) (fun c6 => ?_)
    · have h := h.2.1 c6
      refine zW.go 1 29 [(2, 261), (0, x1), (0, x2), (0, x3)] [(0, (-1))] _ rfl ?_
      exact w_reti rfl rfl h
    · have h := h.2.2 c6
      refine zW.go 3 22 [(2, 261), (0, x1), (0, x2), (0, x3)] [(0, 2), (0, 0), (0, x3)] _ rfl ?_
      refine w_calli (as := [(0, x3), (0, 0), (0, 2)]) [] 25 rfl rfl rfl rfl (Nat.le_of_ble_eq_true rfl) (Nat.le_of_ble_eq_true rfl) (Nat.le_of_ble_eq_true rfl) (Or.inl rfl) (Ci.imp h (fun r7 mem8 h => ?_))
      refine w_if_ne rfl (by decide) (pc' := 28) rfl h.1 (fun c9 => ?_) (fun c9 => ?_)
      · have h := h.2.1 c9
        refine zW.go 3 33 [(2, 261), (0, x1), (0, x2), (0, x3)] [(0, 0), (0, 1), (2, 261)] _ rfl ?_
        refine w_callv (as := [(2, 261), (0, 1), (0, 0)]) [] 36 rfl rfl rfl rfl (Nat.le_of_ble_eq_true rfl) (Nat.le_of_ble_eq_true rfl) (Nat.le_of_ble_eq_true rfl) (Or.inr rfl) (Cv.imp h (fun mem10 h => ?_))
        refine zW.go 2 38 [(2, 261), (0, x1), (0, x2), (0, x3)] [(0, x2), (2, 261)] _ rfl ?_
        refine w_callv (as := [(2, 261), (0, x2)]) [] 41 rfl rfl rfl rfl (Nat.le_of_ble_eq_true rfl) (Nat.le_of_ble_eq_true rfl) (Nat.le_of_ble_eq_true rfl) (Or.inr rfl) (Cv.imp h (fun mem11 h => ?_))
        refine zW.go 2 43 [(2, 261), (0, x1), (0, x2), (0, x3)] [(0, 2), (0, x3)] _ rfl ?_
        refine w_ic_ge rfl (by decide) (pc' := 46) rfl ⟨h.1, by decide⟩ (fun c12 => ?_) (fun c12 => ?_)
        · have h := h.2.1 c12
          refine zW.go 1 63 [(2, 261), (0, x1), (0, x2), (0, x3)] [(2, 261)] _ rfl ?_
          refine w_getL (q := 261) (v := 298) rfl (by decide) (pc' := 66) rfl ⟨by decide, rfl⟩ rfl rfl (zall_at hR (by decide)) ?_
          refine zW.go 3 70 [(2, 261), (0, x1), (0, x2), (0, x3)] [(0, (6 + x1)), (2, 298)] _ rfl ?_
          obtain ⟨g, h⟩ := h
          refine w_iald (q := 298) rfl (by decide) (pc' := 71) rfl ⟨by decide, rfl⟩ rfl g rfl ?_
          exact w_reti rfl rfl h
        · have h := h.2.2 c12
          refine zW.go 1 47 [(2, 261), (0, x1), (0, x2), (0, x3)] [(2, 261)] _ rfl ?_
          refine w_getL (q := 261) (v := 297) rfl (by decide) (pc' := 50) rfl ⟨by decide, rfl⟩ rfl rfl (zall_at hR (by decide)) ?_
          refine zW.go 3 54 [(2, 261), (0, x1), (0, x2), (0, x3)] [(0, (6 + x1)), (2, 297)] _ rfl ?_
          obtain ⟨g, h⟩ := h
          refine w_iald (q := 297) rfl (by decide) (pc' := 55) rfl ⟨by decide, rfl⟩ rfl g rfl ?_
          refine zW.go 1 56 [(2, 261), (0, x1), (0, x2), (0, x3)] [(0, x3), (0, (mem11 297 ((6 + x1)).toNat))] _ rfl ?_
          refine w_calli (as := [(0, (mem11 297 ((6 + x1)).toNat)), (0, x3)]) [] 59 rfl rfl rfl rfl (Nat.le_of_ble_eq_true rfl) (Nat.le_of_ble_eq_true rfl) (Nat.le_of_ble_eq_true rfl) (Or.inl rfl) (Ci.imp h (fun r13 mem14 h => ?_))
          refine zW.go 1 71 [(2, 261), (0, x1), (0, x2), (0, x3)] [(0, r13)] _ rfl ?_
          exact w_reti rfl rfl h
      · have h := h.2.2 c9
        refine zW.go 1 29 [(2, 261), (0, x1), (0, x2), (0, x3)] [(0, (-1))] _ rfl ?_
        exact w_reti rfl rfl h
def L_m_goes_27 (X : zX) (d : Nat) (rf : zF) (Q : Int → zF → Prop) (mem : zF) (x1 : Int) (x2 : Int) : Prop := zW X (d + 1) 286 27 [(2, 261), (0, x1), (0, x2)] [] (zty, rf, mem) (qi rf Q)
set_option maxRecDepth 4000 in
theorem s_m_goes_27 {X : zX} {d : Nat} {rf mem : zF} {Q : Int → zF → Prop} (hR : zall rf zRK = true) {x1 : Int} {x2 : Int} (h : Ci X d 283 [(2, 261), (0, (x2 + 1)), (0, 1), (0, 40)] rf mem (fun r8 mem9 => (inI r8) ∧ ((r8 = 0 → Q (-1) mem9) ∧ (¬ r8 = 0 → Ci X d 268 [(2, 261), (0, 1), (0, (-1))] rf mem9 (fun r11 mem12 => Ci X d 258 [(2, 261), (0, 1), (0, x1)] rf mem12 (fun r13 mem14 => (inI r13) ∧ ((¬ r13 = 0 → L_m_goes_27 X d rf Q mem14 x1 (x2 + 1)) ∧ (r13 = 0 → Q x2 mem14)))))))) : L_m_goes_27 X d rf Q mem x1 x2 := by
  refine zW.go 6 34 [(2, 261), (0, x1), (0, x2)] [(0, 40), (0, 1), (0, (x2 + 1)), (2, 261)] _ rfl ?_
  refine w_calli (as := [(2, 261), (0, (x2 + 1)), (0, 1), (0, 40)]) [] 37 rfl rfl rfl rfl (Nat.le_of_ble_eq_true rfl) (Nat.le_of_ble_eq_true rfl) (Nat.le_of_ble_eq_true rfl) (Or.inr rfl) (Ci.imp h (fun r8 mem9 h => ?_))
  refine w_if_eq rfl (by decide) (pc' := 40) rfl h.1 (fun c10 => ?_) (fun c10 => ?_)
  · have h := h.2.1 c10
    refine zW.go 1 65 [(2, 261), (0, x1), (0, x2)] [(0, (-1))] _ rfl ?_
    exact w_reti rfl rfl h
  · have h := h.2.2 c10
    refine zW.go 3 43 [(2, 261), (0, x1), (0, x2)] [(0, (-1)), (0, 1), (2, 261)] _ rfl ?_
    refine w_calli (as := [(2, 261), (0, 1), (0, (-1))]) [] 46 rfl rfl rfl rfl (Nat.le_of_ble_eq_true rfl) (Nat.le_of_ble_eq_true rfl) (Nat.le_of_ble_eq_true rfl) (Or.inr rfl) (Ci.imp h (fun r11 mem12 h => ?_))
    refine zW.go 4 50 [(2, 261), (0, x1), (0, x2)] [(0, x1), (0, 1), (2, 261)] _ rfl ?_
    refine w_calli (as := [(2, 261), (0, 1), (0, x1)]) [] 53 rfl rfl rfl rfl (Nat.le_of_ble_eq_true rfl) (Nat.le_of_ble_eq_true rfl) (Nat.le_of_ble_eq_true rfl) (Or.inr rfl) (Ci.imp h (fun r13 mem14 h => ?_))
    refine w_if_ne rfl (by decide) (pc' := 56) rfl h.1 (fun c15 => ?_) (fun c15 => ?_)
    · have h := h.2.1 c15
      refine zW.go 2 27 [(2, 261), (0, x1), (0, (x2 + 1))] [] _ rfl ?_
      exact h
    · have h := h.2.2 c15
      refine zW.go 1 57 [(2, 261), (0, x1), (0, x2)] [(0, x2)] _ rfl ?_
      exact w_reti rfl rfl h
set_option maxRecDepth 4000 in
theorem s_m_goes {X : zX} {d : Nat} {rf mem : zF} {Q : Int → zF → Prop} (hR : zall rf zRK = true) {x1 : Int} (h : Ci X d 271 [(2, 261), (0, x1)] rf mem (fun r1 mem2 => (inI r1) ∧ ((r1 = 0 → Q (-1) mem2) ∧ (¬ r1 = 0 → Ci X d 258 [(2, 261), (0, 0), (0, x1)] rf mem2 (fun r4 mem5 => (inI r4) ∧ ((¬ r4 = 0 → Cv X d 242 [(2, 261), (0, 1), (0, 0)] rf mem5 (fun mem7 => L_m_goes_27 X d rf Q mem7 x1 0)) ∧ (r4 = 0 → Q (-1) mem5))))))) : Ci X (d + 1) 286 [(2, 261), (0, x1)] rf mem Q := by
  show zW X (d + 1) 286 0 [(2, 261), (0, x1), (9, 0)] [] (zty, rf, mem) (qi rf Q)
  refine zW.go 2 2 [(2, 261), (0, x1), (9, 0)] [(0, x1), (2, 261)] _ rfl ?_
  refine w_calli (as := [(2, 261), (0, x1)]) [] 5 rfl rfl rfl rfl (Nat.le_of_ble_eq_true rfl) (Nat.le_of_ble_eq_true rfl) (Nat.le_of_ble_eq_true rfl) (Or.inr rfl) (Ci.imp h (fun r1 mem2 h => ?_))
  refine w_if_eq rfl (by decide) (pc' := 8) rfl h.1 (fun c3 => ?_) (fun c3 => ?_)
  · have h := h.2.1 c3
    refine zW.go 1 18 [(2, 261), (0, x1), (9, 0)] [(0, (-1))] _ rfl ?_
    exact w_reti rfl rfl h
  · have h := h.2.2 c3
    refine zW.go 3 11 [(2, 261), (0, x1), (9, 0)] [(0, x1), (0, 0), (2, 261)] _ rfl ?_
    refine w_calli (as := [(2, 261), (0, 0), (0, x1)]) [] 14 rfl rfl rfl rfl (Nat.le_of_ble_eq_true rfl) (Nat.le_of_ble_eq_true rfl) (Nat.le_of_ble_eq_true rfl) (Or.inr rfl) (Ci.imp h (fun r4 mem5 h => ?_))
    refine w_if_ne rfl (by decide) (pc' := 17) rfl h.1 (fun c6 => ?_) (fun c6 => ?_)
    · have h := h.2.1 c6
      refine zW.go 3 22 [(2, 261), (0, x1), (9, 0)] [(0, 0), (0, 1), (2, 261)] _ rfl ?_
      refine w_callv (as := [(2, 261), (0, 1), (0, 0)]) [] 25 rfl rfl rfl rfl (Nat.le_of_ble_eq_true rfl) (Nat.le_of_ble_eq_true rfl) (Nat.le_of_ble_eq_true rfl) (Or.inr rfl) (Cv.imp h (fun mem7 h => ?_))
      refine zW.go 2 27 [(2, 261), (0, x1), (0, 0)] [] _ rfl ?_
      exact h
    · have h := h.2.2 c6
      refine zW.go 1 18 [(2, 261), (0, x1), (9, 0)] [(0, (-1))] _ rfl ?_
      exact w_reti rfl rfl h
set_option maxRecDepth 4000 in
theorem s_m_owner {X : zX} {d : Nat} {rf mem : zF} {Q : Int → zF → Prop} (hR : zall rf zRK = true) {x1 : Int} {x2 : Int} (h : Ci X d 271 [(2, 261), (0, x1)] rf mem (fun r1 mem2 => (inI r1) ∧ ((r1 = 0 → Q (-1) mem2) ∧ (¬ r1 = 0 → Ci X d 283 [(2, 261), (0, x2), (0, 0), (0, 40)] rf mem2 (fun r4 mem5 => (inI r4) ∧ ((¬ r4 = 0 → Cv X d 242 [(2, 261), (0, 1), (0, 0)] rf mem5 (fun mem7 => Cv X d 284 [(2, 261), (0, x2)] rf mem7 (fun mem8 => (0 ≤ (6 + x1) ∧ (6 + x1) < 132) ∧ (Q (mem8 301 ((6 + x1)).toNat) mem8)))) ∧ (r4 = 0 → Q (-1) mem5))))))) : Ci X (d + 1) 287 [(2, 261), (0, x1), (0, x2)] rf mem Q := by
  show zW X (d + 1) 287 0 [(2, 261), (0, x1), (0, x2)] [] (zty, rf, mem) (qi rf Q)
  refine zW.go 2 2 [(2, 261), (0, x1), (0, x2)] [(0, x1), (2, 261)] _ rfl ?_
  refine w_calli (as := [(2, 261), (0, x1)]) [] 5 rfl rfl rfl rfl (Nat.le_of_ble_eq_true rfl) (Nat.le_of_ble_eq_true rfl) (Nat.le_of_ble_eq_true rfl) (Or.inr rfl) (Ci.imp h (fun r1 mem2 h => ?_))
  refine w_if_eq rfl (by decide) (pc' := 8) rfl h.1 (fun c3 => ?_) (fun c3 => ?_)
  · have h := h.2.1 c3
    refine zW.go 1 20 [(2, 261), (0, x1), (0, x2)] [(0, (-1))] _ rfl ?_
    exact w_reti rfl rfl h
  · have h := h.2.2 c3
    refine zW.go 4 13 [(2, 261), (0, x1), (0, x2)] [(0, 40), (0, 0), (0, x2), (2, 261)] _ rfl ?_
    refine w_calli (as := [(2, 261), (0, x2), (0, 0), (0, 40)]) [] 16 rfl rfl rfl rfl (Nat.le_of_ble_eq_true rfl) (Nat.le_of_ble_eq_true rfl) (Nat.le_of_ble_eq_true rfl) (Or.inr rfl) (Ci.imp h (fun r4 mem5 h => ?_))
    refine w_if_ne rfl (by decide) (pc' := 19) rfl h.1 (fun c6 => ?_) (fun c6 => ?_)
    · have h := h.2.1 c6
      refine zW.go 3 24 [(2, 261), (0, x1), (0, x2)] [(0, 0), (0, 1), (2, 261)] _ rfl ?_
      refine w_callv (as := [(2, 261), (0, 1), (0, 0)]) [] 27 rfl rfl rfl rfl (Nat.le_of_ble_eq_true rfl) (Nat.le_of_ble_eq_true rfl) (Nat.le_of_ble_eq_true rfl) (Or.inr rfl) (Cv.imp h (fun mem7 h => ?_))
      refine zW.go 2 29 [(2, 261), (0, x1), (0, x2)] [(0, x2), (2, 261)] _ rfl ?_
      refine w_callv (as := [(2, 261), (0, x2)]) [] 32 rfl rfl rfl rfl (Nat.le_of_ble_eq_true rfl) (Nat.le_of_ble_eq_true rfl) (Nat.le_of_ble_eq_true rfl) (Or.inr rfl) (Cv.imp h (fun mem8 h => ?_))
      refine zW.go 1 33 [(2, 261), (0, x1), (0, x2)] [(2, 261)] _ rfl ?_
      refine w_getL (q := 261) (v := 301) rfl (by decide) (pc' := 36) rfl ⟨by decide, rfl⟩ rfl rfl (zall_at hR (by decide)) ?_
      refine zW.go 3 40 [(2, 261), (0, x1), (0, x2)] [(0, (6 + x1)), (2, 301)] _ rfl ?_
      obtain ⟨g, h⟩ := h
      refine w_iald (q := 301) rfl (by decide) (pc' := 41) rfl ⟨by decide, rfl⟩ rfl g rfl ?_
      exact w_reti rfl rfl h
    · have h := h.2.2 c6
      refine zW.go 1 20 [(2, 261), (0, x1), (0, x2)] [(0, (-1))] _ rfl ?_
      exact w_reti rfl rfl h
def L_m_doors_35 (X : zX) (d : Nat) (rf : zF) (Q : Int → zF → Prop) (mem : zF) (x1 : Int) (x2 : Int) (x3 : Int) (x4 : Int) (x5 : Int) : Prop := zW X (d + 1) 288 35 [(2, 261), (0, x1), (0, x2), (0, x3), (0, x4), (0, x5)] [] (zty, rf, mem) (qi rf Q)
def L_m_doors_73 (X : zX) (d : Nat) (rf : zF) (Q : Int → zF → Prop) (mem : zF) (x1 : Int) (x2 : Int) (x3 : Int) (x4 : Int) (x5 : Int) : Prop := zW X (d + 1) 288 73 [(2, 261), (0, x1), (0, x2), (0, x3), (0, x4), (0, x5)] [] (zty, rf, mem) (qi rf Q)
set_option maxRecDepth 4000 in
theorem s_m_doors_35 {X : zX} {d : Nat} {rf mem : zF} {Q : Int → zF → Prop} (hR : zall rf zRK = true) {x1 : Int} {x2 : Int} {x3 : Int} {x4 : Int} {x5 : Int} (h : (0 ≤ (mem 261 13) ∧ (mem 261 13) < 2) ∧ ((inI x5 ∧ inI (zshl 1 (mem 266 ((mem 261 13)).toNat))) ∧ (((zshl 1 (mem 266 ((mem 261 13)).toNat)) ≤ x5 → Q x4 mem) ∧ (¬ (zshl 1 (mem 266 ((mem 261 13)).toNat)) ≤ x5 → (inI x4) ∧ ((x4 = (-1) → L_m_doors_73 X d rf Q mem x1 x2 x3 x4 x5) ∧ (¬ x4 = (-1) → Ci X d 264 [(0, x5)] rf mem (fun r12 mem13 => Ci X d 264 [(0, x4)] rf mem13 (fun r14 mem15 => (inI r12 ∧ inI r14) ∧ ((r12 < r14 → L_m_doors_73 X d rf Q mem15 x1 x2 x3 x4 x5) ∧ (¬ r12 < r14 → L_m_doors_35 X d rf Q mem15 x1 x2 x3 x4 (x5 + 1))))))))))) : L_m_doors_35 X d rf Q mem x1 x2 x3 x4 x5 := by
  refine zW.go 3 39 [(2, 261), (0, x1), (0, x2), (0, x3), (0, x4), (0, x5)] [(2, 261), (0, 1), (0, x5)] _ rfl ?_
  refine w_getL (q := 261) (v := 266) rfl (by decide) (pc' := 42) rfl ⟨by decide, rfl⟩ rfl rfl (zall_at hR (by decide)) ?_
  refine zW.go 1 43 [(2, 261), (0, x1), (0, x2), (0, x3), (0, x4), (0, x5)] [(2, 261), (2, 266), (0, 1), (0, x5)] _ rfl ?_
  refine w_getI (q := 261) rfl (by decide) (pc' := 46) rfl ⟨by decide, rfl⟩ rfl (by decide) ?_
  obtain ⟨g, h⟩ := h
  refine w_iald (q := 266) rfl (by decide) (pc' := 47) rfl ⟨by decide, rfl⟩ rfl g rfl ?_
  refine zW.go 1 48 [(2, 261), (0, x1), (0, x2), (0, x3), (0, x4), (0, x5)] [(0, (zshl 1 (mem 266 ((mem 261 13)).toNat))), (0, x5)] _ rfl ?_
  refine w_ic_ge rfl (by decide) (pc' := 51) rfl h.1 (fun c10 => ?_) (fun c10 => ?_)
  · have h := h.2.1 c10
    refine zW.go 1 120 [(2, 261), (0, x1), (0, x2), (0, x3), (0, x4), (0, x5)] [(0, x4)] _ rfl ?_
    exact w_reti rfl rfl h
  · have h := h.2.2 c10
    refine zW.go 2 54 [(2, 261), (0, x1), (0, x2), (0, x3), (0, x4), (0, x5)] [(0, (-1)), (0, x4)] _ rfl ?_
    refine w_ic_eq rfl (by decide) (pc' := 57) rfl ⟨h.1, by decide⟩ (fun c11 => ?_) (fun c11 => ?_)
    · have h := h.2.1 c11
      exact h
    · have h := h.2.2 c11
      refine zW.go 1 59 [(2, 261), (0, x1), (0, x2), (0, x3), (0, x4), (0, x5)] [(0, x5)] _ rfl ?_
      refine w_calli (as := [(0, x5)]) [] 62 rfl rfl rfl rfl (Nat.le_of_ble_eq_true rfl) (Nat.le_of_ble_eq_true rfl) (Nat.le_of_ble_eq_true rfl) (Or.inl rfl) (Ci.imp h (fun r12 mem13 h => ?_))
      refine zW.go 1 64 [(2, 261), (0, x1), (0, x2), (0, x3), (0, x4), (0, x5)] [(0, x4), (0, r12)] _ rfl ?_
      refine w_calli (as := [(0, x4)]) [(0, r12)] 67 rfl rfl rfl rfl (Nat.le_of_ble_eq_true rfl) (Nat.le_of_ble_eq_true rfl) (Nat.le_of_ble_eq_true rfl) (Or.inl rfl) (Ci.imp h (fun r14 mem15 h => ?_))
      refine w_ic_lt rfl (by decide) (pc' := 70) rfl h.1 (fun c16 => ?_) (fun c16 => ?_)
      · have h := h.2.1 c16
        exact h
      · have h := h.2.2 c16
        refine zW.go 3 35 [(2, 261), (0, x1), (0, x2), (0, x3), (0, x4), (0, (x5 + 1))] [] _ rfl ?_
        exact h
set_option maxRecDepth 4000 in
theorem s_m_doors_73 {X : zX} {d : Nat} {rf mem : zF} {Q : Int → zF → Prop} (hR : zall rf zRK = true) {x1 : Int} {x2 : Int} {x3 : Int} {x4 : Int} {x5 : Int} (h : Cv X d 242 [(2, 261), (0, 1), (0, 0)] rf mem (fun mem17 => Cv X d 284 [(2, 261), (0, x3)] rf (zup mem17 295 1 (zxor (mem17 295 1) x5)) (fun mem18 => (0 ≤ (6 + x1) ∧ (6 + x1) < 132) ∧ ((inI (mem18 301 ((6 + x1)).toNat) ∧ inI x2) ∧ ((¬ (mem18 301 ((6 + x1)).toNat) = x2 → L_m_doors_35 X d rf Q mem18 x1 x2 x3 x4 (x5 + 1)) ∧ ((mem18 301 ((6 + x1)).toNat) = x2 → L_m_doors_35 X d rf Q mem18 x1 x2 x3 x5 (x5 + 1))))))) : L_m_doors_73 X d rf Q mem x1 x2 x3 x4 x5 := by
  refine zW.go 3 76 [(2, 261), (0, x1), (0, x2), (0, x3), (0, x4), (0, x5)] [(0, 0), (0, 1), (2, 261)] _ rfl ?_
  refine w_callv (as := [(2, 261), (0, 1), (0, 0)]) [] 79 rfl rfl rfl rfl (Nat.le_of_ble_eq_true rfl) (Nat.le_of_ble_eq_true rfl) (Nat.le_of_ble_eq_true rfl) (Or.inr rfl) (Cv.imp h (fun mem17 h => ?_))
  refine zW.go 1 80 [(2, 261), (0, x1), (0, x2), (0, x3), (0, x4), (0, x5)] [(2, 261)] _ rfl ?_
  refine w_getL (q := 261) (v := 295) rfl (by decide) (pc' := 83) rfl ⟨by decide, rfl⟩ rfl rfl (zall_at hR (by decide)) ?_
  refine zW.go 2 85 [(2, 261), (0, x1), (0, x2), (0, x3), (0, x4), (0, x5)] [(0, 1), (2, 295), (0, 1), (2, 295)] _ rfl ?_
  refine w_iald (q := 295) rfl (by decide) (pc' := 86) rfl ⟨by decide, rfl⟩ rfl (by decide) rfl ?_
  refine zW.go 2 89 [(2, 261), (0, x1), (0, x2), (0, x3), (0, x4), (0, x5)] [(0, (zxor (mem17 295 1) x5)), (0, 1), (2, 295)] _ rfl ?_
  refine w_iast (q := 295) rfl (by decide) (pc' := 90) rfl ⟨by decide, rfl⟩ rfl (by decide) rfl ?_
  refine zW.go 2 92 [(2, 261), (0, x1), (0, x2), (0, x3), (0, x4), (0, x5)] [(0, x3), (2, 261)] _ rfl ?_
  refine w_callv (as := [(2, 261), (0, x3)]) [] 95 rfl rfl rfl rfl (Nat.le_of_ble_eq_true rfl) (Nat.le_of_ble_eq_true rfl) (Nat.le_of_ble_eq_true rfl) (Or.inr rfl) (Cv.imp h (fun mem18 h => ?_))
  refine zW.go 1 96 [(2, 261), (0, x1), (0, x2), (0, x3), (0, x4), (0, x5)] [(2, 261)] _ rfl ?_
  refine w_getL (q := 261) (v := 301) rfl (by decide) (pc' := 99) rfl ⟨by decide, rfl⟩ rfl rfl (zall_at hR (by decide)) ?_
  refine zW.go 3 103 [(2, 261), (0, x1), (0, x2), (0, x3), (0, x4), (0, x5)] [(0, (6 + x1)), (2, 301)] _ rfl ?_
  obtain ⟨g, h⟩ := h
  refine w_iald (q := 301) rfl (by decide) (pc' := 104) rfl ⟨by decide, rfl⟩ rfl g rfl ?_
  refine zW.go 1 105 [(2, 261), (0, x1), (0, x2), (0, x3), (0, x4), (0, x5)] [(0, x2), (0, (mem18 301 ((6 + x1)).toNat))] _ rfl ?_
  refine w_ic_ne rfl (by decide) (pc' := 108) rfl h.1 (fun c19 => ?_) (fun c19 => ?_)
  · have h := h.2.1 c19
    refine zW.go 2 35 [(2, 261), (0, x1), (0, x2), (0, x3), (0, x4), (0, (x5 + 1))] [] _ rfl ?_
    exact h
  · have h := h.2.2 c19
    refine zW.go 4 35 [(2, 261), (0, x1), (0, x2), (0, x3), (0, x5), (0, (x5 + 1))] [] _ rfl ?_
    exact h
set_option maxRecDepth 4000 in
theorem s_m_doors {X : zX} {d : Nat} {rf mem : zF} {Q : Int → zF → Prop} (hR : zall rf zRK = true) {x1 : Int} {x2 : Int} {x3 : Int} (h : Ci X d 271 [(2, 261), (0, x1)] rf mem (fun r1 mem2 => (inI r1) ∧ ((r1 = 0 → Q (-1) mem2) ∧ (¬ r1 = 0 → Ci X d 270 [(2, 261), (0, x2)] rf mem2 (fun r4 mem5 => (inI r4) ∧ ((r4 = 0 → Q (-1) mem5) ∧ (¬ r4 = 0 → Ci X d 283 [(2, 261), (0, x3), (0, 0), (0, 20)] rf mem5 (fun r7 mem8 => (inI r7) ∧ ((¬ r7 = 0 → L_m_doors_35 X d rf Q mem8 x1 x2 x3 (-1) 0) ∧ (r7 = 0 → Q (-1) mem8)))))))))) : Ci X (d + 1) 288 [(2, 261), (0, x1), (0, x2), (0, x3)] rf mem Q := by
  show zW X (d + 1) 288 0 [(2, 261), (0, x1), (0, x2), (0, x3), (9, 0), (9, 0)] [] (zty, rf, mem) (qi rf Q)
  refine zW.go 2 2 [(2, 261), (0, x1), (0, x2), (0, x3), (9, 0), (9, 0)] [(0, x1), (2, 261)] _ rfl ?_
  refine w_calli (as := [(2, 261), (0, x1)]) [] 5 rfl rfl rfl rfl (Nat.le_of_ble_eq_true rfl) (Nat.le_of_ble_eq_true rfl) (Nat.le_of_ble_eq_true rfl) (Or.inr rfl) (Ci.imp h (fun r1 mem2 h => ?_))
  refine w_if_eq rfl (by decide) (pc' := 8) rfl h.1 (fun c3 => ?_) (fun c3 => ?_)
  · have h := h.2.1 c3
    refine zW.go 1 28 [(2, 261), (0, x1), (0, x2), (0, x3), (9, 0), (9, 0)] [(0, (-1))] _ rfl ?_
    exact w_reti rfl rfl h
  · have h := h.2.2 c3
    refine zW.go 2 10 [(2, 261), (0, x1), (0, x2), (0, x3), (9, 0), (9, 0)] [(0, x2), (2, 261)] _ rfl ?_
    refine w_calli (as := [(2, 261), (0, x2)]) [] 13 rfl rfl rfl rfl (Nat.le_of_ble_eq_true rfl) (Nat.le_of_ble_eq_true rfl) (Nat.le_of_ble_eq_true rfl) (Or.inr rfl) (Ci.imp h (fun r4 mem5 h => ?_))
    refine w_if_eq rfl (by decide) (pc' := 16) rfl h.1 (fun c6 => ?_) (fun c6 => ?_)
    · have h := h.2.1 c6
      refine zW.go 1 28 [(2, 261), (0, x1), (0, x2), (0, x3), (9, 0), (9, 0)] [(0, (-1))] _ rfl ?_
      exact w_reti rfl rfl h
    · have h := h.2.2 c6
      refine zW.go 4 21 [(2, 261), (0, x1), (0, x2), (0, x3), (9, 0), (9, 0)] [(0, 20), (0, 0), (0, x3), (2, 261)] _ rfl ?_
      refine w_calli (as := [(2, 261), (0, x3), (0, 0), (0, 20)]) [] 24 rfl rfl rfl rfl (Nat.le_of_ble_eq_true rfl) (Nat.le_of_ble_eq_true rfl) (Nat.le_of_ble_eq_true rfl) (Or.inr rfl) (Ci.imp h (fun r7 mem8 h => ?_))
      refine w_if_ne rfl (by decide) (pc' := 27) rfl h.1 (fun c9 => ?_) (fun c9 => ?_)
      · have h := h.2.1 c9
        refine zW.go 4 35 [(2, 261), (0, x1), (0, x2), (0, x3), (0, (-1)), (0, 0)] [] _ rfl ?_
        exact h
      · have h := h.2.2 c9
        refine zW.go 1 28 [(2, 261), (0, x1), (0, x2), (0, x3), (9, 0), (9, 0)] [(0, (-1))] _ rfl ?_
        exact w_reti rfl rfl h
def L_m_stand_39 (X : zX) (d : Nat) (rf : zF) (Q : Int → zF → Prop) (mem : zF) (x1 : Int) (x2 : Int) (x3 : Int) (x4 : Int) (x5 : Int) (x6 : Int) : Prop := zW X (d + 1) 289 39 [(2, 261), (0, x1), (0, x2), (0, x3), (0, x4), (0, x5), (0, x6)] [] (zty, rf, mem) (qi rf Q)
def L_m_stand_80 (X : zX) (d : Nat) (rf : zF) (Q : Int → zF → Prop) (mem : zF) (x1 : Int) (x2 : Int) (x3 : Int) (x4 : Int) (x5 : Int) (x6 : Int) : Prop := zW X (d + 1) 289 80 [(2, 261), (0, x1), (0, x2), (0, x3), (0, x4), (0, x5), (0, x6)] [] (zty, rf, mem) (qi rf Q)
set_option maxRecDepth 4000 in
theorem s_m_stand_39 {X : zX} {d : Nat} {rf mem : zF} {Q : Int → zF → Prop} (hR : zall rf zRK = true) {x1 : Int} {x2 : Int} {x3 : Int} {x4 : Int} {x5 : Int} {x6 : Int} (h : (inI x6) ∧ ((64 ≤ x6 → (inI x3) ∧ ((¬ x3 = 2 → Ci X d 275 [(0, x4), (0, x3)] rf mem (fun r12 mem13 => Q r12 mem13)) ∧ (x3 = 2 → Q x5 mem))) ∧ (¬ 64 ≤ x6 → Ci X d 254 [(2, 261), (0, x6)] rf mem (fun r14 mem15 => (inI r14) ∧ ((r14 = 0 → L_m_stand_39 X d rf Q mem15 x1 x2 x3 x4 x5 (x6 + 1)) ∧ (¬ r14 = 0 → Ci X d 259 [(2, 261), (0, 0), (0, x6)] rf mem15 (fun r17 mem18 => (inI r17) ∧ ((r17 = (-1) → L_m_stand_80 X d rf Q mem18 x1 x2 x3 x4 x5 x6) ∧ (¬ r17 = (-1) → (0 ≤ x1 ∧ x1 < 132) ∧ ((inI (mem18 296 (x1).toNat) ∧ inI x6) ∧ (((mem18 296 (x1).toNat) = x6 → L_m_stand_80 X d rf Q mem18 x1 x2 x3 x4 x5 x6) ∧ (¬ (mem18 296 (x1).toNat) = x6 → L_m_stand_39 X d rf Q mem18 x1 x2 x3 x4 x5 (x6 + 1))))))))))))) : L_m_stand_39 X d rf Q mem x1 x2 x3 x4 x5 x6 := by
  refine zW.go 2 43 [(2, 261), (0, x1), (0, x2), (0, x3), (0, x4), (0, x5), (0, x6)] [(0, 64), (0, x6)] _ rfl ?_
  refine w_ic_ge rfl (by decide) (pc' := 46) rfl ⟨h.1, by decide⟩ (fun c10 => ?_) (fun c10 => ?_)
  · have h := h.2.1 c10
    refine zW.go 2 136 [(2, 261), (0, x1), (0, x2), (0, x3), (0, x4), (0, x5), (0, x6)] [(0, 2), (0, x3)] _ rfl ?_
    refine w_ic_ne rfl (by decide) (pc' := 139) rfl ⟨h.1, by decide⟩ (fun c11 => ?_) (fun c11 => ?_)
    · have h := h.2.1 c11
      refine zW.go 2 147 [(2, 261), (0, x1), (0, x2), (0, x3), (0, x4), (0, x5), (0, x6)] [(0, x3), (0, x4)] _ rfl ?_
      refine w_calli (as := [(0, x4), (0, x3)]) [] 150 rfl rfl rfl rfl (Nat.le_of_ble_eq_true rfl) (Nat.le_of_ble_eq_true rfl) (Nat.le_of_ble_eq_true rfl) (Or.inl rfl) (Ci.imp h (fun r12 mem13 h => ?_))
      exact w_reti rfl rfl h
    · have h := h.2.2 c11
      refine zW.go 2 150 [(2, 261), (0, x1), (0, x2), (0, x3), (0, x4), (0, x5), (0, x6)] [(0, x5)] _ rfl ?_
      exact w_reti rfl rfl h
  · have h := h.2.2 c10
    refine zW.go 2 49 [(2, 261), (0, x1), (0, x2), (0, x3), (0, x4), (0, x5), (0, x6)] [(0, x6), (2, 261)] _ rfl ?_
    refine w_calli (as := [(2, 261), (0, x6)]) [] 52 rfl rfl rfl rfl (Nat.le_of_ble_eq_true rfl) (Nat.le_of_ble_eq_true rfl) (Nat.le_of_ble_eq_true rfl) (Or.inr rfl) (Ci.imp h (fun r14 mem15 h => ?_))
    refine w_if_eq rfl (by decide) (pc' := 55) rfl h.1 (fun c16 => ?_) (fun c16 => ?_)
    · have h := h.2.1 c16
      refine zW.go 2 39 [(2, 261), (0, x1), (0, x2), (0, x3), (0, x4), (0, x5), (0, (x6 + 1))] [] _ rfl ?_
      exact h
    · have h := h.2.2 c16
      refine zW.go 3 59 [(2, 261), (0, x1), (0, x2), (0, x3), (0, x4), (0, x5), (0, x6)] [(0, x6), (0, 0), (2, 261)] _ rfl ?_
      refine w_calli (as := [(2, 261), (0, 0), (0, x6)]) [] 62 rfl rfl rfl rfl (Nat.le_of_ble_eq_true rfl) (Nat.le_of_ble_eq_true rfl) (Nat.le_of_ble_eq_true rfl) (Or.inr rfl) (Ci.imp h (fun r17 mem18 h => ?_))
      refine zW.go 1 63 [(2, 261), (0, x1), (0, x2), (0, x3), (0, x4), (0, x5), (0, x6)] [(0, (-1)), (0, r17)] _ rfl ?_
      refine w_ic_eq rfl (by decide) (pc' := 66) rfl ⟨h.1, by decide⟩ (fun c19 => ?_) (fun c19 => ?_)
      · have h := h.2.1 c19
        exact h
      · have h := h.2.2 c19
        refine zW.go 1 67 [(2, 261), (0, x1), (0, x2), (0, x3), (0, x4), (0, x5), (0, x6)] [(2, 261)] _ rfl ?_
        refine w_getL (q := 261) (v := 296) rfl (by decide) (pc' := 70) rfl ⟨by decide, rfl⟩ rfl rfl (zall_at hR (by decide)) ?_
        refine zW.go 1 71 [(2, 261), (0, x1), (0, x2), (0, x3), (0, x4), (0, x5), (0, x6)] [(0, x1), (2, 296)] _ rfl ?_
        obtain ⟨g, h⟩ := h
        refine w_iald (q := 296) rfl (by decide) (pc' := 72) rfl ⟨by decide, rfl⟩ rfl g rfl ?_
        refine zW.go 1 74 [(2, 261), (0, x1), (0, x2), (0, x3), (0, x4), (0, x5), (0, x6)] [(0, x6), (0, (mem18 296 (x1).toNat))] _ rfl ?_
        refine w_ic_eq rfl (by decide) (pc' := 77) rfl h.1 (fun c20 => ?_) (fun c20 => ?_)
        · have h := h.2.1 c20
          exact h
        · have h := h.2.2 c20
          refine zW.go 3 39 [(2, 261), (0, x1), (0, x2), (0, x3), (0, x4), (0, x5), (0, (x6 + 1))] [] _ rfl ?_
          exact h
set_option maxRecDepth 4000 in
theorem s_m_stand_80 {X : zX} {d : Nat} {rf mem : zF} {Q : Int → zF → Prop} (hR : zall rf zRK = true) {x1 : Int} {x2 : Int} {x3 : Int} {x4 : Int} {x5 : Int} {x6 : Int} (h : Cv X d 242 [(2, 261), (0, 1), (0, 0)] rf mem (fun mem21 => (0 ≤ (6 + x1) ∧ (6 + x1) < 132) ∧ (Cv X d 284 [(2, 261), (0, x2)] rf (zup mem21 296 ((6 + x1)).toNat x6) (fun mem22 => Ci X d 278 [(2, 261), (0, 1), (0, x1)] rf mem22 (fun r23 mem24 => (inI r23 ∧ inI x5) ∧ ((x5 < r23 → Ci X d 278 [(2, 261), (0, 1), (0, x1)] rf mem24 (fun r26 mem27 => L_m_stand_39 X d rf Q mem27 x1 x2 x3 x6 r26 (x6 + 1))) ∧ (¬ x5 < r23 → L_m_stand_39 X d rf Q mem24 x1 x2 x3 x4 x5 (x6 + 1)))))))) : L_m_stand_80 X d rf Q mem x1 x2 x3 x4 x5 x6 := by
  refine zW.go 3 83 [(2, 261), (0, x1), (0, x2), (0, x3), (0, x4), (0, x5), (0, x6)] [(0, 0), (0, 1), (2, 261)] _ rfl ?_
  refine w_callv (as := [(2, 261), (0, 1), (0, 0)]) [] 86 rfl rfl rfl rfl (Nat.le_of_ble_eq_true rfl) (Nat.le_of_ble_eq_true rfl) (Nat.le_of_ble_eq_true rfl) (Or.inr rfl) (Cv.imp h (fun mem21 h => ?_))
  refine zW.go 1 87 [(2, 261), (0, x1), (0, x2), (0, x3), (0, x4), (0, x5), (0, x6)] [(2, 261)] _ rfl ?_
  refine w_getL (q := 261) (v := 296) rfl (by decide) (pc' := 90) rfl ⟨by decide, rfl⟩ rfl rfl (zall_at hR (by decide)) ?_
  refine zW.go 4 96 [(2, 261), (0, x1), (0, x2), (0, x3), (0, x4), (0, x5), (0, x6)] [(0, x6), (0, (6 + x1)), (2, 296)] _ rfl ?_
  obtain ⟨g, h⟩ := h
  refine w_iast (q := 296) rfl (by decide) (pc' := 97) rfl ⟨by decide, rfl⟩ rfl g rfl ?_
  refine zW.go 2 99 [(2, 261), (0, x1), (0, x2), (0, x3), (0, x4), (0, x5), (0, x6)] [(0, x2), (2, 261)] _ rfl ?_
  refine w_callv (as := [(2, 261), (0, x2)]) [] 102 rfl rfl rfl rfl (Nat.le_of_ble_eq_true rfl) (Nat.le_of_ble_eq_true rfl) (Nat.le_of_ble_eq_true rfl) (Or.inr rfl) (Cv.imp h (fun mem22 h => ?_))
  refine zW.go 3 105 [(2, 261), (0, x1), (0, x2), (0, x3), (0, x4), (0, x5), (0, x6)] [(0, x1), (0, 1), (2, 261)] _ rfl ?_
  refine w_calli (as := [(2, 261), (0, 1), (0, x1)]) [] 108 rfl rfl rfl rfl (Nat.le_of_ble_eq_true rfl) (Nat.le_of_ble_eq_true rfl) (Nat.le_of_ble_eq_true rfl) (Or.inr rfl) (Ci.imp h (fun r23 mem24 h => ?_))
  refine zW.go 1 110 [(2, 261), (0, x1), (0, x2), (0, x3), (0, x4), (0, x5), (0, x6)] [(0, x5), (0, r23)] _ rfl ?_
  refine w_ic_gt rfl (by decide) (pc' := 113) rfl h.1 (fun c25 => ?_) (fun c25 => ?_)
  · have h := h.2.1 c25
    refine zW.go 3 119 [(2, 261), (0, x1), (0, x2), (0, x3), (0, x4), (0, x5), (0, x6)] [(0, x1), (0, 1), (2, 261)] _ rfl ?_
    refine w_calli (as := [(2, 261), (0, 1), (0, x1)]) [] 122 rfl rfl rfl rfl (Nat.le_of_ble_eq_true rfl) (Nat.le_of_ble_eq_true rfl) (Nat.le_of_ble_eq_true rfl) (Or.inr rfl) (Ci.imp h (fun r26 mem27 h => ?_))
    refine zW.go 5 39 [(2, 261), (0, x1), (0, x2), (0, x3), (0, x6), (0, r26), (0, (x6 + 1))] [] _ rfl ?_
    exact h
  · have h := h.2.2 c25
    refine zW.go 3 39 [(2, 261), (0, x1), (0, x2), (0, x3), (0, x4), (0, x5), (0, (x6 + 1))] [] _ rfl ?_
    exact h
set_option maxRecDepth 4000 in
theorem s_m_stand {X : zX} {d : Nat} {rf mem : zF} {Q : Int → zF → Prop} (hR : zall rf zRK = true) {x1 : Int} {x2 : Int} {x3 : Int} (h : Ci X d 270 [(2, 261), (0, x1)] rf mem (fun r1 mem2 => (inI r1) ∧ ((r1 = 0 → Q (-1) mem2) ∧ (¬ r1 = 0 → Ci X d 283 [(2, 261), (0, x2), (0, 1), (0, 20)] rf mem2 (fun r4 mem5 => (inI r4) ∧ ((r4 = 0 → Q (-1) mem5) ∧ (¬ r4 = 0 → Ci X d 194 [(0, x3), (0, 0), (0, 2)] rf mem5 (fun r7 mem8 => (inI r7) ∧ ((¬ r7 = 0 → L_m_stand_39 X d rf Q mem8 x1 x2 x3 (-1) (-1) 0) ∧ (r7 = 0 → Q (-1) mem8)))))))))) : Ci X (d + 1) 289 [(2, 261), (0, x1), (0, x2), (0, x3)] rf mem Q := by
  show zW X (d + 1) 289 0 [(2, 261), (0, x1), (0, x2), (0, x3), (9, 0), (9, 0), (9, 0)] [] (zty, rf, mem) (qi rf Q)
  refine zW.go 2 2 [(2, 261), (0, x1), (0, x2), (0, x3), (9, 0), (9, 0), (9, 0)] [(0, x1), (2, 261)] _ rfl ?_
  refine w_calli (as := [(2, 261), (0, x1)]) [] 5 rfl rfl rfl rfl (Nat.le_of_ble_eq_true rfl) (Nat.le_of_ble_eq_true rfl) (Nat.le_of_ble_eq_true rfl) (Or.inr rfl) (Ci.imp h (fun r1 mem2 h => ?_))
  refine w_if_eq rfl (by decide) (pc' := 8) rfl h.1 (fun c3 => ?_) (fun c3 => ?_)
  · have h := h.2.1 c3
    refine zW.go 1 29 [(2, 261), (0, x1), (0, x2), (0, x3), (9, 0), (9, 0), (9, 0)] [(0, (-1))] _ rfl ?_
    exact w_reti rfl rfl h
  · have h := h.2.2 c3
    refine zW.go 4 13 [(2, 261), (0, x1), (0, x2), (0, x3), (9, 0), (9, 0), (9, 0)] [(0, 20), (0, 1), (0, x2), (2, 261)] _ rfl ?_
    refine w_calli (as := [(2, 261), (0, x2), (0, 1), (0, 20)]) [] 16 rfl rfl rfl rfl (Nat.le_of_ble_eq_true rfl) (Nat.le_of_ble_eq_true rfl) (Nat.le_of_ble_eq_true rfl) (Or.inr rfl) (Ci.imp h (fun r4 mem5 h => ?_))
    refine w_if_eq rfl (by decide) (pc' := 19) rfl h.1 (fun c6 => ?_) (fun c6 => ?_)
    · have h := h.2.1 c6
      refine zW.go 1 29 [(2, 261), (0, x1), (0, x2), (0, x3), (9, 0), (9, 0), (9, 0)] [(0, (-1))] _ rfl ?_
      exact w_reti rfl rfl h
    · have h := h.2.2 c6
      refine zW.go 3 22 [(2, 261), (0, x1), (0, x2), (0, x3), (9, 0), (9, 0), (9, 0)] [(0, 2), (0, 0), (0, x3)] _ rfl ?_
      refine w_calli (as := [(0, x3), (0, 0), (0, 2)]) [] 25 rfl rfl rfl rfl (Nat.le_of_ble_eq_true rfl) (Nat.le_of_ble_eq_true rfl) (Nat.le_of_ble_eq_true rfl) (Or.inl rfl) (Ci.imp h (fun r7 mem8 h => ?_))
      refine w_if_ne rfl (by decide) (pc' := 28) rfl h.1 (fun c9 => ?_) (fun c9 => ?_)
      · have h := h.2.1 c9
        refine zW.go 6 39 [(2, 261), (0, x1), (0, x2), (0, x3), (0, (-1)), (0, (-1)), (0, 0)] [] _ rfl ?_
        exact h
      · have h := h.2.2 c9
        refine zW.go 1 29 [(2, 261), (0, x1), (0, x2), (0, x3), (9, 0), (9, 0), (9, 0)] [(0, (-1))] _ rfl ?_
        exact w_reti rfl rfl h
def L_m_shine_30 (X : zX) (d : Nat) (rf : zF) (Q : Int → zF → Prop) (mem : zF) (x1 : Int) (x2 : Int) (x3 : Int) (x4 : Int) (x5 : Int) : Prop := ∀ z6 : zV, ∀ z7 : zV, zW X (d + 1) 290 30 [(2, 261), (0, x1), (0, x2), (0, x3), (0, x4), (0, x5), z6, z7] [] (zty, rf, mem) (qi rf Q)
def L_m_shine_74 (X : zX) (d : Nat) (rf : zF) (Q : Int → zF → Prop) (mem : zF) (x1 : Int) (x2 : Int) (x3 : Int) (x4 : Int) (x5 : Int) (x6 : Int) (x7 : Int) : Prop := zW X (d + 1) 290 74 [(2, 261), (0, x1), (0, x2), (0, x3), (0, x4), (0, x5), (0, x6), (0, x7)] [] (zty, rf, mem) (qi rf Q)
set_option maxRecDepth 4000 in
theorem s_m_shine_30 {X : zX} {d : Nat} {rf mem : zF} {Q : Int → zF → Prop} (hR : zall rf zRK = true) {x1 : Int} {x2 : Int} {x3 : Int} {x4 : Int} {x5 : Int} (h : (inI x5) ∧ ((64 ≤ x5 → (inI x2) ∧ ((¬ x2 = 2 → Ci X d 275 [(0, x3), (0, x2)] rf mem (fun r9 mem10 => Q r9 mem10)) ∧ (x2 = 2 → Q x4 mem))) ∧ (¬ 64 ≤ x5 → Ci X d 254 [(2, 261), (0, x5)] rf mem (fun r11 mem12 => (inI r11) ∧ ((¬ r11 = 0 → Cv X d 242 [(2, 261), (0, 1), (0, 0)] rf mem12 (fun mem14 => Cv X d 284 [(2, 261), (0, x1)] rf (zup mem14 294 1 x5) (fun mem15 => L_m_shine_74 X d rf Q mem15 x1 x2 x3 x4 x5 0 0))) ∧ (r11 = 0 → L_m_shine_30 X d rf Q mem12 x1 x2 x3 x4 (x5 + 1))))))) : L_m_shine_30 X d rf Q mem x1 x2 x3 x4 x5 := by
  intro z6 z7
  refine zW.go 2 34 [(2, 261), (0, x1), (0, x2), (0, x3), (0, x4), (0, x5), z6, z7] [(0, 64), (0, x5)] _ rfl ?_
  refine w_ic_ge rfl (by decide) (pc' := 37) rfl ⟨h.1, by decide⟩ (fun c7 => ?_) (fun c7 => ?_)
  · have h := h.2.1 c7
    refine zW.go 2 134 [(2, 261), (0, x1), (0, x2), (0, x3), (0, x4), (0, x5), z6, z7] [(0, 2), (0, x2)] _ rfl ?_
    refine w_ic_ne rfl (by decide) (pc' := 137) rfl ⟨h.1, by decide⟩ (fun c8 => ?_) (fun c8 => ?_)
    · have h := h.2.1 c8
      refine zW.go 2 144 [(2, 261), (0, x1), (0, x2), (0, x3), (0, x4), (0, x5), z6, z7] [(0, x2), (0, x3)] _ rfl ?_
      refine w_calli (as := [(0, x3), (0, x2)]) [] 147 rfl rfl rfl rfl (Nat.le_of_ble_eq_true rfl) (Nat.le_of_ble_eq_true rfl) (Nat.le_of_ble_eq_true rfl) (Or.inl rfl) (Ci.imp h (fun r9 mem10 h => ?_))
      exact w_reti rfl rfl h
    · have h := h.2.2 c8
      refine zW.go 2 147 [(2, 261), (0, x1), (0, x2), (0, x3), (0, x4), (0, x5), z6, z7] [(0, x4)] _ rfl ?_
      exact w_reti rfl rfl h
  · have h := h.2.2 c7
    refine zW.go 2 40 [(2, 261), (0, x1), (0, x2), (0, x3), (0, x4), (0, x5), z6, z7] [(0, x5), (2, 261)] _ rfl ?_
    refine w_calli (as := [(2, 261), (0, x5)]) [] 43 rfl rfl rfl rfl (Nat.le_of_ble_eq_true rfl) (Nat.le_of_ble_eq_true rfl) (Nat.le_of_ble_eq_true rfl) (Or.inr rfl) (Ci.imp h (fun r11 mem12 h => ?_))
    refine w_if_ne rfl (by decide) (pc' := 46) rfl h.1 (fun c13 => ?_) (fun c13 => ?_)
    · have h := h.2.1 c13
      refine zW.go 3 52 [(2, 261), (0, x1), (0, x2), (0, x3), (0, x4), (0, x5), z6, z7] [(0, 0), (0, 1), (2, 261)] _ rfl ?_
      refine w_callv (as := [(2, 261), (0, 1), (0, 0)]) [] 55 rfl rfl rfl rfl (Nat.le_of_ble_eq_true rfl) (Nat.le_of_ble_eq_true rfl) (Nat.le_of_ble_eq_true rfl) (Or.inr rfl) (Cv.imp h (fun mem14 h => ?_))
      refine zW.go 1 56 [(2, 261), (0, x1), (0, x2), (0, x3), (0, x4), (0, x5), z6, z7] [(2, 261)] _ rfl ?_
      refine w_getL (q := 261) (v := 294) rfl (by decide) (pc' := 59) rfl ⟨by decide, rfl⟩ rfl rfl (zall_at hR (by decide)) ?_
      refine zW.go 2 62 [(2, 261), (0, x1), (0, x2), (0, x3), (0, x4), (0, x5), z6, z7] [(0, x5), (0, 1), (2, 294)] _ rfl ?_
      refine w_iast (q := 294) rfl (by decide) (pc' := 63) rfl ⟨by decide, rfl⟩ rfl (by decide) rfl ?_
      refine zW.go 2 65 [(2, 261), (0, x1), (0, x2), (0, x3), (0, x4), (0, x5), z6, z7] [(0, x1), (2, 261)] _ rfl ?_
      refine w_callv (as := [(2, 261), (0, x1)]) [] 68 rfl rfl rfl rfl (Nat.le_of_ble_eq_true rfl) (Nat.le_of_ble_eq_true rfl) (Nat.le_of_ble_eq_true rfl) (Or.inr rfl) (Cv.imp h (fun mem15 h => ?_))
      refine zW.go 4 74 [(2, 261), (0, x1), (0, x2), (0, x3), (0, x4), (0, x5), (0, 0), (0, 0)] [] _ rfl ?_
      exact h
    · have h := h.2.2 c13
      refine zW.go 3 30 [(2, 261), (0, x1), (0, x2), (0, x3), (0, x4), (0, (x5 + 1)), z6, z7] [] _ rfl ?_
      exact h z6 z7
set_option maxRecDepth 4000 in
theorem s_m_shine_74 {X : zX} {d : Nat} {rf mem : zF} {Q : Int → zF → Prop} (hR : zall rf zRK = true) {x1 : Int} {x2 : Int} {x3 : Int} {x4 : Int} {x5 : Int} {x6 : Int} {x7 : Int} (h : (0 ≤ (mem 261 13) ∧ (mem 261 13) < 2) ∧ ((inI x7 ∧ inI (mem 274 ((mem 261 13)).toNat)) ∧ (((mem 274 ((mem 261 13)).toNat) ≤ x7 → (inI x6 ∧ inI x4) ∧ ((x4 < x6 → L_m_shine_30 X d rf Q mem x1 x2 x5 x6 (x5 + 1)) ∧ (¬ x4 < x6 → L_m_shine_30 X d rf Q mem x1 x2 x3 x4 (x5 + 1)))) ∧ (¬ (mem 274 ((mem 261 13)).toNat) ≤ x7 → (0 ≤ (6 + x7) ∧ (6 + x7) < 132) ∧ (L_m_shine_74 X d rf Q mem x1 x2 x3 x4 x5 (x6 + (mem 302 ((6 + x7)).toNat)) (x7 + 1)))))) : L_m_shine_74 X d rf Q mem x1 x2 x3 x4 x5 x6 x7 := by
  refine zW.go 2 77 [(2, 261), (0, x1), (0, x2), (0, x3), (0, x4), (0, x5), (0, x6), (0, x7)] [(2, 261), (0, x7)] _ rfl ?_
  refine w_getL (q := 261) (v := 274) rfl (by decide) (pc' := 80) rfl ⟨by decide, rfl⟩ rfl rfl (zall_at hR (by decide)) ?_
  refine zW.go 1 81 [(2, 261), (0, x1), (0, x2), (0, x3), (0, x4), (0, x5), (0, x6), (0, x7)] [(2, 261), (2, 274), (0, x7)] _ rfl ?_
  refine w_getI (q := 261) rfl (by decide) (pc' := 84) rfl ⟨by decide, rfl⟩ rfl (by decide) ?_
  obtain ⟨g, h⟩ := h
  refine w_iald (q := 274) rfl (by decide) (pc' := 85) rfl ⟨by decide, rfl⟩ rfl g rfl ?_
  refine w_ic_ge rfl (by decide) (pc' := 88) rfl h.1 (fun c16 => ?_) (fun c16 => ?_)
  · have h := h.2.1 c16
    refine zW.go 2 113 [(2, 261), (0, x1), (0, x2), (0, x3), (0, x4), (0, x5), (0, x6), (0, x7)] [(0, x4), (0, x6)] _ rfl ?_
    refine w_ic_gt rfl (by decide) (pc' := 116) rfl h.1 (fun c17 => ?_) (fun c17 => ?_)
    · have h := h.2.1 c17
      refine zW.go 6 30 [(2, 261), (0, x1), (0, x2), (0, x5), (0, x6), (0, (x5 + 1)), (0, x6), (0, x7)] [] _ rfl ?_
      exact h (0, x6) (0, x7)
    · have h := h.2.2 c17
      refine zW.go 3 30 [(2, 261), (0, x1), (0, x2), (0, x3), (0, x4), (0, (x5 + 1)), (0, x6), (0, x7)] [] _ rfl ?_
      exact h (0, x6) (0, x7)
  · have h := h.2.2 c16
    refine zW.go 2 91 [(2, 261), (0, x1), (0, x2), (0, x3), (0, x4), (0, x5), (0, x6), (0, x7)] [(2, 261), (0, x6)] _ rfl ?_
    refine w_getL (q := 261) (v := 302) rfl (by decide) (pc' := 94) rfl ⟨by decide, rfl⟩ rfl rfl (zall_at hR (by decide)) ?_
    refine zW.go 3 99 [(2, 261), (0, x1), (0, x2), (0, x3), (0, x4), (0, x5), (0, x6), (0, x7)] [(0, (6 + x7)), (2, 302), (0, x6)] _ rfl ?_
    obtain ⟨g, h⟩ := h
    refine w_iald (q := 302) rfl (by decide) (pc' := 100) rfl ⟨by decide, rfl⟩ rfl g rfl ?_
    refine zW.go 4 74 [(2, 261), (0, x1), (0, x2), (0, x3), (0, x4), (0, x5), (0, (x6 + (mem 302 ((6 + x7)).toNat))), (0, (x7 + 1))] [] _ rfl ?_
    exact h
set_option maxRecDepth 4000 in
theorem s_m_shine {X : zX} {d : Nat} {rf mem : zF} {Q : Int → zF → Prop} (hR : zall rf zRK = true) {x1 : Int} {x2 : Int} (h : Ci X d 283 [(2, 261), (0, x1), (0, 1), (0, 20)] rf mem (fun r1 mem2 => (inI r1) ∧ ((r1 = 0 → Q (-1) mem2) ∧ (¬ r1 = 0 → Ci X d 194 [(0, x2), (0, 0), (0, 2)] rf mem2 (fun r4 mem5 => (inI r4) ∧ ((¬ r4 = 0 → L_m_shine_30 X d rf Q mem5 x1 x2 (-1) (-1) 0) ∧ (r4 = 0 → Q (-1) mem5))))))) : Ci X (d + 1) 290 [(2, 261), (0, x1), (0, x2)] rf mem Q := by
  show zW X (d + 1) 290 0 [(2, 261), (0, x1), (0, x2), (9, 0), (9, 0), (9, 0), (9, 0), (9, 0)] [] (zty, rf, mem) (qi rf Q)
  refine zW.go 4 5 [(2, 261), (0, x1), (0, x2), (9, 0), (9, 0), (9, 0), (9, 0), (9, 0)] [(0, 20), (0, 1), (0, x1), (2, 261)] _ rfl ?_
  refine w_calli (as := [(2, 261), (0, x1), (0, 1), (0, 20)]) [] 8 rfl rfl rfl rfl (Nat.le_of_ble_eq_true rfl) (Nat.le_of_ble_eq_true rfl) (Nat.le_of_ble_eq_true rfl) (Or.inr rfl) (Ci.imp h (fun r1 mem2 h => ?_))
  refine w_if_eq rfl (by decide) (pc' := 11) rfl h.1 (fun c3 => ?_) (fun c3 => ?_)
  · have h := h.2.1 c3
    refine zW.go 1 21 [(2, 261), (0, x1), (0, x2), (9, 0), (9, 0), (9, 0), (9, 0), (9, 0)] [(0, (-1))] _ rfl ?_
    exact w_reti rfl rfl h
  · have h := h.2.2 c3
    refine zW.go 3 14 [(2, 261), (0, x1), (0, x2), (9, 0), (9, 0), (9, 0), (9, 0), (9, 0)] [(0, 2), (0, 0), (0, x2)] _ rfl ?_
    refine w_calli (as := [(0, x2), (0, 0), (0, 2)]) [] 17 rfl rfl rfl rfl (Nat.le_of_ble_eq_true rfl) (Nat.le_of_ble_eq_true rfl) (Nat.le_of_ble_eq_true rfl) (Or.inl rfl) (Ci.imp h (fun r4 mem5 h => ?_))
    refine w_if_ne rfl (by decide) (pc' := 20) rfl h.1 (fun c6 => ?_) (fun c6 => ?_)
    · have h := h.2.1 c6
      refine zW.go 6 30 [(2, 261), (0, x1), (0, x2), (0, (-1)), (0, (-1)), (0, 0), (9, 0), (9, 0)] [] _ rfl ?_
      exact h (9, 0) (9, 0)
    · have h := h.2.2 c6
      refine zW.go 1 21 [(2, 261), (0, x1), (0, x2), (9, 0), (9, 0), (9, 0), (9, 0), (9, 0)] [(0, (-1))] _ rfl ?_
      exact w_reti rfl rfl h
def L_m_lasts_32 (X : zX) (d : Nat) (rf : zF) (Q : Int → zF → Prop) (mem : zF) (x1 : Int) (x2 : Int) (x3 : Int) : Prop := zW X (d + 1) 291 32 [(2, 261), (0, x1), (0, x2), (0, x3)] [] (zty, rf, mem) (qi rf Q)
set_option maxRecDepth 4000 in
theorem s_m_lasts_32 {X : zX} {d : Nat} {rf mem : zF} {Q : Int → zF → Prop} (hR : zall rf zRK = true) {x1 : Int} {x2 : Int} {x3 : Int} (h : (inI x3) ∧ ((99 < x3 → Q (-1) mem) ∧ (¬ 99 < x3 → Cv X d 242 [(2, 261), (0, 1), (0, 0)] rf mem (fun mem11 => (0 ≤ (6 + x1) ∧ (6 + x1) < 132) ∧ (Cv X d 284 [(2, 261), (0, x2)] rf (zup mem11 298 ((6 + x1)).toNat x3) (fun mem12 => Ci X d 258 [(2, 261), (0, 1), (0, x1)] rf mem12 (fun r13 mem14 => (inI r13) ∧ ((r13 = 0 → L_m_lasts_32 X d rf Q mem14 x1 x2 (x3 + 1)) ∧ (¬ r13 = 0 → Q x3 mem14))))))))) : L_m_lasts_32 X d rf Q mem x1 x2 x3 := by
  refine zW.go 2 35 [(2, 261), (0, x1), (0, x2), (0, x3)] [(0, 99), (0, x3)] _ rfl ?_
  refine w_ic_gt rfl (by decide) (pc' := 38) rfl ⟨h.1, by decide⟩ (fun c10 => ?_) (fun c10 => ?_)
  · have h := h.2.1 c10
    refine zW.go 1 77 [(2, 261), (0, x1), (0, x2), (0, x3)] [(0, (-1))] _ rfl ?_
    exact w_reti rfl rfl h
  · have h := h.2.2 c10
    refine zW.go 3 41 [(2, 261), (0, x1), (0, x2), (0, x3)] [(0, 0), (0, 1), (2, 261)] _ rfl ?_
    refine w_callv (as := [(2, 261), (0, 1), (0, 0)]) [] 44 rfl rfl rfl rfl (Nat.le_of_ble_eq_true rfl) (Nat.le_of_ble_eq_true rfl) (Nat.le_of_ble_eq_true rfl) (Or.inr rfl) (Cv.imp h (fun mem11 h => ?_))
    refine zW.go 1 45 [(2, 261), (0, x1), (0, x2), (0, x3)] [(2, 261)] _ rfl ?_
    refine w_getL (q := 261) (v := 298) rfl (by decide) (pc' := 48) rfl ⟨by decide, rfl⟩ rfl rfl (zall_at hR (by decide)) ?_
    refine zW.go 4 53 [(2, 261), (0, x1), (0, x2), (0, x3)] [(0, x3), (0, (6 + x1)), (2, 298)] _ rfl ?_
    obtain ⟨g, h⟩ := h
    refine w_iast (q := 298) rfl (by decide) (pc' := 54) rfl ⟨by decide, rfl⟩ rfl g rfl ?_
    refine zW.go 2 56 [(2, 261), (0, x1), (0, x2), (0, x3)] [(0, x2), (2, 261)] _ rfl ?_
    refine w_callv (as := [(2, 261), (0, x2)]) [] 59 rfl rfl rfl rfl (Nat.le_of_ble_eq_true rfl) (Nat.le_of_ble_eq_true rfl) (Nat.le_of_ble_eq_true rfl) (Or.inr rfl) (Cv.imp h (fun mem12 h => ?_))
    refine zW.go 3 62 [(2, 261), (0, x1), (0, x2), (0, x3)] [(0, x1), (0, 1), (2, 261)] _ rfl ?_
    refine w_calli (as := [(2, 261), (0, 1), (0, x1)]) [] 65 rfl rfl rfl rfl (Nat.le_of_ble_eq_true rfl) (Nat.le_of_ble_eq_true rfl) (Nat.le_of_ble_eq_true rfl) (Or.inr rfl) (Ci.imp h (fun r13 mem14 h => ?_))
    refine w_if_eq rfl (by decide) (pc' := 68) rfl h.1 (fun c15 => ?_) (fun c15 => ?_)
    · have h := h.2.1 c15
      refine zW.go 2 32 [(2, 261), (0, x1), (0, x2), (0, (x3 + 1))] [] _ rfl ?_
      exact h
    · have h := h.2.2 c15
      refine zW.go 1 69 [(2, 261), (0, x1), (0, x2), (0, x3)] [(0, x3)] _ rfl ?_
      exact w_reti rfl rfl h
set_option maxRecDepth 4000 in
theorem s_m_lasts {X : zX} {d : Nat} {rf mem : zF} {Q : Int → zF → Prop} (hR : zall rf zRK = true) {x1 : Int} {x2 : Int} (h : Ci X d 271 [(2, 261), (0, x1)] rf mem (fun r1 mem2 => (inI r1) ∧ ((r1 = 0 → Q (-1) mem2) ∧ (¬ r1 = 0 → Ci X d 258 [(2, 261), (0, 0), (0, x1)] rf mem2 (fun r4 mem5 => (inI r4) ∧ ((r4 = 0 → Q (-1) mem5) ∧ (¬ r4 = 0 → Ci X d 283 [(2, 261), (0, x2), (0, 1), (0, 20)] rf mem5 (fun r7 mem8 => (inI r7) ∧ ((¬ r7 = 0 → L_m_lasts_32 X d rf Q mem8 x1 x2 1) ∧ (r7 = 0 → Q (-1) mem8)))))))))) : Ci X (d + 1) 291 [(2, 261), (0, x1), (0, x2)] rf mem Q := by
  show zW X (d + 1) 291 0 [(2, 261), (0, x1), (0, x2), (9, 0)] [] (zty, rf, mem) (qi rf Q)
  refine zW.go 2 2 [(2, 261), (0, x1), (0, x2), (9, 0)] [(0, x1), (2, 261)] _ rfl ?_
  refine w_calli (as := [(2, 261), (0, x1)]) [] 5 rfl rfl rfl rfl (Nat.le_of_ble_eq_true rfl) (Nat.le_of_ble_eq_true rfl) (Nat.le_of_ble_eq_true rfl) (Or.inr rfl) (Ci.imp h (fun r1 mem2 h => ?_))
  refine w_if_eq rfl (by decide) (pc' := 8) rfl h.1 (fun c3 => ?_) (fun c3 => ?_)
  · have h := h.2.1 c3
    refine zW.go 1 29 [(2, 261), (0, x1), (0, x2), (9, 0)] [(0, (-1))] _ rfl ?_
    exact w_reti rfl rfl h
  · have h := h.2.2 c3
    refine zW.go 3 11 [(2, 261), (0, x1), (0, x2), (9, 0)] [(0, x1), (0, 0), (2, 261)] _ rfl ?_
    refine w_calli (as := [(2, 261), (0, 0), (0, x1)]) [] 14 rfl rfl rfl rfl (Nat.le_of_ble_eq_true rfl) (Nat.le_of_ble_eq_true rfl) (Nat.le_of_ble_eq_true rfl) (Or.inr rfl) (Ci.imp h (fun r4 mem5 h => ?_))
    refine w_if_eq rfl (by decide) (pc' := 17) rfl h.1 (fun c6 => ?_) (fun c6 => ?_)
    · have h := h.2.1 c6
      refine zW.go 1 29 [(2, 261), (0, x1), (0, x2), (9, 0)] [(0, (-1))] _ rfl ?_
      exact w_reti rfl rfl h
    · have h := h.2.2 c6
      refine zW.go 4 22 [(2, 261), (0, x1), (0, x2), (9, 0)] [(0, 20), (0, 1), (0, x2), (2, 261)] _ rfl ?_
      refine w_calli (as := [(2, 261), (0, x2), (0, 1), (0, 20)]) [] 25 rfl rfl rfl rfl (Nat.le_of_ble_eq_true rfl) (Nat.le_of_ble_eq_true rfl) (Nat.le_of_ble_eq_true rfl) (Or.inr rfl) (Ci.imp h (fun r7 mem8 h => ?_))
      refine w_if_ne rfl (by decide) (pc' := 28) rfl h.1 (fun c9 => ?_) (fun c9 => ?_)
      · have h := h.2.1 c9
        refine zW.go 2 32 [(2, 261), (0, x1), (0, x2), (0, 1)] [] _ rfl ?_
        exact h
      · have h := h.2.2 c9
        refine zW.go 1 29 [(2, 261), (0, x1), (0, x2), (9, 0)] [(0, (-1))] _ rfl ?_
        exact w_reti rfl rfl h
