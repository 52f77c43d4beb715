def L_m_counts_32 (X : zX) (d : Nat) (rf : zF) (Q : Int → zF → Prop) (mem : zF) : Prop := ∀ z1 : zV, zW X (d + 1) 221 32 [(2, 261), z1] [] (zty, rf, mem) (qi rf Q)
set_option maxRecDepth 4000 in
theorem s_m_counts_32 {X : zX} {d : Nat} {rf mem : zF} {Q : Int → zF → Prop} (hR : zall rf zRK = true) (h : (inI (mem 261 8)) ∧ ((¬ (mem 261 8) = 0 → Q 0 mem) ∧ ((mem 261 8) = 0 → Q 1 mem))) : L_m_counts_32 X d rf Q mem := by
  intro z1
  refine zW.go 1 33 [(2, 261), z1] [(2, 261)] _ rfl ?_
  refine w_getI (q := 261) rfl (by decide) (pc' := 36) rfl ⟨by decide, rfl⟩ rfl (by decide) ?_
  refine w_if_ne rfl (by decide) (pc' := 39) rfl h.1 (fun c10 => ?_) (fun c10 => ?_)
  · have h := h.2.1 c10
    refine zW.go 1 44 [(2, 261), z1] [(0, 0)] _ rfl ?_
    exact w_retz rfl rfl (by decide) h
  · have h := h.2.2 c10
    refine zW.go 2 44 [(2, 261), z1] [(0, 1)] _ rfl ?_
    exact w_retz rfl rfl (by decide) h
set_option maxRecDepth 4000 in
theorem s_m_counts {X : zX} {d : Nat} {rf mem : zF} {Q : Int → zF → Prop} (hR : zall rf zRK = true) {x1 : Int} (h : (inI (mem 261 8)) ∧ ((¬ (mem 261 8) = 0 → (inI (mem 261 8)) ∧ ((¬ (mem 261 8) = 0 → L_m_counts_32 X d rf Q mem) ∧ ((mem 261 8) = 0 → Cv X d 202 [(2, 261)] rf mem (fun mem3 => L_m_counts_32 X d rf Q mem3)))) ∧ ((mem 261 8) = 0 → (inI x1) ∧ ((x1 = 0 → (inI (mem 261 8)) ∧ ((¬ (mem 261 8) = 0 → L_m_counts_32 X d rf Q mem) ∧ ((mem 261 8) = 0 → Cv X d 202 [(2, 261)] rf mem (fun mem6 => L_m_counts_32 X d rf Q mem6)))) ∧ (¬ x1 = 0 → Cv X d 198 [(2, 261), (0, 6), (0, (mem 261 4))] rf mem (fun mem7 => (inI (mem7 261 8)) ∧ ((¬ (mem7 261 8) = 0 → L_m_counts_32 X d rf Q mem7) ∧ ((mem7 261 8) = 0 → Cv X d 202 [(2, 261)] rf mem7 (fun mem9 => L_m_counts_32 X d rf Q mem9))))))))) : Ci X (d + 1) 221 [(2, 261), (0, x1)] rf mem Q := by
  show zW X (d + 1) 221 0 [(2, 261), (0, x1)] [] (zty, rf, mem) (qi rf Q)
  refine zW.go 1 1 [(2, 261), (0, x1)] [(2, 261)] _ rfl ?_
  refine w_getI (q := 261) rfl (by decide) (pc' := 4) rfl ⟨by decide, rfl⟩ rfl (by decide) ?_
  refine w_if_ne rfl (by decide) (pc' := 7) rfl h.1 (fun c1 => ?_) (fun c1 => ?_)
  · have h := h.2.1 c1
    refine zW.go 1 22 [(2, 261), (0, x1)] [(2, 261)] _ rfl ?_
    refine w_getI (q := 261) rfl (by decide) (pc' := 25) rfl ⟨by decide, rfl⟩ rfl (by decide) ?_
    refine w_if_ne rfl (by decide) (pc' := 28) rfl h.1 (fun c2 => ?_) (fun c2 => ?_)
    · have h := h.2.1 c2
      exact h (0, x1)
    · have h := h.2.2 c2
      refine zW.go 1 29 [(2, 261), (0, x1)] [(2, 261)] _ rfl ?_
      refine w_callv (as := [(2, 261)]) [] 32 rfl rfl rfl rfl (Nat.le_of_ble_eq_true rfl) (Nat.le_of_ble_eq_true rfl) (Nat.le_of_ble_eq_true rfl) (Or.inr rfl) (Cv.imp h (fun mem3 h => ?_))
      exact h (0, x1)
  · have h := h.2.2 c1
    refine zW.go 1 8 [(2, 261), (0, x1)] [(0, x1)] _ rfl ?_
    refine w_if_eq rfl (by decide) (pc' := 11) rfl h.1 (fun c4 => ?_) (fun c4 => ?_)
    · have h := h.2.1 c4
      refine zW.go 1 22 [(2, 261), (0, x1)] [(2, 261)] _ rfl ?_
      refine w_getI (q := 261) rfl (by decide) (pc' := 25) rfl ⟨by decide, rfl⟩ rfl (by decide) ?_
      refine w_if_ne rfl (by decide) (pc' := 28) rfl h.1 (fun c5 => ?_) (fun c5 => ?_)
      · have h := h.2.1 c5
        exact h (0, x1)
      · have h := h.2.2 c5
        refine zW.go 1 29 [(2, 261), (0, x1)] [(2, 261)] _ rfl ?_
        refine w_callv (as := [(2, 261)]) [] 32 rfl rfl rfl rfl (Nat.le_of_ble_eq_true rfl) (Nat.le_of_ble_eq_true rfl) (Nat.le_of_ble_eq_true rfl) (Or.inr rfl) (Cv.imp h (fun mem6 h => ?_))
        exact h (0, x1)
    · have h := h.2.2 c4
      refine zW.go 3 15 [(2, 261), (0, x1)] [(2, 261), (0, 6), (2, 261)] _ rfl ?_
      refine w_getI (q := 261) rfl (by decide) (pc' := 18) rfl ⟨by decide, rfl⟩ rfl (by decide) ?_
      refine w_callv (as := [(2, 261), (0, 6), (0, (mem 261 4))]) [] 21 rfl rfl rfl rfl (Nat.le_of_ble_eq_true rfl) (Nat.le_of_ble_eq_true rfl) (Nat.le_of_ble_eq_true rfl) (Or.inr rfl) (Cv.imp h (fun mem7 h => ?_))
      refine zW.go 1 22 [(2, 261), (0, x1)] [(2, 261)] _ rfl ?_
      refine w_getI (q := 261) rfl (by decide) (pc' := 25) rfl ⟨by decide, rfl⟩ rfl (by decide) ?_
      refine w_if_ne rfl (by decide) (pc' := 28) rfl h.1 (fun c8 => ?_) (fun c8 => ?_)
      · have h := h.2.1 c8
        exact h (0, x1)
      · have h := h.2.2 c8
        refine zW.go 1 29 [(2, 261), (0, x1)] [(2, 261)] _ rfl ?_
        refine w_callv (as := [(2, 261)]) [] 32 rfl rfl rfl rfl (Nat.le_of_ble_eq_true rfl) (Nat.le_of_ble_eq_true rfl) (Nat.le_of_ble_eq_true rfl) (Or.inr rfl) (Cv.imp h (fun mem9 h => ?_))
        exact h (0, x1)
set_option maxRecDepth 4000 in
theorem s_m_must_222 {X : zX} {d : Nat} {rf mem : zF} {Q : zF → Prop} (hR : zall rf zRK = true) {x1 : Int} (h : Cv X d 201 [(2, 261)] rf mem (fun mem1 => (inI (mem1 261 8)) ∧ (((mem1 261 8) ≤ 0 → Ci X d 204 [(2, 261), (1, x1)] rf mem1 (fun r3 mem4 => (inI r3) ∧ ((¬ r3 = 0 → (inI (mem4 261 8)) ∧ ((¬ (mem4 261 8) = 0 → Q mem4) ∧ ((mem4 261 8) = 0 → Cv X d 202 [(2, 261)] rf mem4 (fun mem7 => Q mem7)))) ∧ (r3 = 0 → Cv X d 198 [(2, 261), (0, 1), (0, (mem4 261 4))] rf mem4 (fun mem8 => (inI (mem8 261 8)) ∧ ((¬ (mem8 261 8) = 0 → Q mem8) ∧ ((mem8 261 8) = 0 → Cv X d 202 [(2, 261)] rf mem8 (fun mem10 => Q mem10)))))))) ∧ (¬ (mem1 261 8) ≤ 0 → Q mem1)))) : Cv X (d + 1) 222 [(2, 261), (1, x1)] rf mem Q := by
  show zW X (d + 1) 222 0 [(2, 261), (1, x1), (9, 0)] [] (zty, rf, mem) (qv rf Q)
  refine zW.go 1 1 [(2, 261), (1, x1), (9, 0)] [(2, 261)] _ rfl ?_
  refine w_callv (as := [(2, 261)]) [] 4 rfl rfl rfl rfl (Nat.le_of_ble_eq_true rfl) (Nat.le_of_ble_eq_true rfl) (Nat.le_of_ble_eq_true rfl) (Or.inr rfl) (Cv.imp h (fun mem1 h => ?_))
  refine zW.go 1 5 [(2, 261), (1, x1), (9, 0)] [(2, 261)] _ rfl ?_
  refine w_getI (q := 261) rfl (by decide) (pc' := 8) rfl ⟨by decide, rfl⟩ rfl (by decide) ?_
  refine w_if_le rfl (by decide) (pc' := 11) rfl h.1 (fun c2 => ?_) (fun c2 => ?_)
  · have h := h.2.1 c2
    refine zW.go 2 14 [(2, 261), (1, x1), (9, 0)] [(1, x1), (2, 261)] _ rfl ?_
    refine w_calli (as := [(2, 261), (1, x1)]) [] 17 rfl rfl rfl rfl (Nat.le_of_ble_eq_true rfl) (Nat.le_of_ble_eq_true rfl) (Nat.le_of_ble_eq_true rfl) (Or.inr rfl) (Ci.imp h (fun r3 mem4 h => ?_))
    refine w_if_ne rfl (by decide) (pc' := 20) rfl h.1 (fun c5 => ?_) (fun c5 => ?_)
    · have h := h.2.1 c5
      refine zW.go 1 30 [(2, 261), (1, x1), (9, 0)] [(2, 261)] _ rfl ?_
      refine w_getI (q := 261) rfl (by decide) (pc' := 33) rfl ⟨by decide, rfl⟩ rfl (by decide) ?_
      refine w_if_ne rfl (by decide) (pc' := 36) rfl h.1 (fun c6 => ?_) (fun c6 => ?_)
      · have h := h.2.1 c6
        exact w_retv rfl rfl h
      · have h := h.2.2 c6
        refine zW.go 1 37 [(2, 261), (1, x1), (9, 0)] [(2, 261)] _ rfl ?_
        refine w_callv (as := [(2, 261)]) [] 40 rfl rfl rfl rfl (Nat.le_of_ble_eq_true rfl) (Nat.le_of_ble_eq_true rfl) (Nat.le_of_ble_eq_true rfl) (Or.inr rfl) (Cv.imp h (fun mem7 h => ?_))
        exact w_retv rfl rfl h
    · have h := h.2.2 c5
      refine zW.go 3 23 [(2, 261), (1, x1), (9, 0)] [(2, 261), (0, 1), (2, 261)] _ rfl ?_
      refine w_getI (q := 261) rfl (by decide) (pc' := 26) rfl ⟨by decide, rfl⟩ rfl (by decide) ?_
      refine w_callv (as := [(2, 261), (0, 1), (0, (mem4 261 4))]) [] 29 rfl rfl rfl rfl (Nat.le_of_ble_eq_true rfl) (Nat.le_of_ble_eq_true rfl) (Nat.le_of_ble_eq_true rfl) (Or.inr rfl) (Cv.imp h (fun mem8 h => ?_))
      refine zW.go 1 30 [(2, 261), (1, x1), (9, 0)] [(2, 261)] _ rfl ?_
      refine w_getI (q := 261) rfl (by decide) (pc' := 33) rfl ⟨by decide, rfl⟩ rfl (by decide) ?_
      refine w_if_ne rfl (by decide) (pc' := 36) rfl h.1 (fun c9 => ?_) (fun c9 => ?_)
      · have h := h.2.1 c9
        exact w_retv rfl rfl h
      · have h := h.2.2 c9
        refine zW.go 1 37 [(2, 261), (1, x1), (9, 0)] [(2, 261)] _ rfl ?_
        refine w_callv (as := [(2, 261)]) [] 40 rfl rfl rfl rfl (Nat.le_of_ble_eq_true rfl) (Nat.le_of_ble_eq_true rfl) (Nat.le_of_ble_eq_true rfl) (Or.inr rfl) (Cv.imp h (fun mem10 h => ?_))
        exact w_retv rfl rfl h
  · have h := h.2.2 c2
    exact w_retv rfl rfl h
set_option maxRecDepth 4000 in
theorem s_m_has2 {X : zX} {d : Nat} {rf mem : zF} {Q : Int → zF → Prop} (hR : zall rf zRK = true) {x0 : Int} {x1 : Int} (h : (inI (zand (zshr x0 x1) 1)) ∧ ((¬ (zand (zshr x0 x1) 1) = 1 → Q 0 mem) ∧ ((zand (zshr x0 x1) 1) = 1 → Q 1 mem))) : Ci X d 223 [(0, x0), (0, x1)] rf mem Q := by
  show zW X d 223 0 [(0, x0), (0, x1)] [] (zty, rf, mem) (qi rf Q)
  refine zW.go 6 6 [(0, x0), (0, x1)] [(0, 1), (0, (zand (zshr x0 x1) 1))] _ rfl ?_
  refine w_ic_ne rfl (by decide) (pc' := 9) rfl ⟨h.1, by decide⟩ (fun c1 => ?_) (fun c1 => ?_)
  · have h := h.2.1 c1
    refine zW.go 1 14 [(0, x0), (0, x1)] [(0, 0)] _ rfl ?_
    exact w_retz rfl rfl (by decide) h
  · have h := h.2.2 c1
    refine zW.go 2 14 [(0, x0), (0, x1)] [(0, 1)] _ rfl ?_
    exact w_retz rfl rfl (by decide) h
def L_m_fresh_32 (X : zX) (d : Nat) (rf : zF) (Q : Int → zF → Prop) (mem : zF) : Prop := ∀ z1 : zV, ∀ z2 : zV, zW X (d + 1) 224 32 [(2, 261), z1, z2] [] (zty, rf, mem) (ql rf Q)
def L_m_fresh_43 (X : zX) (d : Nat) (rf : zF) (Q : Int → zF → Prop) (mem : zF) (x1 : Int) : Prop := ∀ z2 : zV, zW X (d + 1) 224 43 [(2, 261), (0, x1), z2] [] (zty, rf, mem) (ql rf Q)
def L_m_fresh_83 (X : zX) (d : Nat) (rf : zF) (Q : Int → zF → Prop) (mem : zF) : Prop := ∀ z1 : zV, ∀ z2 : zV, zW X (d + 1) 224 83 [(2, 261), z1, z2] [] (zty, rf, mem) (ql rf Q)
set_option maxRecDepth 4000 in
theorem s_m_fresh_32 {X : zX} {d : Nat} {rf mem : zF} {Q : Int → zF → Prop} (hR : zall rf zRK = true) (h : Cv X d 198 [(2, 261), (0, 1), (0, (mem 261 4))] rf mem (fun mem7 => L_m_fresh_43 X d rf Q mem7 0)) : L_m_fresh_32 X d rf Q mem := by
  intro z1 z2
  refine zW.go 3 35 [(2, 261), z1, z2] [(2, 261), (0, 1), (2, 261)] _ rfl ?_
  refine w_getI (q := 261) rfl (by decide) (pc' := 38) rfl ⟨by decide, rfl⟩ rfl (by decide) ?_
  refine w_callv (as := [(2, 261), (0, 1), (0, (mem 261 4))]) [] 41 rfl rfl rfl rfl (Nat.le_of_ble_eq_true rfl) (Nat.le_of_ble_eq_true rfl) (Nat.le_of_ble_eq_true rfl) (Or.inr rfl) (Cv.imp h (fun mem7 h => ?_))
  refine zW.go 2 43 [(2, 261), (0, 0), z2] [] _ rfl ?_
  exact h z2
set_option maxRecDepth 4000 in
theorem s_m_fresh_43 {X : zX} {d : Nat} {rf mem : zF} {Q : Int → zF → Prop} (hR : zall rf zRK = true) {x1 : Int} (h : (inI x1) ∧ ((2 < x1 → L_m_fresh_83 X d rf Q mem) ∧ (¬ 2 < x1 → (inI (mem 261 8)) ∧ ((¬ (mem 261 8) = 0 → L_m_fresh_83 X d rf Q mem) ∧ ((mem 261 8) = 0 → Ci X d 209 [(2, 261), (0, x1), (1, (mem 261 7))] rf mem (fun r10 mem11 => (inI r10) ∧ ((r10 = (-1) → L_m_fresh_43 X d rf Q mem11 (x1 + 1)) ∧ (¬ r10 = (-1) → Cv X d 198 [(2, 261), (0, 2), (0, (mem11 261 4))] rf mem11 (fun mem13 => L_m_fresh_43 X d rf Q mem13 (x1 + 1)))))))))) : L_m_fresh_43 X d rf Q mem x1 := by
  intro z2
  refine zW.go 2 45 [(2, 261), (0, x1), z2] [(0, 2), (0, x1)] _ rfl ?_
  refine w_ic_gt rfl (by decide) (pc' := 48) rfl ⟨h.1, by decide⟩ (fun c8 => ?_) (fun c8 => ?_)
  · have h := h.2.1 c8
    exact h (0, x1) z2
  · have h := h.2.2 c8
    refine zW.go 1 49 [(2, 261), (0, x1), z2] [(2, 261)] _ rfl ?_
    refine w_getI (q := 261) rfl (by decide) (pc' := 52) rfl ⟨by decide, rfl⟩ rfl (by decide) ?_
    refine w_if_ne rfl (by decide) (pc' := 55) rfl h.1 (fun c9 => ?_) (fun c9 => ?_)
    · have h := h.2.1 c9
      exact h (0, x1) z2
    · have h := h.2.2 c9
      refine zW.go 3 58 [(2, 261), (0, x1), z2] [(2, 261), (0, x1), (2, 261)] _ rfl ?_
      refine w_getJ (q := 261) rfl (by decide) (pc' := 61) rfl ⟨by decide, rfl⟩ rfl (by decide) ?_
      refine w_calli (as := [(2, 261), (0, x1), (1, (mem 261 7))]) [] 64 rfl rfl rfl rfl (Nat.le_of_ble_eq_true rfl) (Nat.le_of_ble_eq_true rfl) (Nat.le_of_ble_eq_true rfl) (Or.inr rfl) (Ci.imp h (fun r10 mem11 h => ?_))
      refine zW.go 1 65 [(2, 261), (0, x1), z2] [(0, (-1)), (0, r10)] _ rfl ?_
      refine w_ic_eq rfl (by decide) (pc' := 68) rfl ⟨h.1, by decide⟩ (fun c12 => ?_) (fun c12 => ?_)
      · have h := h.2.1 c12
        refine zW.go 2 43 [(2, 261), (0, (x1 + 1)), z2] [] _ rfl ?_
        exact h z2
      · have h := h.2.2 c12
        refine zW.go 3 71 [(2, 261), (0, x1), z2] [(2, 261), (0, 2), (2, 261)] _ rfl ?_
        refine w_getI (q := 261) rfl (by decide) (pc' := 74) rfl ⟨by decide, rfl⟩ rfl (by decide) ?_
        refine w_callv (as := [(2, 261), (0, 2), (0, (mem11 261 4))]) [] 77 rfl rfl rfl rfl (Nat.le_of_ble_eq_true rfl) (Nat.le_of_ble_eq_true rfl) (Nat.le_of_ble_eq_true rfl) (Or.inr rfl) (Cv.imp h (fun mem13 h => ?_))
        refine zW.go 2 43 [(2, 261), (0, (x1 + 1)), z2] [] _ rfl ?_
        exact h z2
set_option maxRecDepth 4000 in
theorem s_m_fresh_83 {X : zX} {d : Nat} {rf mem : zF} {Q : Int → zF → Prop} (hR : zall rf zRK = true) (h : (inI (mem 261 8)) ∧ ((¬ (mem 261 8) = 0 → Q (mem 261 7) mem) ∧ ((mem 261 8) = 0 → Cv X d 202 [(2, 261)] rf mem (fun mem15 => Q (mem 261 7) mem15)))) : L_m_fresh_83 X d rf Q mem := by
  intro z1 z2
  refine zW.go 1 84 [(2, 261), z1, z2] [(2, 261)] _ rfl ?_
  refine w_getJ (q := 261) rfl (by decide) (pc' := 87) rfl ⟨by decide, rfl⟩ rfl (by decide) ?_
  refine zW.go 2 89 [(2, 261), (1, (mem 261 7)), (9, 0)] [(2, 261)] _ rfl ?_
  refine w_getI (q := 261) rfl (by decide) (pc' := 92) rfl ⟨by decide, rfl⟩ rfl (by decide) ?_
  refine w_if_ne rfl (by decide) (pc' := 95) rfl h.1 (fun c14 => ?_) (fun c14 => ?_)
  · have h := h.2.1 c14
    refine zW.go 1 100 [(2, 261), (1, (mem 261 7)), (9, 0)] [(1, (mem 261 7))] _ rfl ?_
    exact w_retl rfl rfl h
  · have h := h.2.2 c14
    refine zW.go 1 96 [(2, 261), (1, (mem 261 7)), (9, 0)] [(2, 261)] _ rfl ?_
    refine w_callv (as := [(2, 261)]) [] 99 rfl rfl rfl rfl (Nat.le_of_ble_eq_true rfl) (Nat.le_of_ble_eq_true rfl) (Nat.le_of_ble_eq_true rfl) (Or.inr rfl) (Cv.imp h (fun mem15 h => ?_))
    refine zW.go 1 100 [(2, 261), (1, (mem 261 7)), (9, 0)] [(1, (mem 261 7))] _ rfl ?_
    exact w_retl rfl rfl h
set_option maxRecDepth 4000 in
theorem s_m_fresh {X : zX} {d : Nat} {rf mem : zF} {Q : Int → zF → Prop} (hR : zall rf zRK = true) (h : Cv X d 201 [(2, 261)] rf mem (fun mem1 => (inI (mem1 261 8)) ∧ (((mem1 261 8) ≤ 0 → (inI (mem1 261 3)) ∧ ((¬ (mem1 261 3) = 1 → L_m_fresh_32 X d rf Q mem1) ∧ ((mem1 261 3) = 1 → Ci X d 206 [(2, 261), (1, (mem1 261 7))] rf mem1 (fun r4 mem5 => (inI r4) ∧ ((r4 = 0 → L_m_fresh_43 X d rf Q mem5 0) ∧ (¬ r4 = 0 → L_m_fresh_32 X d rf Q mem5)))))) ∧ (¬ (mem1 261 8) ≤ 0 → Q 0 mem1)))) : Cl X (d + 1) 224 [(2, 261)] rf mem Q := by
  show zW X (d + 1) 224 0 [(2, 261), (9, 0), (9, 0)] [] (zty, rf, mem) (ql rf Q)
  refine zW.go 1 1 [(2, 261), (9, 0), (9, 0)] [(2, 261)] _ rfl ?_
  refine w_callv (as := [(2, 261)]) [] 4 rfl rfl rfl rfl (Nat.le_of_ble_eq_true rfl) (Nat.le_of_ble_eq_true rfl) (Nat.le_of_ble_eq_true rfl) (Or.inr rfl) (Cv.imp h (fun mem1 h => ?_))
  refine zW.go 1 5 [(2, 261), (9, 0), (9, 0)] [(2, 261)] _ rfl ?_
  refine w_getI (q := 261) rfl (by decide) (pc' := 8) rfl ⟨by decide, rfl⟩ rfl (by decide) ?_
  refine w_if_le rfl (by decide) (pc' := 11) rfl h.1 (fun c2 => ?_) (fun c2 => ?_)
  · have h := h.2.1 c2
    refine zW.go 1 14 [(2, 261), (9, 0), (9, 0)] [(2, 261)] _ rfl ?_
    refine w_getI (q := 261) rfl (by decide) (pc' := 17) rfl ⟨by decide, rfl⟩ rfl (by decide) ?_
    refine zW.go 1 18 [(2, 261), (9, 0), (9, 0)] [(0, 1), (0, (mem1 261 3))] _ rfl ?_
    refine w_ic_ne rfl (by decide) (pc' := 21) rfl ⟨h.1, by decide⟩ (fun c3 => ?_) (fun c3 => ?_)
    · have h := h.2.1 c3
      exact h (9, 0) (9, 0)
    · have h := h.2.2 c3
      refine zW.go 2 23 [(2, 261), (9, 0), (9, 0)] [(2, 261), (2, 261)] _ rfl ?_
      refine w_getJ (q := 261) rfl (by decide) (pc' := 26) rfl ⟨by decide, rfl⟩ rfl (by decide) ?_
      refine w_calli (as := [(2, 261), (1, (mem1 261 7))]) [] 29 rfl rfl rfl rfl (Nat.le_of_ble_eq_true rfl) (Nat.le_of_ble_eq_true rfl) (Nat.le_of_ble_eq_true rfl) (Or.inr rfl) (Ci.imp h (fun r4 mem5 h => ?_))
      refine w_if_eq rfl (by decide) (pc' := 32) rfl h.1 (fun c6 => ?_) (fun c6 => ?_)
      · have h := h.2.1 c6
        refine zW.go 2 43 [(2, 261), (0, 0), (9, 0)] [] _ rfl ?_
        exact h (9, 0)
      · have h := h.2.2 c6
        exact h (9, 0) (9, 0)
  · have h := h.2.2 c2
    refine zW.go 1 12 [(2, 261), (9, 0), (9, 0)] [(1, 0)] _ rfl ?_
    exact w_retl rfl rfl h
set_option maxRecDepth 4000 in
theorem s_m_cellTold {X : zX} {d : Nat} {rf mem : zF} {Q : Int → zF → Prop} (hR : zall rf zRK = true) (h : (0 ≤ (mem 261 38) ∧ (mem 261 38) < 2) ∧ (Ci X d 210 [(2, 261), (0, 0), (0, ((mem 263 ((mem 261 38)).toNat) - 1))] rf mem (fun r1 mem2 => (0 ≤ (mem2 261 38) ∧ (mem2 261 38) < 2) ∧ (Ci X d 210 [(2, 261), (0, 0), (0, ((mem2 264 ((mem2 261 38)).toNat) - 1))] rf mem2 (fun r3 mem4 => Q ((8 * r3) + r1) mem4))))) : Ci X (d + 1) 225 [(2, 261)] rf mem Q := by
  show zW X (d + 1) 225 0 [(2, 261), (9, 0)] [] (zty, rf, mem) (qi rf Q)
  refine zW.go 3 3 [(2, 261), (9, 0)] [(2, 261), (0, 0), (2, 261)] _ rfl ?_
  refine w_getL (q := 261) (v := 263) rfl (by decide) (pc' := 6) rfl ⟨by decide, rfl⟩ rfl rfl (zall_at hR (by decide)) ?_
  refine zW.go 1 7 [(2, 261), (9, 0)] [(2, 261), (2, 263), (0, 0), (2, 261)] _ rfl ?_
  refine w_getI (q := 261) rfl (by decide) (pc' := 10) rfl ⟨by decide, rfl⟩ rfl (by decide) ?_
  obtain ⟨g, h⟩ := h
  refine w_iald (q := 263) rfl (by decide) (pc' := 11) rfl ⟨by decide, rfl⟩ rfl g rfl ?_
  refine zW.go 2 13 [(2, 261), (9, 0)] [(0, ((mem 263 ((mem 261 38)).toNat) - 1)), (0, 0), (2, 261)] _ rfl ?_
  refine w_calli (as := [(2, 261), (0, 0), (0, ((mem 263 ((mem 261 38)).toNat) - 1))]) [] 16 rfl rfl rfl rfl (Nat.le_of_ble_eq_true rfl) (Nat.le_of_ble_eq_true rfl) (Nat.le_of_ble_eq_true rfl) (Or.inr rfl) (Ci.imp h (fun r1 mem2 h => ?_))
  refine zW.go 5 22 [(2, 261), (0, r1)] [(2, 261), (0, 0), (2, 261), (0, 8)] _ rfl ?_
  refine w_getL (q := 261) (v := 264) rfl (by decide) (pc' := 25) rfl ⟨by decide, rfl⟩ rfl rfl (zall_at hR (by decide)) ?_
  refine zW.go 1 26 [(2, 261), (0, r1)] [(2, 261), (2, 264), (0, 0), (2, 261), (0, 8)] _ rfl ?_
  refine w_getI (q := 261) rfl (by decide) (pc' := 29) rfl ⟨by decide, rfl⟩ rfl (by decide) ?_
  obtain ⟨g, h⟩ := h
  refine w_iald (q := 264) rfl (by decide) (pc' := 30) rfl ⟨by decide, rfl⟩ rfl g rfl ?_
  refine zW.go 2 32 [(2, 261), (0, r1)] [(0, ((mem2 264 ((mem2 261 38)).toNat) - 1)), (0, 0), (2, 261), (0, 8)] _ rfl ?_
  refine w_calli (as := [(2, 261), (0, 0), (0, ((mem2 264 ((mem2 261 38)).toNat) - 1))]) [(0, 8)] 35 rfl rfl rfl rfl (Nat.le_of_ble_eq_true rfl) (Nat.le_of_ble_eq_true rfl) (Nat.le_of_ble_eq_true rfl) (Or.inr rfl) (Ci.imp h (fun r3 mem4 h => ?_))
  refine zW.go 3 38 [(2, 261), (0, r1)] [(0, ((8 * r3) + r1))] _ rfl ?_
  exact w_reti rfl rfl h
def L_m_isTaken_2 (X : zX) (d : Nat) (rf : zF) (Q : Int → zF → Prop) (mem : zF) (x1 : Int) (x2 : Int) (x3 : Int) : Prop := zW X (d + 1) 226 2 [(2, 261), (0, x1), (0, x2), (0, x3)] [] (zty, rf, mem) (qi rf Q)
set_option maxRecDepth 4000 in
theorem s_m_isTaken_2 {X : zX} {d : Nat} {rf mem : zF} {Q : Int → zF → Prop} (hR : zall rf zRK = true) {x1 : Int} {x2 : Int} {x3 : Int} (h : Ci X d 207 [(2, 261), (0, (mem 261 38)), (0, x1)] rf mem (fun r1 mem2 => (inI x3 ∧ inI r1) ∧ ((r1 ≤ x3 → Q 0 mem2) ∧ (¬ r1 ≤ x3 → (inI x1) ∧ ((¬ x1 = 1 → (0 ≤ ((6 * (mem2 261 38)) + x3) ∧ ((6 * (mem2 261 38)) + x3) < 12) ∧ ((inI (mem2 275 (((6 * (mem2 261 38)) + x3)).toNat) ∧ inI x2) ∧ ((¬ (mem2 275 (((6 * (mem2 261 38)) + x3)).toNat) = x2 → L_m_isTaken_2 X d rf Q mem2 x1 x2 (x3 + 1)) ∧ ((mem2 275 (((6 * (mem2 261 38)) + x3)).toNat) = x2 → Q 1 mem2)))) ∧ (x1 = 1 → (0 ≤ ((6 * (mem2 261 38)) + x3) ∧ ((6 * (mem2 261 38)) + x3) < 12) ∧ ((inI (mem2 272 (((6 * (mem2 261 38)) + x3)).toNat) ∧ inI x2) ∧ ((¬ (mem2 272 (((6 * (mem2 261 38)) + x3)).toNat) = x2 → L_m_isTaken_2 X d rf Q mem2 x1 x2 (x3 + 1)) ∧ ((mem2 272 (((6 * (mem2 261 38)) + x3)).toNat) = x2 → Q 1 mem2))))))))) : L_m_isTaken_2 X d rf Q mem x1 x2 x3 := by
  refine zW.go 3 5 [(2, 261), (0, x1), (0, x2), (0, x3)] [(2, 261), (2, 261), (0, x3)] _ rfl ?_
  refine w_getI (q := 261) rfl (by decide) (pc' := 8) rfl ⟨by decide, rfl⟩ rfl (by decide) ?_
  refine zW.go 1 9 [(2, 261), (0, x1), (0, x2), (0, x3)] [(0, x1), (0, (mem 261 38)), (2, 261), (0, x3)] _ rfl ?_
  refine w_calli (as := [(2, 261), (0, (mem 261 38)), (0, x1)]) [(0, x3)] 12 rfl rfl rfl rfl (Nat.le_of_ble_eq_true rfl) (Nat.le_of_ble_eq_true rfl) (Nat.le_of_ble_eq_true rfl) (Or.inr rfl) (Ci.imp h (fun r1 mem2 h => ?_))
  refine w_ic_ge rfl (by decide) (pc' := 15) rfl h.1 (fun c3 => ?_) (fun c3 => ?_)
  · have h := h.2.1 c3
    refine zW.go 1 64 [(2, 261), (0, x1), (0, x2), (0, x3)] [(0, 0)] _ rfl ?_
    exact w_retz rfl rfl (by decide) h
  · have h := h.2.2 c3
    refine zW.go 2 17 [(2, 261), (0, x1), (0, x2), (0, x3)] [(0, 1), (0, x1)] _ rfl ?_
    refine w_ic_ne rfl (by decide) (pc' := 20) rfl ⟨h.1, by decide⟩ (fun c4 => ?_) (fun c4 => ?_)
    · have h := h.2.1 c4
      refine zW.go 1 38 [(2, 261), (0, x1), (0, x2), (0, x3)] [(2, 261)] _ rfl ?_
      refine w_getL (q := 261) (v := 275) rfl (by decide) (pc' := 41) rfl ⟨by decide, rfl⟩ rfl rfl (zall_at hR (by decide)) ?_
      refine zW.go 2 44 [(2, 261), (0, x1), (0, x2), (0, x3)] [(2, 261), (0, 6), (2, 275)] _ rfl ?_
      refine w_getI (q := 261) rfl (by decide) (pc' := 47) rfl ⟨by decide, rfl⟩ rfl (by decide) ?_
      refine zW.go 3 50 [(2, 261), (0, x1), (0, x2), (0, x3)] [(0, ((6 * (mem2 261 38)) + x3)), (2, 275)] _ rfl ?_
      obtain ⟨g, h⟩ := h
      refine w_iald (q := 275) rfl (by decide) (pc' := 51) rfl ⟨by decide, rfl⟩ rfl g rfl ?_
      refine zW.go 1 52 [(2, 261), (0, x1), (0, x2), (0, x3)] [(0, x2), (0, (mem2 275 (((6 * (mem2 261 38)) + x3)).toNat))] _ rfl ?_
      refine w_ic_ne rfl (by decide) (pc' := 55) rfl h.1 (fun c5 => ?_) (fun c5 => ?_)
      · have h := h.2.1 c5
        refine zW.go 2 2 [(2, 261), (0, x1), (0, x2), (0, (x3 + 1))] [] _ rfl ?_
        exact h
      · have h := h.2.2 c5
        refine zW.go 1 56 [(2, 261), (0, x1), (0, x2), (0, x3)] [(0, 1)] _ rfl ?_
        exact w_retz rfl rfl (by decide) h
    · have h := h.2.2 c4
      refine zW.go 1 21 [(2, 261), (0, x1), (0, x2), (0, x3)] [(2, 261)] _ rfl ?_
      refine w_getL (q := 261) (v := 272) rfl (by decide) (pc' := 24) rfl ⟨by decide, rfl⟩ rfl rfl (zall_at hR (by decide)) ?_
      refine zW.go 2 27 [(2, 261), (0, x1), (0, x2), (0, x3)] [(2, 261), (0, 6), (2, 272)] _ rfl ?_
      refine w_getI (q := 261) rfl (by decide) (pc' := 30) rfl ⟨by decide, rfl⟩ rfl (by decide) ?_
      refine zW.go 3 33 [(2, 261), (0, x1), (0, x2), (0, x3)] [(0, ((6 * (mem2 261 38)) + x3)), (2, 272)] _ rfl ?_
      obtain ⟨g, h⟩ := h
      refine w_iald (q := 272) rfl (by decide) (pc' := 34) rfl ⟨by decide, rfl⟩ rfl g rfl ?_
      refine zW.go 2 52 [(2, 261), (0, x1), (0, x2), (0, x3)] [(0, x2), (0, (mem2 272 (((6 * (mem2 261 38)) + x3)).toNat))] _ rfl ?_
      refine w_ic_ne rfl (by decide) (pc' := 55) rfl h.1 (fun c6 => ?_) (fun c6 => ?_)
      · have h := h.2.1 c6
        refine zW.go 2 2 [(2, 261), (0, x1), (0, x2), (0, (x3 + 1))] [] _ rfl ?_
        exact h
      · have h := h.2.2 c6
        refine zW.go 1 56 [(2, 261), (0, x1), (0, x2), (0, x3)] [(0, 1)] _ rfl ?_
        exact w_retz rfl rfl (by decide) h
set_option maxRecDepth 4000 in
theorem s_m_isTaken {X : zX} {d : Nat} {rf mem : zF} {Q : Int → zF → Prop} (hR : zall rf zRK = true) {x1 : Int} {x2 : Int} (h : L_m_isTaken_2 X d rf Q mem x1 x2 0) : Ci X (d + 1) 226 [(2, 261), (0, x1), (0, x2)] rf mem Q := by
  show zW X (d + 1) 226 0 [(2, 261), (0, x1), (0, x2), (9, 0)] [] (zty, rf, mem) (qi rf Q)
  refine zW.go 2 2 [(2, 261), (0, x1), (0, x2), (0, 0)] [] _ rfl ?_
  exact h
def L_m_freeCell_72 (X : zX) (d : Nat) (rf : zF) (Q : Int → zF → Prop) (mem : zF) (x2 : Int) (x4 : Int) : Prop := ∀ z1 : zV, ∀ z3 : zV, zW X (d + 1) 227 72 [(2, 261), z1, (0, x2), z3, (0, x4)] [] (zty, rf, mem) (qi rf Q)
set_option maxRecDepth 4000 in
theorem s_m_freeCell_72 {X : zX} {d : Nat} {rf mem : zF} {Q : Int → zF → Prop} (hR : zall rf zRK = true) {x2 : Int} {x4 : Int} (h : (inI (mem 261 8)) ∧ (((mem 261 8) ≤ 0 → Q ((8 * x4) + x2) mem) ∧ (¬ (mem 261 8) ≤ 0 → Q 0 mem))) : L_m_freeCell_72 X d rf Q mem x2 x4 := by
  intro z1 z3
  refine zW.go 1 73 [(2, 261), z1, (0, x2), z3, (0, x4)] [(2, 261)] _ rfl ?_
  refine w_getI (q := 261) rfl (by decide) (pc' := 76) rfl ⟨by decide, rfl⟩ rfl (by decide) ?_
  refine w_if_le rfl (by decide) (pc' := 79) rfl h.1 (fun c11 => ?_) (fun c11 => ?_)
  · have h := h.2.1 c11
    refine zW.go 5 90 [(2, 261), z1, (0, x2), z3, (0, x4)] [(0, ((8 * x4) + x2))] _ rfl ?_
    exact w_reti rfl rfl h
  · have h := h.2.2 c11
    refine zW.go 2 90 [(2, 261), z1, (0, x2), z3, (0, x4)] [(0, 0)] _ rfl ?_
    exact w_reti rfl rfl h
set_option maxRecDepth 4000 in
theorem s_m_freeCell {X : zX} {d : Nat} {rf mem : zF} {Q : Int → zF → Prop} (hR : zall rf zRK = true) {x1 : Int} (h : (0 ≤ (mem 261 38) ∧ (mem 261 38) < 2) ∧ (Ci X d 210 [(2, 261), (0, 0), (0, ((mem 263 ((mem 261 38)).toNat) - 1))] rf mem (fun r1 mem2 => Cv X d 201 [(2, 261)] rf mem2 (fun mem3 => (0 ≤ (mem3 261 38) ∧ (mem3 261 38) < 2) ∧ (Ci X d 210 [(2, 261), (0, 0), (0, ((mem3 264 ((mem3 261 38)).toNat) - 1))] rf mem3 (fun r4 mem5 => (inI (mem5 261 8)) ∧ ((¬ (mem5 261 8) = 0 → L_m_freeCell_72 X d rf Q mem5 r1 r4) ∧ ((mem5 261 8) = 0 → Ci X d 226 [(2, 261), (0, x1), (0, ((8 * r4) + r1))] rf mem5 (fun r7 mem8 => (inI r7) ∧ ((r7 = 0 → L_m_freeCell_72 X d rf Q mem8 r1 r4) ∧ (¬ r7 = 0 → Cv X d 198 [(2, 261), (0, 4), (0, (mem3 261 4))] rf mem8 (fun mem10 => L_m_freeCell_72 X d rf Q mem10 r1 r4)))))))))))) : Ci X (d + 1) 227 [(2, 261), (0, x1)] rf mem Q := by
  show zW X (d + 1) 227 0 [(2, 261), (0, x1), (9, 0), (9, 0), (9, 0)] [] (zty, rf, mem) (qi rf Q)
  refine zW.go 3 3 [(2, 261), (0, x1), (9, 0), (9, 0), (9, 0)] [(2, 261), (0, 0), (2, 261)] _ rfl ?_
  refine w_getL (q := 261) (v := 263) rfl (by decide) (pc' := 6) rfl ⟨by decide, rfl⟩ rfl rfl (zall_at hR (by decide)) ?_
  refine zW.go 1 7 [(2, 261), (0, x1), (9, 0), (9, 0), (9, 0)] [(2, 261), (2, 263), (0, 0), (2, 261)] _ rfl ?_
  refine w_getI (q := 261) rfl (by decide) (pc' := 10) rfl ⟨by decide, rfl⟩ rfl (by decide) ?_
  obtain ⟨g, h⟩ := h
  refine w_iald (q := 263) rfl (by decide) (pc' := 11) rfl ⟨by decide, rfl⟩ rfl g rfl ?_
  refine zW.go 2 13 [(2, 261), (0, x1), (9, 0), (9, 0), (9, 0)] [(0, ((mem 263 ((mem 261 38)).toNat) - 1)), (0, 0), (2, 261)] _ rfl ?_
  refine w_calli (as := [(2, 261), (0, 0), (0, ((mem 263 ((mem 261 38)).toNat) - 1))]) [] 16 rfl rfl rfl rfl (Nat.le_of_ble_eq_true rfl) (Nat.le_of_ble_eq_true rfl) (Nat.le_of_ble_eq_true rfl) (Or.inr rfl) (Ci.imp h (fun r1 mem2 h => ?_))
  refine zW.go 2 18 [(2, 261), (0, x1), (0, r1), (9, 0), (9, 0)] [(2, 261)] _ rfl ?_
  refine w_callv (as := [(2, 261)]) [] 21 rfl rfl rfl rfl (Nat.le_of_ble_eq_true rfl) (Nat.le_of_ble_eq_true rfl) (Nat.le_of_ble_eq_true rfl) (Or.inr rfl) (Cv.imp h (fun mem3 h => ?_))
  refine zW.go 1 22 [(2, 261), (0, x1), (0, r1), (9, 0), (9, 0)] [(2, 261)] _ rfl ?_
  refine w_getI (q := 261) rfl (by decide) (pc' := 25) rfl ⟨by decide, rfl⟩ rfl (by decide) ?_
  refine zW.go 4 29 [(2, 261), (0, x1), (0, r1), (0, (mem3 261 4)), (9, 0)] [(2, 261), (0, 0), (2, 261)] _ rfl ?_
  refine w_getL (q := 261) (v := 264) rfl (by decide) (pc' := 32) rfl ⟨by decide, rfl⟩ rfl rfl (zall_at hR (by decide)) ?_
  refine zW.go 1 33 [(2, 261), (0, x1), (0, r1), (0, (mem3 261 4)), (9, 0)] [(2, 261), (2, 264), (0, 0), (2, 261)] _ rfl ?_
  refine w_getI (q := 261) rfl (by decide) (pc' := 36) rfl ⟨by decide, rfl⟩ rfl (by decide) ?_
  obtain ⟨g, h⟩ := h
  refine w_iald (q := 264) rfl (by decide) (pc' := 37) rfl ⟨by decide, rfl⟩ rfl g rfl ?_
  refine zW.go 2 39 [(2, 261), (0, x1), (0, r1), (0, (mem3 261 4)), (9, 0)] [(0, ((mem3 264 ((mem3 261 38)).toNat) - 1)), (0, 0), (2, 261)] _ rfl ?_
  refine w_calli (as := [(2, 261), (0, 0), (0, ((mem3 264 ((mem3 261 38)).toNat) - 1))]) [] 42 rfl rfl rfl rfl (Nat.le_of_ble_eq_true rfl) (Nat.le_of_ble_eq_true rfl) (Nat.le_of_ble_eq_true rfl) (Or.inr rfl) (Ci.imp h (fun r4 mem5 h => ?_))
  refine zW.go 2 45 [(2, 261), (0, x1), (0, r1), (0, (mem3 261 4)), (0, r4)] [(2, 261)] _ rfl ?_
  refine w_getI (q := 261) rfl (by decide) (pc' := 48) rfl ⟨by decide, rfl⟩ rfl (by decide) ?_
  refine w_if_ne rfl (by decide) (pc' := 51) rfl h.1 (fun c6 => ?_) (fun c6 => ?_)
  · have h := h.2.1 c6
    exact h (0, x1) (0, (mem3 261 4))
  · have h := h.2.2 c6
    refine zW.go 7 60 [(2, 261), (0, x1), (0, r1), (0, (mem3 261 4)), (0, r4)] [(0, ((8 * r4) + r1)), (0, x1), (2, 261)] _ rfl ?_
    refine w_calli (as := [(2, 261), (0, x1), (0, ((8 * r4) + r1))]) [] 63 rfl rfl rfl rfl (Nat.le_of_ble_eq_true rfl) (Nat.le_of_ble_eq_true rfl) (Nat.le_of_ble_eq_true rfl) (Or.inr rfl) (Ci.imp h (fun r7 mem8 h => ?_))
    refine w_if_eq rfl (by decide) (pc' := 66) rfl h.1 (fun c9 => ?_) (fun c9 => ?_)
    · have h := h.2.1 c9
      exact h (0, x1) (0, (mem3 261 4))
    · have h := h.2.2 c9
      refine zW.go 3 69 [(2, 261), (0, x1), (0, r1), (0, (mem3 261 4)), (0, r4)] [(0, (mem3 261 4)), (0, 4), (2, 261)] _ rfl ?_
      refine w_callv (as := [(2, 261), (0, 4), (0, (mem3 261 4))]) [] 72 rfl rfl rfl rfl (Nat.le_of_ble_eq_true rfl) (Nat.le_of_ble_eq_true rfl) (Nat.le_of_ble_eq_true rfl) (Or.inr rfl) (Cv.imp h (fun mem10 h => ?_))
      exact h (0, x1) (0, (mem3 261 4))
set_option maxRecDepth 4000 in
theorem s_m_rooming {X : zX} {d : Nat} {rf mem : zF} {Q : zF → Prop} (hR : zall rf zRK = true) (h : Cv X d 222 [(2, 261), (1, 1919905645)] rf mem (fun mem1 => Ci X d 210 [(2, 261), (0, 3), (0, 7)] rf mem1 (fun r2 mem3 => (0 ≤ (mem1 261 38) ∧ (mem1 261 38) < 2) ∧ (Cv X d 222 [(2, 261), (1, 25209)] rf (zup mem3 263 ((mem1 261 38)).toNat r2) (fun mem4 => Ci X d 210 [(2, 261), (0, 3), (0, 7)] rf mem4 (fun r5 mem6 => (0 ≤ (mem4 261 38) ∧ (mem4 261 38) < 2) ∧ (Q (zup mem6 264 ((mem4 261 38)).toNat r5)))))))) : Cv X (d + 1) 228 [(2, 261)] rf mem Q := by
  show zW X (d + 1) 228 0 [(2, 261)] [] (zty, rf, mem) (qv rf Q)
  refine zW.go 2 4 [(2, 261)] [(1, 1919905645), (2, 261)] _ rfl ?_
  refine w_callv (as := [(2, 261), (1, 1919905645)]) [] 7 rfl rfl rfl rfl (Nat.le_of_ble_eq_true rfl) (Nat.le_of_ble_eq_true rfl) (Nat.le_of_ble_eq_true rfl) (Or.inr rfl) (Cv.imp h (fun mem1 h => ?_))
  refine zW.go 1 8 [(2, 261)] [(2, 261)] _ rfl ?_
  refine w_getL (q := 261) (v := 263) rfl (by decide) (pc' := 11) rfl ⟨by decide, rfl⟩ rfl rfl (zall_at hR (by decide)) ?_
  refine zW.go 1 12 [(2, 261)] [(2, 261), (2, 263)] _ rfl ?_
  refine w_getI (q := 261) rfl (by decide) (pc' := 15) rfl ⟨by decide, rfl⟩ rfl (by decide) ?_
  refine zW.go 3 19 [(2, 261)] [(0, 7), (0, 3), (2, 261), (0, (mem1 261 38)), (2, 263)] _ rfl ?_
  refine w_calli (as := [(2, 261), (0, 3), (0, 7)]) [(0, (mem1 261 38)), (2, 263)] 22 rfl rfl rfl rfl (Nat.le_of_ble_eq_true rfl) (Nat.le_of_ble_eq_true rfl) (Nat.le_of_ble_eq_true rfl) (Or.inr rfl) (Ci.imp h (fun r2 mem3 h => ?_))
  obtain ⟨g, h⟩ := h
  refine w_iast (q := 263) rfl (by decide) (pc' := 23) rfl ⟨by decide, rfl⟩ rfl g rfl ?_
  refine zW.go 2 27 [(2, 261)] [(1, 25209), (2, 261)] _ rfl ?_
  refine w_callv (as := [(2, 261), (1, 25209)]) [] 30 rfl rfl rfl rfl (Nat.le_of_ble_eq_true rfl) (Nat.le_of_ble_eq_true rfl) (Nat.le_of_ble_eq_true rfl) (Or.inr rfl) (Cv.imp h (fun mem4 h => ?_))
  refine zW.go 1 31 [(2, 261)] [(2, 261)] _ rfl ?_
  refine w_getL (q := 261) (v := 264) rfl (by decide) (pc' := 34) rfl ⟨by decide, rfl⟩ rfl rfl (zall_at hR (by decide)) ?_
  refine zW.go 1 35 [(2, 261)] [(2, 261), (2, 264)] _ rfl ?_
  refine w_getI (q := 261) rfl (by decide) (pc' := 38) rfl ⟨by decide, rfl⟩ rfl (by decide) ?_
  refine zW.go 3 42 [(2, 261)] [(0, 7), (0, 3), (2, 261), (0, (mem4 261 38)), (2, 264)] _ rfl ?_
  refine w_calli (as := [(2, 261), (0, 3), (0, 7)]) [(0, (mem4 261 38)), (2, 264)] 45 rfl rfl rfl rfl (Nat.le_of_ble_eq_true rfl) (Nat.le_of_ble_eq_true rfl) (Nat.le_of_ble_eq_true rfl) (Or.inr rfl) (Ci.imp h (fun r5 mem6 h => ?_))
  obtain ⟨g, h⟩ := h
  refine w_iast (q := 264) rfl (by decide) (pc' := 46) rfl ⟨by decide, rfl⟩ rfl g rfl ?_
  exact w_retv rfl rfl h
set_option maxRecDepth 4000 in
theorem s_m_lamping {X : zX} {d : Nat} {rf mem : zF} {Q : zF → Prop} (hR : zall rf zRK = true) (h : Ci X d 221 [(2, 261), (0, 0)] rf mem (fun r1 mem2 => (inI r1) ∧ ((¬ r1 = 0 → Ci X d 225 [(2, 261)] rf mem2 (fun r4 mem5 => (inI (mem5 261 8)) ∧ ((¬ (mem5 261 8) = 0 → Q mem5) ∧ ((mem5 261 8) = 0 → (0 ≤ (mem5 261 38) ∧ (mem5 261 38) < 2) ∧ (Q (zup mem5 265 ((mem5 261 38)).toNat r4)))))) ∧ (r1 = 0 → Q mem2)))) : Cv X (d + 1) 229 [(2, 261)] rf mem Q := by
  show zW X (d + 1) 229 0 [(2, 261), (9, 0)] [] (zty, rf, mem) (qv rf Q)
  refine zW.go 2 2 [(2, 261), (9, 0)] [(0, 0), (2, 261)] _ rfl ?_
  refine w_calli (as := [(2, 261), (0, 0)]) [] 5 rfl rfl rfl rfl (Nat.le_of_ble_eq_true rfl) (Nat.le_of_ble_eq_true rfl) (Nat.le_of_ble_eq_true rfl) (Or.inr rfl) (Ci.imp h (fun r1 mem2 h => ?_))
  refine w_if_ne rfl (by decide) (pc' := 8) rfl h.1 (fun c3 => ?_) (fun c3 => ?_)
  · have h := h.2.1 c3
    refine zW.go 1 10 [(2, 261), (9, 0)] [(2, 261)] _ rfl ?_
    refine w_calli (as := [(2, 261)]) [] 13 rfl rfl rfl rfl (Nat.le_of_ble_eq_true rfl) (Nat.le_of_ble_eq_true rfl) (Nat.le_of_ble_eq_true rfl) (Or.inr rfl) (Ci.imp h (fun r4 mem5 h => ?_))
    refine zW.go 2 15 [(2, 261), (0, r4)] [(2, 261)] _ rfl ?_
    refine w_getI (q := 261) rfl (by decide) (pc' := 18) rfl ⟨by decide, rfl⟩ rfl (by decide) ?_
    refine w_if_ne rfl (by decide) (pc' := 21) rfl h.1 (fun c6 => ?_) (fun c6 => ?_)
    · have h := h.2.1 c6
      exact w_retv rfl rfl h
    · have h := h.2.2 c6
      refine zW.go 1 22 [(2, 261), (0, r4)] [(2, 261)] _ rfl ?_
      refine w_getL (q := 261) (v := 265) rfl (by decide) (pc' := 25) rfl ⟨by decide, rfl⟩ rfl rfl (zall_at hR (by decide)) ?_
      refine zW.go 1 26 [(2, 261), (0, r4)] [(2, 261), (2, 265)] _ rfl ?_
      refine w_getI (q := 261) rfl (by decide) (pc' := 29) rfl ⟨by decide, rfl⟩ rfl (by decide) ?_
      refine zW.go 1 30 [(2, 261), (0, r4)] [(0, r4), (0, (mem5 261 38)), (2, 265)] _ rfl ?_
      obtain ⟨g, h⟩ := h
      refine w_iast (q := 265) rfl (by decide) (pc' := 31) rfl ⟨by decide, rfl⟩ rfl g rfl ?_
      exact w_retv rfl rfl h
  · have h := h.2.2 c3
    exact w_retv rfl rfl h
def L_m_dooring_20 (X : zX) (d : Nat) (rf : zF) (Q : zF → Prop) (mem : zF) (s1 : Int) : Prop := ∀ z1 : zV, zW X (d + 1) 230 20 [(2, 261), z1] [(0, s1), (2, 261)] (zty, rf, mem) (qv rf Q)
set_option maxRecDepth 4000 in
theorem s_m_dooring_20 {X : zX} {d : Nat} {rf mem : zF} {Q : zF → Prop} (hR : zall rf zRK = true) {s1 : Int} (h : Ci X d 221 [(2, 261), (0, s1)] rf mem (fun r2 mem3 => (inI r2) ∧ ((¬ r2 = 0 → (0 ≤ (mem3 261 38) ∧ (mem3 261 38) < 2) ∧ (Cl X d 224 [(2, 261)] rf mem3 (fun r5 mem6 => (0 ≤ ((6 * (mem3 261 38)) + (mem3 266 ((mem3 261 38)).toNat)) ∧ ((6 * (mem3 261 38)) + (mem3 266 ((mem3 261 38)).toNat)) < 12) ∧ (Cv X d 222 [(2, 261), (1, 24948)] rf (zup mem6 283 (((6 * (mem3 261 38)) + (mem3 266 ((mem3 261 38)).toNat))).toNat r5) (fun mem7 => Ci X d 225 [(2, 261)] rf mem7 (fun r8 mem9 => (0 ≤ ((6 * (mem3 261 38)) + (mem3 266 ((mem3 261 38)).toNat)) ∧ ((6 * (mem3 261 38)) + (mem3 266 ((mem3 261 38)).toNat)) < 12) ∧ (Cv X d 222 [(2, 261), (1, 422726039411)] rf (zup mem9 267 (((6 * (mem3 261 38)) + (mem3 266 ((mem3 261 38)).toNat))).toNat r8) (fun mem10 => Ci X d 210 [(2, 261), (0, 0), (0, 3)] rf mem10 (fun r11 mem12 => (0 ≤ ((6 * (mem3 261 38)) + (mem3 266 ((mem3 261 38)).toNat)) ∧ ((6 * (mem3 261 38)) + (mem3 266 ((mem3 261 38)).toNat)) < 12) ∧ (Cv X d 222 [(2, 261), (1, 491327153000)] rf (zup mem12 268 (((6 * (mem3 261 38)) + (mem3 266 ((mem3 261 38)).toNat))).toNat r11) (fun mem13 => Ci X d 210 [(2, 261), (0, 1), (0, 6)] rf mem13 (fun r14 mem15 => (0 ≤ ((6 * (mem3 261 38)) + (mem3 266 ((mem3 261 38)).toNat)) ∧ ((6 * (mem3 261 38)) + (mem3 266 ((mem3 261 38)).toNat)) < 12) ∧ ((inI (mem15 261 8)) ∧ ((¬ (mem15 261 8) = 0 → Q (zup mem15 269 (((6 * (mem3 261 38)) + (mem3 266 ((mem3 261 38)).toNat))).toNat r14)) ∧ ((mem15 261 8) = 0 → (0 ≤ (mem15 261 38) ∧ (mem15 261 38) < 2) ∧ ((0 ≤ (mem15 261 38) ∧ (mem15 261 38) < 2) ∧ (Q (zup (zup mem15 269 (((6 * (mem3 261 38)) + (mem3 266 ((mem3 261 38)).toNat))).toNat r14) 266 ((mem15 261 38)).toNat ((mem15 266 ((mem15 261 38)).toNat) + 1))))))))))))))))))) ∧ (r2 = 0 → Q mem3)))) : L_m_dooring_20 X d rf Q mem s1 := by
  intro z1
  refine w_calli (as := [(2, 261), (0, s1)]) [] 23 rfl rfl rfl rfl (Nat.le_of_ble_eq_true rfl) (Nat.le_of_ble_eq_true rfl) (Nat.le_of_ble_eq_true rfl) (Or.inr rfl) (Ci.imp h (fun r2 mem3 h => ?_))
  refine w_if_ne rfl (by decide) (pc' := 26) rfl h.1 (fun c4 => ?_) (fun c4 => ?_)
  · have h := h.2.1 c4
    refine zW.go 2 30 [(2, 261), z1] [(2, 261), (0, 6)] _ rfl ?_
    refine w_getI (q := 261) rfl (by decide) (pc' := 33) rfl ⟨by decide, rfl⟩ rfl (by decide) ?_
    refine zW.go 2 35 [(2, 261), z1] [(2, 261), (0, (6 * (mem3 261 38)))] _ rfl ?_
    refine w_getL (q := 261) (v := 266) rfl (by decide) (pc' := 38) rfl ⟨by decide, rfl⟩ rfl rfl (zall_at hR (by decide)) ?_
    refine zW.go 1 39 [(2, 261), z1] [(2, 261), (2, 266), (0, (6 * (mem3 261 38)))] _ rfl ?_
    refine w_getI (q := 261) rfl (by decide) (pc' := 42) rfl ⟨by decide, rfl⟩ rfl (by decide) ?_
    obtain ⟨g, h⟩ := h
    refine w_iald (q := 266) rfl (by decide) (pc' := 43) rfl ⟨by decide, rfl⟩ rfl g rfl ?_
    refine zW.go 3 46 [(2, 261), (0, ((6 * (mem3 261 38)) + (mem3 266 ((mem3 261 38)).toNat)))] [(2, 261)] _ rfl ?_
    refine w_getL (q := 261) (v := 283) rfl (by decide) (pc' := 49) rfl ⟨by decide, rfl⟩ rfl rfl (zall_at hR (by decide)) ?_
    refine zW.go 2 51 [(2, 261), (0, ((6 * (mem3 261 38)) + (mem3 266 ((mem3 261 38)).toNat)))] [(2, 261), (0, ((6 * (mem3 261 38)) + (mem3 266 ((mem3 261 38)).toNat))), (2, 283)] _ rfl ?_
    refine w_calll (as := [(2, 261)]) [(0, ((6 * (mem3 261 38)) + (mem3 266 ((mem3 261 38)).toNat))), (2, 283)] 54 rfl rfl rfl rfl (Nat.le_of_ble_eq_true rfl) (Nat.le_of_ble_eq_true rfl) (Nat.le_of_ble_eq_true rfl) (Or.inr rfl) (Cl.imp h (fun r5 mem6 h => ?_))
    obtain ⟨g, h⟩ := h
    refine w_last (q := 283) rfl (by decide) (pc' := 55) rfl ⟨by decide, rfl⟩ rfl g rfl ?_
    refine zW.go 2 59 [(2, 261), (0, ((6 * (mem3 261 38)) + (mem3 266 ((mem3 261 38)).toNat)))] [(1, 24948), (2, 261)] _ rfl ?_
    refine w_callv (as := [(2, 261), (1, 24948)]) [] 62 rfl rfl rfl rfl (Nat.le_of_ble_eq_true rfl) (Nat.le_of_ble_eq_true rfl) (Nat.le_of_ble_eq_true rfl) (Or.inr rfl) (Cv.imp h (fun mem7 h => ?_))
    refine zW.go 1 63 [(2, 261), (0, ((6 * (mem3 261 38)) + (mem3 266 ((mem3 261 38)).toNat)))] [(2, 261)] _ rfl ?_
    refine w_getL (q := 261) (v := 267) rfl (by decide) (pc' := 66) rfl ⟨by decide, rfl⟩ rfl rfl (zall_at hR (by decide)) ?_
    refine zW.go 2 68 [(2, 261), (0, ((6 * (mem3 261 38)) + (mem3 266 ((mem3 261 38)).toNat)))] [(2, 261), (0, ((6 * (mem3 261 38)) + (mem3 266 ((mem3 261 38)).toNat))), (2, 267)] _ rfl ?_
    refine w_calli (as := [(2, 261)]) [(0, ((6 * (mem3 261 38)) + (mem3 266 ((mem3 261 38)).toNat))), (2, 267)] 71 rfl rfl rfl rfl (Nat.le_of_ble_eq_true rfl) (Nat.le_of_ble_eq_true rfl) (Nat.le_of_ble_eq_true rfl) (Or.inr rfl) (Ci.imp h (fun r8 mem9 h => ?_))
    obtain ⟨g, h⟩ := h
    refine w_iast (q := 267) rfl (by decide) (pc' := 72) rfl ⟨by decide, rfl⟩ rfl g rfl ?_
    refine zW.go 2 76 [(2, 261), (0, ((6 * (mem3 261 38)) + (mem3 266 ((mem3 261 38)).toNat)))] [(1, 422726039411), (2, 261)] _ rfl ?_
    refine w_callv (as := [(2, 261), (1, 422726039411)]) [] 79 rfl rfl rfl rfl (Nat.le_of_ble_eq_true rfl) (Nat.le_of_ble_eq_true rfl) (Nat.le_of_ble_eq_true rfl) (Or.inr rfl) (Cv.imp h (fun mem10 h => ?_))
    refine zW.go 1 80 [(2, 261), (0, ((6 * (mem3 261 38)) + (mem3 266 ((mem3 261 38)).toNat)))] [(2, 261)] _ rfl ?_
    refine w_getL (q := 261) (v := 268) rfl (by decide) (pc' := 83) rfl ⟨by decide, rfl⟩ rfl rfl (zall_at hR (by decide)) ?_
    refine zW.go 4 87 [(2, 261), (0, ((6 * (mem3 261 38)) + (mem3 266 ((mem3 261 38)).toNat)))] [(0, 3), (0, 0), (2, 261), (0, ((6 * (mem3 261 38)) + (mem3 266 ((mem3 261 38)).toNat))), (2, 268)] _ rfl ?_
    refine w_calli (as := [(2, 261), (0, 0), (0, 3)]) [(0, ((6 * (mem3 261 38)) + (mem3 266 ((mem3 261 38)).toNat))), (2, 268)] 90 rfl rfl rfl rfl (Nat.le_of_ble_eq_true rfl) (Nat.le_of_ble_eq_true rfl) (Nat.le_of_ble_eq_true rfl) (Or.inr rfl) (Ci.imp h (fun r11 mem12 h => ?_))
    obtain ⟨g, h⟩ := h
    refine w_iast (q := 268) rfl (by decide) (pc' := 91) rfl ⟨by decide, rfl⟩ rfl g rfl ?_
    refine zW.go 2 95 [(2, 261), (0, ((6 * (mem3 261 38)) + (mem3 266 ((mem3 261 38)).toNat)))] [(1, 491327153000), (2, 261)] _ rfl ?_
    refine w_callv (as := [(2, 261), (1, 491327153000)]) [] 98 rfl rfl rfl rfl (Nat.le_of_ble_eq_true rfl) (Nat.le_of_ble_eq_true rfl) (Nat.le_of_ble_eq_true rfl) (Or.inr rfl) (Cv.imp h (fun mem13 h => ?_))
    refine zW.go 1 99 [(2, 261), (0, ((6 * (mem3 261 38)) + (mem3 266 ((mem3 261 38)).toNat)))] [(2, 261)] _ rfl ?_
    refine w_getL (q := 261) (v := 269) rfl (by decide) (pc' := 102) rfl ⟨by decide, rfl⟩ rfl rfl (zall_at hR (by decide)) ?_
    refine zW.go 4 107 [(2, 261), (0, ((6 * (mem3 261 38)) + (mem3 266 ((mem3 261 38)).toNat)))] [(0, 6), (0, 1), (2, 261), (0, ((6 * (mem3 261 38)) + (mem3 266 ((mem3 261 38)).toNat))), (2, 269)] _ rfl ?_
    refine w_calli (as := [(2, 261), (0, 1), (0, 6)]) [(0, ((6 * (mem3 261 38)) + (mem3 266 ((mem3 261 38)).toNat))), (2, 269)] 110 rfl rfl rfl rfl (Nat.le_of_ble_eq_true rfl) (Nat.le_of_ble_eq_true rfl) (Nat.le_of_ble_eq_true rfl) (Or.inr rfl) (Ci.imp h (fun r14 mem15 h => ?_))
    obtain ⟨g, h⟩ := h
    refine w_iast (q := 269) rfl (by decide) (pc' := 111) rfl ⟨by decide, rfl⟩ rfl g rfl ?_
    refine zW.go 1 112 [(2, 261), (0, ((6 * (mem3 261 38)) + (mem3 266 ((mem3 261 38)).toNat)))] [(2, 261)] _ rfl ?_
    refine w_getI (q := 261) rfl (by decide) (pc' := 115) rfl ⟨by decide, rfl⟩ rfl (by decide) ?_
    refine w_if_ne rfl (by decide) (pc' := 118) rfl h.1 (fun c16 => ?_) (fun c16 => ?_)
    · have h := h.2.1 c16
      exact w_retv rfl rfl h
    · have h := h.2.2 c16
      refine zW.go 1 119 [(2, 261), (0, ((6 * (mem3 261 38)) + (mem3 266 ((mem3 261 38)).toNat)))] [(2, 261)] _ rfl ?_
      refine w_getL (q := 261) (v := 266) rfl (by decide) (pc' := 122) rfl ⟨by decide, rfl⟩ rfl rfl (zall_at hR (by decide)) ?_
      refine zW.go 1 123 [(2, 261), (0, ((6 * (mem3 261 38)) + (mem3 266 ((mem3 261 38)).toNat)))] [(2, 261), (2, 266)] _ rfl ?_
      refine w_getI (q := 261) rfl (by decide) (pc' := 126) rfl ⟨by decide, rfl⟩ rfl (by decide) ?_
      refine zW.go 1 127 [(2, 261), (0, ((6 * (mem3 261 38)) + (mem3 266 ((mem3 261 38)).toNat)))] [(0, (mem15 261 38)), (2, 266), (0, (mem15 261 38)), (2, 266)] _ rfl ?_
      obtain ⟨g, h⟩ := h
      refine w_iald (q := 266) rfl (by decide) (pc' := 128) rfl ⟨by decide, rfl⟩ rfl g rfl ?_
      refine zW.go 2 130 [(2, 261), (0, ((6 * (mem3 261 38)) + (mem3 266 ((mem3 261 38)).toNat)))] [(0, ((mem15 266 ((mem15 261 38)).toNat) + 1)), (0, (mem15 261 38)), (2, 266)] _ rfl ?_
      obtain ⟨g, h⟩ := h
      refine w_iast (q := 266) rfl (by decide) (pc' := 131) rfl ⟨by decide, rfl⟩ rfl g rfl ?_
      exact w_retv rfl rfl h
  · have h := h.2.2 c4
    exact w_retv rfl rfl h
set_option maxRecDepth 4000 in
theorem s_m_dooring {X : zX} {d : Nat} {rf mem : zF} {Q : zF → Prop} (hR : zall rf zRK = true) (h : (0 ≤ (mem 261 38) ∧ (mem 261 38) < 2) ∧ ((inI (mem 266 ((mem 261 38)).toNat)) ∧ ((¬ (mem 266 ((mem 261 38)).toNat) = 6 → L_m_dooring_20 X d rf Q mem 0) ∧ ((mem 266 ((mem 261 38)).toNat) = 6 → L_m_dooring_20 X d rf Q mem 1)))) : Cv X (d + 1) 230 [(2, 261)] rf mem Q := by
  show zW X (d + 1) 230 0 [(2, 261), (9, 0)] [] (zty, rf, mem) (qv rf Q)
  refine zW.go 2 2 [(2, 261), (9, 0)] [(2, 261), (2, 261)] _ rfl ?_
  refine w_getL (q := 261) (v := 266) rfl (by decide) (pc' := 5) rfl ⟨by decide, rfl⟩ rfl rfl (zall_at hR (by decide)) ?_
  refine zW.go 1 6 [(2, 261), (9, 0)] [(2, 261), (2, 266), (2, 261)] _ rfl ?_
  refine w_getI (q := 261) rfl (by decide) (pc' := 9) rfl ⟨by decide, rfl⟩ rfl (by decide) ?_
  obtain ⟨g, h⟩ := h
  refine w_iald (q := 266) rfl (by decide) (pc' := 10) rfl ⟨by decide, rfl⟩ rfl g rfl ?_
  refine zW.go 1 12 [(2, 261), (9, 0)] [(0, 6), (0, (mem 266 ((mem 261 38)).toNat)), (2, 261)] _ rfl ?_
  refine w_ic_ne rfl (by decide) (pc' := 15) rfl ⟨h.1, by decide⟩ (fun c1 => ?_) (fun c1 => ?_)
  · have h := h.2.1 c1
    refine zW.go 1 20 [(2, 261), (9, 0)] [(0, 0), (2, 261)] _ rfl ?_
    exact h (9, 0)
  · have h := h.2.2 c1
    refine zW.go 2 20 [(2, 261), (9, 0)] [(0, 1), (2, 261)] _ rfl ?_
    exact h (9, 0)
def L_m_opening_49 (X : zX) (d : Nat) (rf : zF) (Q : zF → Prop) (mem : zF) : Prop := ∀ z1 : zV, zW X (d + 1) 231 49 [(2, 261), z1] [] (zty, rf, mem) (qv rf Q)
def L_m_opening_69 (X : zX) (d : Nat) (rf : zF) (Q : zF → Prop) (mem : zF) (s0 : Int) : Prop := ∀ z1 : zV, zW X (d + 1) 231 69 [(2, 261), z1] [(0, s0)] (zty, rf, mem) (qv rf Q)
def L_m_opening_107 (X : zX) (d : Nat) (rf : zF) (Q : zF → Prop) (mem : zF) (x1 : Int) : Prop := zW X (d + 1) 231 107 [(2, 261), (0, x1)] [] (zty, rf, mem) (qv rf Q)
set_option maxRecDepth 4000 in
theorem s_m_opening_49 {X : zX} {d : Nat} {rf mem : zF} {Q : zF → Prop} (hR : zall rf zRK = true) (h : (inI (mem 261 8)) ∧ (((mem 261 8) ≤ 0 → Ci X d 209 [(2, 261), (0, 0), (1, (mem 261 7))] rf mem (fun r13 mem14 => L_m_opening_69 X d rf Q mem14 r13)) ∧ (¬ (mem 261 8) ≤ 0 → L_m_opening_69 X d rf Q mem 0))) : L_m_opening_49 X d rf Q mem := by
  intro z1
  refine zW.go 1 50 [(2, 261), z1] [(2, 261)] _ rfl ?_
  refine w_getI (q := 261) rfl (by decide) (pc' := 53) rfl ⟨by decide, rfl⟩ rfl (by decide) ?_
  refine w_if_le rfl (by decide) (pc' := 56) rfl h.1 (fun c12 => ?_) (fun c12 => ?_)
  · have h := h.2.1 c12
    refine zW.go 3 63 [(2, 261), z1] [(2, 261), (0, 0), (2, 261)] _ rfl ?_
    refine w_getJ (q := 261) rfl (by decide) (pc' := 66) rfl ⟨by decide, rfl⟩ rfl (by decide) ?_
    refine w_calli (as := [(2, 261), (0, 0), (1, (mem 261 7))]) [] 69 rfl rfl rfl rfl (Nat.le_of_ble_eq_true rfl) (Nat.le_of_ble_eq_true rfl) (Nat.le_of_ble_eq_true rfl) (Or.inr rfl) (Ci.imp h (fun r13 mem14 h => ?_))
    exact h z1
  · have h := h.2.2 c12
    refine zW.go 2 69 [(2, 261), z1] [(0, 0)] _ rfl ?_
    exact h z1
set_option maxRecDepth 4000 in
theorem s_m_opening_69 {X : zX} {d : Nat} {rf mem : zF} {Q : zF → Prop} (hR : zall rf zRK = true) {s0 : Int} (h : (inI (mem 261 8)) ∧ ((¬ (mem 261 8) = 0 → L_m_opening_107 X d rf Q mem s0) ∧ ((mem 261 8) = 0 → (inI s0) ∧ ((s0 = (-1) → Cv X d 198 [(2, 261), (0, 3), (0, (mem 261 4))] rf mem (fun mem17 => L_m_opening_107 X d rf Q mem17 s0)) ∧ (¬ s0 = (-1) → (0 ≤ (mem 261 38) ∧ (mem 261 38) < 2) ∧ (Ci X d 223 [(0, (mem 270 ((mem 261 38)).toNat)), (0, s0)] rf mem (fun r18 mem19 => (inI r18) ∧ ((r18 = 0 → L_m_opening_107 X d rf Q mem19 s0) ∧ (¬ r18 = 0 → Cv X d 198 [(2, 261), (0, 3), (0, (mem19 261 4))] rf mem19 (fun mem21 => L_m_opening_107 X d rf Q mem21 s0)))))))))) : L_m_opening_69 X d rf Q mem s0 := by
  intro z1
  refine zW.go 2 71 [(2, 261), (0, s0)] [(2, 261)] _ rfl ?_
  refine w_getI (q := 261) rfl (by decide) (pc' := 74) rfl ⟨by decide, rfl⟩ rfl (by decide) ?_
  refine w_if_ne rfl (by decide) (pc' := 77) rfl h.1 (fun c15 => ?_) (fun c15 => ?_)
  · have h := h.2.1 c15
    exact h
  · have h := h.2.2 c15
    refine zW.go 2 79 [(2, 261), (0, s0)] [(0, (-1)), (0, s0)] _ rfl ?_
    refine w_ic_eq rfl (by decide) (pc' := 82) rfl ⟨h.1, by decide⟩ (fun c16 => ?_) (fun c16 => ?_)
    · have h := h.2.1 c16
      refine zW.go 3 101 [(2, 261), (0, s0)] [(2, 261), (0, 3), (2, 261)] _ rfl ?_
      refine w_getI (q := 261) rfl (by decide) (pc' := 104) rfl ⟨by decide, rfl⟩ rfl (by decide) ?_
      refine w_callv (as := [(2, 261), (0, 3), (0, (mem 261 4))]) [] 107 rfl rfl rfl rfl (Nat.le_of_ble_eq_true rfl) (Nat.le_of_ble_eq_true rfl) (Nat.le_of_ble_eq_true rfl) (Or.inr rfl) (Cv.imp h (fun mem17 h => ?_))
      exact h
    · have h := h.2.2 c16
      refine zW.go 1 83 [(2, 261), (0, s0)] [(2, 261)] _ rfl ?_
      refine w_getL (q := 261) (v := 270) rfl (by decide) (pc' := 86) rfl ⟨by decide, rfl⟩ rfl rfl (zall_at hR (by decide)) ?_
      refine zW.go 1 87 [(2, 261), (0, s0)] [(2, 261), (2, 270)] _ rfl ?_
      refine w_getI (q := 261) rfl (by decide) (pc' := 90) rfl ⟨by decide, rfl⟩ rfl (by decide) ?_
      obtain ⟨g, h⟩ := h
      refine w_iald (q := 270) rfl (by decide) (pc' := 91) rfl ⟨by decide, rfl⟩ rfl g rfl ?_
      refine zW.go 1 92 [(2, 261), (0, s0)] [(0, s0), (0, (mem 270 ((mem 261 38)).toNat))] _ rfl ?_
      refine w_calli (as := [(0, (mem 270 ((mem 261 38)).toNat)), (0, s0)]) [] 95 rfl rfl rfl rfl (Nat.le_of_ble_eq_true rfl) (Nat.le_of_ble_eq_true rfl) (Nat.le_of_ble_eq_true rfl) (Or.inl rfl) (Ci.imp h (fun r18 mem19 h => ?_))
      refine w_if_eq rfl (by decide) (pc' := 98) rfl h.1 (fun c20 => ?_) (fun c20 => ?_)
      · have h := h.2.1 c20
        exact h
      · have h := h.2.2 c20
        refine zW.go 3 101 [(2, 261), (0, s0)] [(2, 261), (0, 3), (2, 261)] _ rfl ?_
        refine w_getI (q := 261) rfl (by decide) (pc' := 104) rfl ⟨by decide, rfl⟩ rfl (by decide) ?_
        refine w_callv (as := [(2, 261), (0, 3), (0, (mem19 261 4))]) [] 107 rfl rfl rfl rfl (Nat.le_of_ble_eq_true rfl) (Nat.le_of_ble_eq_true rfl) (Nat.le_of_ble_eq_true rfl) (Or.inr rfl) (Cv.imp h (fun mem21 h => ?_))
        exact h
set_option maxRecDepth 4000 in
theorem s_m_opening_107 {X : zX} {d : Nat} {rf mem : zF} {Q : zF → Prop} (hR : zall rf zRK = true) {x1 : Int} (h : (inI (mem 261 8)) ∧ (((mem 261 8) ≤ 0 → Cv X d 202 [(2, 261)] rf mem (fun mem23 => (0 ≤ (mem23 261 38) ∧ (mem23 261 38) < 2) ∧ ((0 ≤ (mem23 261 38) ∧ (mem23 261 38) < 2) ∧ (Q (zup mem23 270 ((mem23 261 38)).toNat (zor (mem23 270 ((mem23 261 38)).toNat) (zshl 1 x1))))))) ∧ (¬ (mem 261 8) ≤ 0 → Q mem))) : L_m_opening_107 X d rf Q mem x1 := by
  refine zW.go 1 108 [(2, 261), (0, x1)] [(2, 261)] _ rfl ?_
  refine w_getI (q := 261) rfl (by decide) (pc' := 111) rfl ⟨by decide, rfl⟩ rfl (by decide) ?_
  refine w_if_le rfl (by decide) (pc' := 114) rfl h.1 (fun c22 => ?_) (fun c22 => ?_)
  · have h := h.2.1 c22
    refine zW.go 1 116 [(2, 261), (0, x1)] [(2, 261)] _ rfl ?_
    refine w_callv (as := [(2, 261)]) [] 119 rfl rfl rfl rfl (Nat.le_of_ble_eq_true rfl) (Nat.le_of_ble_eq_true rfl) (Nat.le_of_ble_eq_true rfl) (Or.inr rfl) (Cv.imp h (fun mem23 h => ?_))
    refine zW.go 1 120 [(2, 261), (0, x1)] [(2, 261)] _ rfl ?_
    refine w_getL (q := 261) (v := 270) rfl (by decide) (pc' := 123) rfl ⟨by decide, rfl⟩ rfl rfl (zall_at hR (by decide)) ?_
    refine zW.go 1 124 [(2, 261), (0, x1)] [(2, 261), (2, 270)] _ rfl ?_
    refine w_getI (q := 261) rfl (by decide) (pc' := 127) rfl ⟨by decide, rfl⟩ rfl (by decide) ?_
    refine zW.go 1 128 [(2, 261), (0, x1)] [(0, (mem23 261 38)), (2, 270), (0, (mem23 261 38)), (2, 270)] _ rfl ?_
    obtain ⟨g, h⟩ := h
    refine w_iald (q := 270) rfl (by decide) (pc' := 129) rfl ⟨by decide, rfl⟩ rfl g rfl ?_
    refine zW.go 4 133 [(2, 261), (0, x1)] [(0, (zor (mem23 270 ((mem23 261 38)).toNat) (zshl 1 x1))), (0, (mem23 261 38)), (2, 270)] _ rfl ?_
    obtain ⟨g, h⟩ := h
    refine w_iast (q := 270) rfl (by decide) (pc' := 134) rfl ⟨by decide, rfl⟩ rfl g rfl ?_
    exact w_retv rfl rfl h
  · have h := h.2.2 c22
    exact w_retv rfl rfl h
set_option maxRecDepth 4000 in
theorem s_m_opening {X : zX} {d : Nat} {rf mem : zF} {Q : zF → Prop} (hR : zall rf zRK = true) (h : Ci X d 221 [(2, 261), (0, 0)] rf mem (fun r1 mem2 => (inI r1) ∧ ((¬ r1 = 0 → Cv X d 201 [(2, 261)] rf mem2 (fun mem4 => (inI (mem4 261 8)) ∧ (((mem4 261 8) ≤ 0 → (inI (mem4 261 3)) ∧ ((¬ (mem4 261 3) = 1 → Cv X d 198 [(2, 261), (0, 1), (0, (mem4 261 4))] rf mem4 (fun mem7 => L_m_opening_49 X d rf Q mem7)) ∧ ((mem4 261 3) = 1 → Ci X d 206 [(2, 261), (1, (mem4 261 7))] rf mem4 (fun r8 mem9 => (inI r8) ∧ ((r8 = 0 → L_m_opening_49 X d rf Q mem9) ∧ (¬ r8 = 0 → Cv X d 198 [(2, 261), (0, 1), (0, (mem9 261 4))] rf mem9 (fun mem11 => L_m_opening_49 X d rf Q mem11))))))) ∧ (¬ (mem4 261 8) ≤ 0 → Q mem4)))) ∧ (r1 = 0 → Q mem2)))) : Cv X (d + 1) 231 [(2, 261)] rf mem Q := by
  show zW X (d + 1) 231 0 [(2, 261), (9, 0)] [] (zty, rf, mem) (qv rf Q)
  refine zW.go 2 2 [(2, 261), (9, 0)] [(0, 0), (2, 261)] _ rfl ?_
  refine w_calli (as := [(2, 261), (0, 0)]) [] 5 rfl rfl rfl rfl (Nat.le_of_ble_eq_true rfl) (Nat.le_of_ble_eq_true rfl) (Nat.le_of_ble_eq_true rfl) (Or.inr rfl) (Ci.imp h (fun r1 mem2 h => ?_))
  refine w_if_ne rfl (by decide) (pc' := 8) rfl h.1 (fun c3 => ?_) (fun c3 => ?_)
  · have h := h.2.1 c3
    refine zW.go 1 10 [(2, 261), (9, 0)] [(2, 261)] _ rfl ?_
    refine w_callv (as := [(2, 261)]) [] 13 rfl rfl rfl rfl (Nat.le_of_ble_eq_true rfl) (Nat.le_of_ble_eq_true rfl) (Nat.le_of_ble_eq_true rfl) (Or.inr rfl) (Cv.imp h (fun mem4 h => ?_))
    refine zW.go 1 14 [(2, 261), (9, 0)] [(2, 261)] _ rfl ?_
    refine w_getI (q := 261) rfl (by decide) (pc' := 17) rfl ⟨by decide, rfl⟩ rfl (by decide) ?_
    refine w_if_le rfl (by decide) (pc' := 20) rfl h.1 (fun c5 => ?_) (fun c5 => ?_)
    · have h := h.2.1 c5
      refine zW.go 1 22 [(2, 261), (9, 0)] [(2, 261)] _ rfl ?_
      refine w_getI (q := 261) rfl (by decide) (pc' := 25) rfl ⟨by decide, rfl⟩ rfl (by decide) ?_
      refine zW.go 1 26 [(2, 261), (9, 0)] [(0, 1), (0, (mem4 261 3))] _ rfl ?_
      refine w_ic_ne rfl (by decide) (pc' := 29) rfl ⟨h.1, by decide⟩ (fun c6 => ?_) (fun c6 => ?_)
      · have h := h.2.1 c6
        refine zW.go 3 43 [(2, 261), (9, 0)] [(2, 261), (0, 1), (2, 261)] _ rfl ?_
        refine w_getI (q := 261) rfl (by decide) (pc' := 46) rfl ⟨by decide, rfl⟩ rfl (by decide) ?_
        refine w_callv (as := [(2, 261), (0, 1), (0, (mem4 261 4))]) [] 49 rfl rfl rfl rfl (Nat.le_of_ble_eq_true rfl) (Nat.le_of_ble_eq_true rfl) (Nat.le_of_ble_eq_true rfl) (Or.inr rfl) (Cv.imp h (fun mem7 h => ?_))
        exact h (9, 0)
      · have h := h.2.2 c6
        refine zW.go 2 31 [(2, 261), (9, 0)] [(2, 261), (2, 261)] _ rfl ?_
        refine w_getJ (q := 261) rfl (by decide) (pc' := 34) rfl ⟨by decide, rfl⟩ rfl (by decide) ?_
        refine w_calli (as := [(2, 261), (1, (mem4 261 7))]) [] 37 rfl rfl rfl rfl (Nat.le_of_ble_eq_true rfl) (Nat.le_of_ble_eq_true rfl) (Nat.le_of_ble_eq_true rfl) (Or.inr rfl) (Ci.imp h (fun r8 mem9 h => ?_))
        refine w_if_eq rfl (by decide) (pc' := 40) rfl h.1 (fun c10 => ?_) (fun c10 => ?_)
        · have h := h.2.1 c10
          exact h (9, 0)
        · have h := h.2.2 c10
          refine zW.go 3 43 [(2, 261), (9, 0)] [(2, 261), (0, 1), (2, 261)] _ rfl ?_
          refine w_getI (q := 261) rfl (by decide) (pc' := 46) rfl ⟨by decide, rfl⟩ rfl (by decide) ?_
          refine w_callv (as := [(2, 261), (0, 1), (0, (mem9 261 4))]) [] 49 rfl rfl rfl rfl (Nat.le_of_ble_eq_true rfl) (Nat.le_of_ble_eq_true rfl) (Nat.le_of_ble_eq_true rfl) (Or.inr rfl) (Cv.imp h (fun mem11 h => ?_))
          exact h (9, 0)
    · have h := h.2.2 c5
      exact w_retv rfl rfl h
  · have h := h.2.2 c3
    exact w_retv rfl rfl h
def L_m_heiring_20 (X : zX) (d : Nat) (rf : zF) (Q : zF → Prop) (mem : zF) (s1 : Int) : Prop := ∀ z1 : zV, zW X (d + 1) 232 20 [(2, 261), z1] [(0, s1), (2, 261)] (zty, rf, mem) (qv rf Q)
set_option maxRecDepth 4000 in
theorem s_m_heiring_20 {X : zX} {d : Nat} {rf mem : zF} {Q : zF → Prop} (hR : zall rf zRK = true) {s1 : Int} (h : Ci X d 221 [(2, 261), (0, s1)] rf mem (fun r2 mem3 => (inI r2) ∧ ((¬ r2 = 0 → (0 ≤ (mem3 261 38) ∧ (mem3 261 38) < 2) ∧ (Cl X d 224 [(2, 261)] rf mem3 (fun r5 mem6 => (0 ≤ ((6 * (mem3 261 38)) + (mem3 271 ((mem3 261 38)).toNat)) ∧ ((6 * (mem3 261 38)) + (mem3 271 ((mem3 261 38)).toNat)) < 12) ∧ (Cv X d 222 [(2, 261), (1, 24948)] rf (zup mem6 284 (((6 * (mem3 261 38)) + (mem3 271 ((mem3 261 38)).toNat))).toNat r5) (fun mem7 => Ci X d 227 [(2, 261), (0, 1)] rf mem7 (fun r8 mem9 => (0 ≤ ((6 * (mem3 261 38)) + (mem3 271 ((mem3 261 38)).toNat)) ∧ ((6 * (mem3 261 38)) + (mem3 271 ((mem3 261 38)).toNat)) < 12) ∧ (Cv X d 222 [(2, 261), (1, 1952541804)] rf (zup mem9 272 (((6 * (mem3 261 38)) + (mem3 271 ((mem3 261 38)).toNat))).toNat r8) (fun mem10 => Ci X d 210 [(2, 261), (0, 0), (0, 9)] rf mem10 (fun r11 mem12 => (0 ≤ ((6 * (mem3 261 38)) + (mem3 271 ((mem3 261 38)).toNat)) ∧ ((6 * (mem3 261 38)) + (mem3 271 ((mem3 261 38)).toNat)) < 12) ∧ ((inI (mem12 261 8)) ∧ ((¬ (mem12 261 8) = 0 → Q (zup mem12 273 (((6 * (mem3 261 38)) + (mem3 271 ((mem3 261 38)).toNat))).toNat r11)) ∧ ((mem12 261 8) = 0 → (0 ≤ (mem12 261 38) ∧ (mem12 261 38) < 2) ∧ ((0 ≤ (mem12 261 38) ∧ (mem12 261 38) < 2) ∧ (Q (zup (zup mem12 273 (((6 * (mem3 261 38)) + (mem3 271 ((mem3 261 38)).toNat))).toNat r11) 271 ((mem12 261 38)).toNat ((mem12 271 ((mem12 261 38)).toNat) + 1)))))))))))))))) ∧ (r2 = 0 → Q mem3)))) : L_m_heiring_20 X d rf Q mem s1 := by
  intro z1
  refine w_calli (as := [(2, 261), (0, s1)]) [] 23 rfl rfl rfl rfl (Nat.le_of_ble_eq_true rfl) (Nat.le_of_ble_eq_true rfl) (Nat.le_of_ble_eq_true rfl) (Or.inr rfl) (Ci.imp h (fun r2 mem3 h => ?_))
  refine w_if_ne rfl (by decide) (pc' := 26) rfl h.1 (fun c4 => ?_) (fun c4 => ?_)
  · have h := h.2.1 c4
    refine zW.go 2 30 [(2, 261), z1] [(2, 261), (0, 6)] _ rfl ?_
    refine w_getI (q := 261) rfl (by decide) (pc' := 33) rfl ⟨by decide, rfl⟩ rfl (by decide) ?_
    refine zW.go 2 35 [(2, 261), z1] [(2, 261), (0, (6 * (mem3 261 38)))] _ rfl ?_
    refine w_getL (q := 261) (v := 271) rfl (by decide) (pc' := 38) rfl ⟨by decide, rfl⟩ rfl rfl (zall_at hR (by decide)) ?_
    refine zW.go 1 39 [(2, 261), z1] [(2, 261), (2, 271), (0, (6 * (mem3 261 38)))] _ rfl ?_
    refine w_getI (q := 261) rfl (by decide) (pc' := 42) rfl ⟨by decide, rfl⟩ rfl (by decide) ?_
    obtain ⟨g, h⟩ := h
    refine w_iald (q := 271) rfl (by decide) (pc' := 43) rfl ⟨by decide, rfl⟩ rfl g rfl ?_
    refine zW.go 3 46 [(2, 261), (0, ((6 * (mem3 261 38)) + (mem3 271 ((mem3 261 38)).toNat)))] [(2, 261)] _ rfl ?_
    refine w_getL (q := 261) (v := 284) rfl (by decide) (pc' := 49) rfl ⟨by decide, rfl⟩ rfl rfl (zall_at hR (by decide)) ?_
    refine zW.go 2 51 [(2, 261), (0, ((6 * (mem3 261 38)) + (mem3 271 ((mem3 261 38)).toNat)))] [(2, 261), (0, ((6 * (mem3 261 38)) + (mem3 271 ((mem3 261 38)).toNat))), (2, 284)] _ rfl ?_
    refine w_calll (as := [(2, 261)]) [(0, ((6 * (mem3 261 38)) + (mem3 271 ((mem3 261 38)).toNat))), (2, 284)] 54 rfl rfl rfl rfl (Nat.le_of_ble_eq_true rfl) (Nat.le_of_ble_eq_true rfl) (Nat.le_of_ble_eq_true rfl) (Or.inr rfl) (Cl.imp h (fun r5 mem6 h => ?_))
    obtain ⟨g, h⟩ := h
    refine w_last (q := 284) rfl (by decide) (pc' := 55) rfl ⟨by decide, rfl⟩ rfl g rfl ?_
    refine zW.go 2 59 [(2, 261), (0, ((6 * (mem3 261 38)) + (mem3 271 ((mem3 261 38)).toNat)))] [(1, 24948), (2, 261)] _ rfl ?_
    refine w_callv (as := [(2, 261), (1, 24948)]) [] 62 rfl rfl rfl rfl (Nat.le_of_ble_eq_true rfl) (Nat.le_of_ble_eq_true rfl) (Nat.le_of_ble_eq_true rfl) (Or.inr rfl) (Cv.imp h (fun mem7 h => ?_))
    refine zW.go 1 63 [(2, 261), (0, ((6 * (mem3 261 38)) + (mem3 271 ((mem3 261 38)).toNat)))] [(2, 261)] _ rfl ?_
    refine w_getL (q := 261) (v := 272) rfl (by decide) (pc' := 66) rfl ⟨by decide, rfl⟩ rfl rfl (zall_at hR (by decide)) ?_
    refine zW.go 3 69 [(2, 261), (0, ((6 * (mem3 261 38)) + (mem3 271 ((mem3 261 38)).toNat)))] [(0, 1), (2, 261), (0, ((6 * (mem3 261 38)) + (mem3 271 ((mem3 261 38)).toNat))), (2, 272)] _ rfl ?_
    refine w_calli (as := [(2, 261), (0, 1)]) [(0, ((6 * (mem3 261 38)) + (mem3 271 ((mem3 261 38)).toNat))), (2, 272)] 72 rfl rfl rfl rfl (Nat.le_of_ble_eq_true rfl) (Nat.le_of_ble_eq_true rfl) (Nat.le_of_ble_eq_true rfl) (Or.inr rfl) (Ci.imp h (fun r8 mem9 h => ?_))
    obtain ⟨g, h⟩ := h
    refine w_iast (q := 272) rfl (by decide) (pc' := 73) rfl ⟨by decide, rfl⟩ rfl g rfl ?_
    refine zW.go 2 77 [(2, 261), (0, ((6 * (mem3 261 38)) + (mem3 271 ((mem3 261 38)).toNat)))] [(1, 1952541804), (2, 261)] _ rfl ?_
    refine w_callv (as := [(2, 261), (1, 1952541804)]) [] 80 rfl rfl rfl rfl (Nat.le_of_ble_eq_true rfl) (Nat.le_of_ble_eq_true rfl) (Nat.le_of_ble_eq_true rfl) (Or.inr rfl) (Cv.imp h (fun mem10 h => ?_))
    refine zW.go 1 81 [(2, 261), (0, ((6 * (mem3 261 38)) + (mem3 271 ((mem3 261 38)).toNat)))] [(2, 261)] _ rfl ?_
    refine w_getL (q := 261) (v := 273) rfl (by decide) (pc' := 84) rfl ⟨by decide, rfl⟩ rfl rfl (zall_at hR (by decide)) ?_
    refine zW.go 4 89 [(2, 261), (0, ((6 * (mem3 261 38)) + (mem3 271 ((mem3 261 38)).toNat)))] [(0, 9), (0, 0), (2, 261), (0, ((6 * (mem3 261 38)) + (mem3 271 ((mem3 261 38)).toNat))), (2, 273)] _ rfl ?_
    refine w_calli (as := [(2, 261), (0, 0), (0, 9)]) [(0, ((6 * (mem3 261 38)) + (mem3 271 ((mem3 261 38)).toNat))), (2, 273)] 92 rfl rfl rfl rfl (Nat.le_of_ble_eq_true rfl) (Nat.le_of_ble_eq_true rfl) (Nat.le_of_ble_eq_true rfl) (Or.inr rfl) (Ci.imp h (fun r11 mem12 h => ?_))
    obtain ⟨g, h⟩ := h
    refine w_iast (q := 273) rfl (by decide) (pc' := 93) rfl ⟨by decide, rfl⟩ rfl g rfl ?_
    refine zW.go 1 94 [(2, 261), (0, ((6 * (mem3 261 38)) + (mem3 271 ((mem3 261 38)).toNat)))] [(2, 261)] _ rfl ?_
    refine w_getI (q := 261) rfl (by decide) (pc' := 97) rfl ⟨by decide, rfl⟩ rfl (by decide) ?_
    refine w_if_ne rfl (by decide) (pc' := 100) rfl h.1 (fun c13 => ?_) (fun c13 => ?_)
    · have h := h.2.1 c13
      exact w_retv rfl rfl h
    · have h := h.2.2 c13
      refine zW.go 1 101 [(2, 261), (0, ((6 * (mem3 261 38)) + (mem3 271 ((mem3 261 38)).toNat)))] [(2, 261)] _ rfl ?_
      refine w_getL (q := 261) (v := 271) rfl (by decide) (pc' := 104) rfl ⟨by decide, rfl⟩ rfl rfl (zall_at hR (by decide)) ?_
      refine zW.go 1 105 [(2, 261), (0, ((6 * (mem3 261 38)) + (mem3 271 ((mem3 261 38)).toNat)))] [(2, 261), (2, 271)] _ rfl ?_
      refine w_getI (q := 261) rfl (by decide) (pc' := 108) rfl ⟨by decide, rfl⟩ rfl (by decide) ?_
      refine zW.go 1 109 [(2, 261), (0, ((6 * (mem3 261 38)) + (mem3 271 ((mem3 261 38)).toNat)))] [(0, (mem12 261 38)), (2, 271), (0, (mem12 261 38)), (2, 271)] _ rfl ?_
      obtain ⟨g, h⟩ := h
      refine w_iald (q := 271) rfl (by decide) (pc' := 110) rfl ⟨by decide, rfl⟩ rfl g rfl ?_
      refine zW.go 2 112 [(2, 261), (0, ((6 * (mem3 261 38)) + (mem3 271 ((mem3 261 38)).toNat)))] [(0, ((mem12 271 ((mem12 261 38)).toNat) + 1)), (0, (mem12 261 38)), (2, 271)] _ rfl ?_
      obtain ⟨g, h⟩ := h
      refine w_iast (q := 271) rfl (by decide) (pc' := 113) rfl ⟨by decide, rfl⟩ rfl g rfl ?_
      exact w_retv rfl rfl h
  · have h := h.2.2 c4
    exact w_retv rfl rfl h
set_option maxRecDepth 4000 in
theorem s_m_heiring {X : zX} {d : Nat} {rf mem : zF} {Q : zF → Prop} (hR : zall rf zRK = true) (h : (0 ≤ (mem 261 38) ∧ (mem 261 38) < 2) ∧ ((inI (mem 271 ((mem 261 38)).toNat)) ∧ ((¬ (mem 271 ((mem 261 38)).toNat) = 6 → L_m_heiring_20 X d rf Q mem 0) ∧ ((mem 271 ((mem 261 38)).toNat) = 6 → L_m_heiring_20 X d rf Q mem 1)))) : Cv X (d + 1) 232 [(2, 261)] rf mem Q := by
  show zW X (d + 1) 232 0 [(2, 261), (9, 0)] [] (zty, rf, mem) (qv rf Q)
  refine zW.go 2 2 [(2, 261), (9, 0)] [(2, 261), (2, 261)] _ rfl ?_
  refine w_getL (q := 261) (v := 271) rfl (by decide) (pc' := 5) rfl ⟨by decide, rfl⟩ rfl rfl (zall_at hR (by decide)) ?_
  refine zW.go 1 6 [(2, 261), (9, 0)] [(2, 261), (2, 271), (2, 261)] _ rfl ?_
  refine w_getI (q := 261) rfl (by decide) (pc' := 9) rfl ⟨by decide, rfl⟩ rfl (by decide) ?_
  obtain ⟨g, h⟩ := h
  refine w_iald (q := 271) rfl (by decide) (pc' := 10) rfl ⟨by decide, rfl⟩ rfl g rfl ?_
  refine zW.go 1 12 [(2, 261), (9, 0)] [(0, 6), (0, (mem 271 ((mem 261 38)).toNat)), (2, 261)] _ rfl ?_
  refine w_ic_ne rfl (by decide) (pc' := 15) rfl ⟨h.1, by decide⟩ (fun c1 => ?_) (fun c1 => ?_)
  · have h := h.2.1 c1
    refine zW.go 1 20 [(2, 261), (9, 0)] [(0, 0), (2, 261)] _ rfl ?_
    exact h (9, 0)
  · have h := h.2.2 c1
    refine zW.go 2 20 [(2, 261), (9, 0)] [(0, 1), (2, 261)] _ rfl ?_
    exact h (9, 0)
def L_m_bubbling_20 (X : zX) (d : Nat) (rf : zF) (Q : zF → Prop) (mem : zF) (s1 : Int) : Prop := ∀ z1 : zV, zW X (d + 1) 233 20 [(2, 261), z1] [(0, s1), (2, 261)] (zty, rf, mem) (qv rf Q)
set_option maxRecDepth 4000 in
theorem s_m_bubbling_20 {X : zX} {d : Nat} {rf mem : zF} {Q : zF → Prop} (hR : zall rf zRK = true) {s1 : Int} (h : Ci X d 221 [(2, 261), (0, s1)] rf mem (fun r2 mem3 => (inI r2) ∧ ((¬ r2 = 0 → (0 ≤ (mem3 261 38) ∧ (mem3 261 38) < 2) ∧ (Cl X d 224 [(2, 261)] rf mem3 (fun r5 mem6 => (0 ≤ ((6 * (mem3 261 38)) + (mem3 274 ((mem3 261 38)).toNat)) ∧ ((6 * (mem3 261 38)) + (mem3 274 ((mem3 261 38)).toNat)) < 12) ∧ (Cv X d 222 [(2, 261), (1, 24948)] rf (zup mem6 285 (((6 * (mem3 261 38)) + (mem3 274 ((mem3 261 38)).toNat))).toNat r5) (fun mem7 => Ci X d 227 [(2, 261), (0, 2)] rf mem7 (fun r8 mem9 => (0 ≤ ((6 * (mem3 261 38)) + (mem3 274 ((mem3 261 38)).toNat)) ∧ ((6 * (mem3 261 38)) + (mem3 274 ((mem3 261 38)).toNat)) < 12) ∧ (Cv X d 222 [(2, 261), (1, 1718185069)] rf (zup mem9 275 (((6 * (mem3 261 38)) + (mem3 274 ((mem3 261 38)).toNat))).toNat r8) (fun mem10 => Ci X d 210 [(2, 261), (0, 1), (0, 99)] rf mem10 (fun r11 mem12 => (0 ≤ ((6 * (mem3 261 38)) + (mem3 274 ((mem3 261 38)).toNat)) ∧ ((6 * (mem3 261 38)) + (mem3 274 ((mem3 261 38)).toNat)) < 12) ∧ (Cv X d 222 [(2, 261), (1, 1936292453)] rf (zup mem12 276 (((6 * (mem3 261 38)) + (mem3 274 ((mem3 261 38)).toNat))).toNat r11) (fun mem13 => Ci X d 210 [(2, 261), (0, 1), (0, 9)] rf mem13 (fun r14 mem15 => (0 ≤ ((6 * (mem3 261 38)) + (mem3 274 ((mem3 261 38)).toNat)) ∧ ((6 * (mem3 261 38)) + (mem3 274 ((mem3 261 38)).toNat)) < 12) ∧ ((inI (mem15 261 8)) ∧ ((¬ (mem15 261 8) = 0 → Q (zup mem15 277 (((6 * (mem3 261 38)) + (mem3 274 ((mem3 261 38)).toNat))).toNat r14)) ∧ ((mem15 261 8) = 0 → (0 ≤ (mem15 261 38) ∧ (mem15 261 38) < 2) ∧ ((0 ≤ (mem15 261 38) ∧ (mem15 261 38) < 2) ∧ (Q (zup (zup mem15 277 (((6 * (mem3 261 38)) + (mem3 274 ((mem3 261 38)).toNat))).toNat r14) 274 ((mem15 261 38)).toNat ((mem15 274 ((mem15 261 38)).toNat) + 1))))))))))))))))))) ∧ (r2 = 0 → Q mem3)))) : L_m_bubbling_20 X d rf Q mem s1 := by
  intro z1
  refine w_calli (as := [(2, 261), (0, s1)]) [] 23 rfl rfl rfl rfl (Nat.le_of_ble_eq_true rfl) (Nat.le_of_ble_eq_true rfl) (Nat.le_of_ble_eq_true rfl) (Or.inr rfl) (Ci.imp h (fun r2 mem3 h => ?_))
  refine w_if_ne rfl (by decide) (pc' := 26) rfl h.1 (fun c4 => ?_) (fun c4 => ?_)
  · have h := h.2.1 c4
    refine zW.go 2 30 [(2, 261), z1] [(2, 261), (0, 6)] _ rfl ?_
    refine w_getI (q := 261) rfl (by decide) (pc' := 33) rfl ⟨by decide, rfl⟩ rfl (by decide) ?_
    refine zW.go 2 35 [(2, 261), z1] [(2, 261), (0, (6 * (mem3 261 38)))] _ rfl ?_
    refine w_getL (q := 261) (v := 274) rfl (by decide) (pc' := 38) rfl ⟨by decide, rfl⟩ rfl rfl (zall_at hR (by decide)) ?_
    refine zW.go 1 39 [(2, 261), z1] [(2, 261), (2, 274), (0, (6 * (mem3 261 38)))] _ rfl ?_
    refine w_getI (q := 261) rfl (by decide) (pc' := 42) rfl ⟨by decide, rfl⟩ rfl (by decide) ?_
    obtain ⟨g, h⟩ := h
    refine w_iald (q := 274) rfl (by decide) (pc' := 43) rfl ⟨by decide, rfl⟩ rfl g rfl ?_
    refine zW.go 3 46 [(2, 261), (0, ((6 * (mem3 261 38)) + (mem3 274 ((mem3 261 38)).toNat)))] [(2, 261)] _ rfl ?_
    refine w_getL (q := 261) (v := 285) rfl (by decide) (pc' := 49) rfl ⟨by decide, rfl⟩ rfl rfl (zall_at hR (by decide)) ?_
    refine zW.go 2 51 [(2, 261), (0, ((6 * (mem3 261 38)) + (mem3 274 ((mem3 261 38)).toNat)))] [(2, 261), (0, ((6 * (mem3 261 38)) + (mem3 274 ((mem3 261 38)).toNat))), (2, 285)] _ rfl ?_
    refine w_calll (as := [(2, 261)]) [(0, ((6 * (mem3 261 38)) + (mem3 274 ((mem3 261 38)).toNat))), (2, 285)] 54 rfl rfl rfl rfl (Nat.le_of_ble_eq_true rfl) (Nat.le_of_ble_eq_true rfl) (Nat.le_of_ble_eq_true rfl) (Or.inr rfl) (Cl.imp h (fun r5 mem6 h => ?_))
    obtain ⟨g, h⟩ := h
    refine w_last (q := 285) rfl (by decide) (pc' := 55) rfl ⟨by decide, rfl⟩ rfl g rfl ?_
    refine zW.go 2 59 [(2, 261), (0, ((6 * (mem3 261 38)) + (mem3 274 ((mem3 261 38)).toNat)))] [(1, 24948), (2, 261)] _ rfl ?_
    refine w_callv (as := [(2, 261), (1, 24948)]) [] 62 rfl rfl rfl rfl (Nat.le_of_ble_eq_true rfl) (Nat.le_of_ble_eq_true rfl) (Nat.le_of_ble_eq_true rfl) (Or.inr rfl) (Cv.imp h (fun mem7 h => ?_))
    refine zW.go 1 63 [(2, 261), (0, ((6 * (mem3 261 38)) + (mem3 274 ((mem3 261 38)).toNat)))] [(2, 261)] _ rfl ?_
    refine w_getL (q := 261) (v := 275) rfl (by decide) (pc' := 66) rfl ⟨by decide, rfl⟩ rfl rfl (zall_at hR (by decide)) ?_
    refine zW.go 3 69 [(2, 261), (0, ((6 * (mem3 261 38)) + (mem3 274 ((mem3 261 38)).toNat)))] [(0, 2), (2, 261), (0, ((6 * (mem3 261 38)) + (mem3 274 ((mem3 261 38)).toNat))), (2, 275)] _ rfl ?_
    refine w_calli (as := [(2, 261), (0, 2)]) [(0, ((6 * (mem3 261 38)) + (mem3 274 ((mem3 261 38)).toNat))), (2, 275)] 72 rfl rfl rfl rfl (Nat.le_of_ble_eq_true rfl) (Nat.le_of_ble_eq_true rfl) (Nat.le_of_ble_eq_true rfl) (Or.inr rfl) (Ci.imp h (fun r8 mem9 h => ?_))
    obtain ⟨g, h⟩ := h
    refine w_iast (q := 275) rfl (by decide) (pc' := 73) rfl ⟨by decide, rfl⟩ rfl g rfl ?_
    refine zW.go 2 77 [(2, 261), (0, ((6 * (mem3 261 38)) + (mem3 274 ((mem3 261 38)).toNat)))] [(1, 1718185069), (2, 261)] _ rfl ?_
    refine w_callv (as := [(2, 261), (1, 1718185069)]) [] 80 rfl rfl rfl rfl (Nat.le_of_ble_eq_true rfl) (Nat.le_of_ble_eq_true rfl) (Nat.le_of_ble_eq_true rfl) (Or.inr rfl) (Cv.imp h (fun mem10 h => ?_))
    refine zW.go 1 81 [(2, 261), (0, ((6 * (mem3 261 38)) + (mem3 274 ((mem3 261 38)).toNat)))] [(2, 261)] _ rfl ?_
    refine w_getL (q := 261) (v := 276) rfl (by decide) (pc' := 84) rfl ⟨by decide, rfl⟩ rfl rfl (zall_at hR (by decide)) ?_
    refine zW.go 4 89 [(2, 261), (0, ((6 * (mem3 261 38)) + (mem3 274 ((mem3 261 38)).toNat)))] [(0, 99), (0, 1), (2, 261), (0, ((6 * (mem3 261 38)) + (mem3 274 ((mem3 261 38)).toNat))), (2, 276)] _ rfl ?_
    refine w_calli (as := [(2, 261), (0, 1), (0, 99)]) [(0, ((6 * (mem3 261 38)) + (mem3 274 ((mem3 261 38)).toNat))), (2, 276)] 92 rfl rfl rfl rfl (Nat.le_of_ble_eq_true rfl) (Nat.le_of_ble_eq_true rfl) (Nat.le_of_ble_eq_true rfl) (Or.inr rfl) (Ci.imp h (fun r11 mem12 h => ?_))
    obtain ⟨g, h⟩ := h
    refine w_iast (q := 276) rfl (by decide) (pc' := 93) rfl ⟨by decide, rfl⟩ rfl g rfl ?_
    refine zW.go 2 97 [(2, 261), (0, ((6 * (mem3 261 38)) + (mem3 274 ((mem3 261 38)).toNat)))] [(1, 1936292453), (2, 261)] _ rfl ?_
    refine w_callv (as := [(2, 261), (1, 1936292453)]) [] 100 rfl rfl rfl rfl (Nat.le_of_ble_eq_true rfl) (Nat.le_of_ble_eq_true rfl) (Nat.le_of_ble_eq_true rfl) (Or.inr rfl) (Cv.imp h (fun mem13 h => ?_))
    refine zW.go 1 101 [(2, 261), (0, ((6 * (mem3 261 38)) + (mem3 274 ((mem3 261 38)).toNat)))] [(2, 261)] _ rfl ?_
    refine w_getL (q := 261) (v := 277) rfl (by decide) (pc' := 104) rfl ⟨by decide, rfl⟩ rfl rfl (zall_at hR (by decide)) ?_
    refine zW.go 4 109 [(2, 261), (0, ((6 * (mem3 261 38)) + (mem3 274 ((mem3 261 38)).toNat)))] [(0, 9), (0, 1), (2, 261), (0, ((6 * (mem3 261 38)) + (mem3 274 ((mem3 261 38)).toNat))), (2, 277)] _ rfl ?_
    refine w_calli (as := [(2, 261), (0, 1), (0, 9)]) [(0, ((6 * (mem3 261 38)) + (mem3 274 ((mem3 261 38)).toNat))), (2, 277)] 112 rfl rfl rfl rfl (Nat.le_of_ble_eq_true rfl) (Nat.le_of_ble_eq_true rfl) (Nat.le_of_ble_eq_true rfl) (Or.inr rfl) (Ci.imp h (fun r14 mem15 h => ?_))
    obtain ⟨g, h⟩ := h
    refine w_iast (q := 277) rfl (by decide) (pc' := 113) rfl ⟨by decide, rfl⟩ rfl g rfl ?_
    refine zW.go 1 114 [(2, 261), (0, ((6 * (mem3 261 38)) + (mem3 274 ((mem3 261 38)).toNat)))] [(2, 261)] _ rfl ?_
    refine w_getI (q := 261) rfl (by decide) (pc' := 117) rfl ⟨by decide, rfl⟩ rfl (by decide) ?_
    refine w_if_ne rfl (by decide) (pc' := 120) rfl h.1 (fun c16 => ?_) (fun c16 => ?_)
    · have h := h.2.1 c16
      exact w_retv rfl rfl h
    · have h := h.2.2 c16
      refine zW.go 1 121 [(2, 261), (0, ((6 * (mem3 261 38)) + (mem3 274 ((mem3 261 38)).toNat)))] [(2, 261)] _ rfl ?_
      refine w_getL (q := 261) (v := 274) rfl (by decide) (pc' := 124) rfl ⟨by decide, rfl⟩ rfl rfl (zall_at hR (by decide)) ?_
      refine zW.go 1 125 [(2, 261), (0, ((6 * (mem3 261 38)) + (mem3 274 ((mem3 261 38)).toNat)))] [(2, 261), (2, 274)] _ rfl ?_
      refine w_getI (q := 261) rfl (by decide) (pc' := 128) rfl ⟨by decide, rfl⟩ rfl (by decide) ?_
      refine zW.go 1 129 [(2, 261), (0, ((6 * (mem3 261 38)) + (mem3 274 ((mem3 261 38)).toNat)))] [(0, (mem15 261 38)), (2, 274), (0, (mem15 261 38)), (2, 274)] _ rfl ?_
      obtain ⟨g, h⟩ := h
      refine w_iald (q := 274) rfl (by decide) (pc' := 130) rfl ⟨by decide, rfl⟩ rfl g rfl ?_
      refine zW.go 2 132 [(2, 261), (0, ((6 * (mem3 261 38)) + (mem3 274 ((mem3 261 38)).toNat)))] [(0, ((mem15 274 ((mem15 261 38)).toNat) + 1)), (0, (mem15 261 38)), (2, 274)] _ rfl ?_
      obtain ⟨g, h⟩ := h
      refine w_iast (q := 274) rfl (by decide) (pc' := 133) rfl ⟨by decide, rfl⟩ rfl g rfl ?_
      exact w_retv rfl rfl h
  · have h := h.2.2 c4
    exact w_retv rfl rfl h
set_option maxRecDepth 4000 in
theorem s_m_bubbling {X : zX} {d : Nat} {rf mem : zF} {Q : zF → Prop} (hR : zall rf zRK = true) (h : (0 ≤ (mem 261 38) ∧ (mem 261 38) < 2) ∧ ((inI (mem 274 ((mem 261 38)).toNat)) ∧ ((¬ (mem 274 ((mem 261 38)).toNat) = 6 → L_m_bubbling_20 X d rf Q mem 0) ∧ ((mem 274 ((mem 261 38)).toNat) = 6 → L_m_bubbling_20 X d rf Q mem 1)))) : Cv X (d + 1) 233 [(2, 261)] rf mem Q := by
  show zW X (d + 1) 233 0 [(2, 261), (9, 0)] [] (zty, rf, mem) (qv rf Q)
  refine zW.go 2 2 [(2, 261), (9, 0)] [(2, 261), (2, 261)] _ rfl ?_
  refine w_getL (q := 261) (v := 274) rfl (by decide) (pc' := 5) rfl ⟨by decide, rfl⟩ rfl rfl (zall_at hR (by decide)) ?_
  refine zW.go 1 6 [(2, 261), (9, 0)] [(2, 261), (2, 274), (2, 261)] _ rfl ?_
  refine w_getI (q := 261) rfl (by decide) (pc' := 9) rfl ⟨by decide, rfl⟩ rfl (by decide) ?_
  obtain ⟨g, h⟩ := h
  refine w_iald (q := 274) rfl (by decide) (pc' := 10) rfl ⟨by decide, rfl⟩ rfl g rfl ?_
  refine zW.go 1 12 [(2, 261), (9, 0)] [(0, 6), (0, (mem 274 ((mem 261 38)).toNat)), (2, 261)] _ rfl ?_
  refine w_ic_ne rfl (by decide) (pc' := 15) rfl ⟨h.1, by decide⟩ (fun c1 => ?_) (fun c1 => ?_)
  · have h := h.2.1 c1
    refine zW.go 1 20 [(2, 261), (9, 0)] [(0, 0), (2, 261)] _ rfl ?_
    exact h (9, 0)
  · have h := h.2.2 c1
    refine zW.go 2 20 [(2, 261), (9, 0)] [(0, 1), (2, 261)] _ rfl ?_
    exact h (9, 0)
def L_m_reading_25 (X : zX) (d : Nat) (rf : zF) (Q : zF → Prop) (mem : zF) (x1 : Int) (x2 : Int) (s1 : Int) : Prop := zW X (d + 1) 234 25 [(2, 261), (0, x1), (0, x2)] [(0, s1), (2, 261)] (zty, rf, mem) (qv rf Q)
def L_m_reading_58 (X : zX) (d : Nat) (rf : zF) (Q : zF → Prop) (mem : zF) (x2 : Int) (s1 : Int) : Prop := ∀ z1 : zV, zW X (d + 1) 234 58 [(2, 261), z1, (0, x2)] [(0, s1), (2, 261)] (zty, rf, mem) (qv rf Q)
set_option maxRecDepth 4000 in
theorem s_m_reading_25 {X : zX} {d : Nat} {rf mem : zF} {Q : zF → Prop} (hR : zall rf zRK = true) {x1 : Int} {x2 : Int} {s1 : Int} (h : Ci X d 221 [(2, 261), (0, s1)] rf mem (fun r2 mem3 => (inI r2) ∧ ((¬ r2 = 0 → (0 ≤ x2 ∧ x2 < 6) ∧ ((inI x1) ∧ ((¬ x1 = 1 → L_m_reading_58 X d rf Q (zup (zup mem3 261 39 x1) 279 (x2).toNat (mem3 261 37)) x2 0) ∧ (x1 = 1 → L_m_reading_58 X d rf Q (zup (zup mem3 261 39 x1) 279 (x2).toNat (mem3 261 37)) x2 1)))) ∧ (r2 = 0 → Q mem3)))) : L_m_reading_25 X d rf Q mem x1 x2 s1 := by
  refine w_calli (as := [(2, 261), (0, s1)]) [] 28 rfl rfl rfl rfl (Nat.le_of_ble_eq_true rfl) (Nat.le_of_ble_eq_true rfl) (Nat.le_of_ble_eq_true rfl) (Or.inr rfl) (Ci.imp h (fun r2 mem3 h => ?_))
  refine w_if_ne rfl (by decide) (pc' := 31) rfl h.1 (fun c4 => ?_) (fun c4 => ?_)
  · have h := h.2.1 c4
    refine zW.go 2 34 [(2, 261), (0, x1), (0, x2)] [(0, x1), (2, 261)] _ rfl ?_
    refine w_putI (q := 261) rfl (by decide) (pc' := 37) rfl ⟨by decide, rfl⟩ rfl (by decide) ?_
    refine zW.go 1 38 [(2, 261), (0, x1), (0, x2)] [(2, 261)] _ rfl ?_
    refine w_getL (q := 261) (v := 279) rfl (by decide) (pc' := 41) rfl ⟨by decide, rfl⟩ rfl rfl (zall_at hR (by decide)) ?_
    refine zW.go 2 43 [(2, 261), (0, x1), (0, x2)] [(2, 261), (0, x2), (2, 279)] _ rfl ?_
    refine w_getI (q := 261) rfl (by decide) (pc' := 46) rfl ⟨by decide, rfl⟩ rfl (by decide) ?_
    obtain ⟨g, h⟩ := h
    refine w_iast (q := 279) rfl (by decide) (pc' := 47) rfl ⟨by decide, rfl⟩ rfl g rfl ?_
    refine zW.go 3 50 [(2, 261), (0, x1), (0, x2)] [(0, 1), (0, x1), (2, 261)] _ rfl ?_
    refine w_ic_ne rfl (by decide) (pc' := 53) rfl ⟨h.1, by decide⟩ (fun c5 => ?_) (fun c5 => ?_)
    · have h := h.2.1 c5
      refine zW.go 1 58 [(2, 261), (0, x1), (0, x2)] [(0, 0), (2, 261)] _ rfl ?_
      exact h (0, x1)
    · have h := h.2.2 c5
      refine zW.go 2 58 [(2, 261), (0, x1), (0, x2)] [(0, 1), (2, 261)] _ rfl ?_
      exact h (0, x1)
  · have h := h.2.2 c4
    exact w_retv rfl rfl h
set_option maxRecDepth 4000 in
theorem s_m_reading_58 {X : zX} {d : Nat} {rf mem : zF} {Q : zF → Prop} (hR : zall rf zRK = true) {x2 : Int} {s1 : Int} (h : Cv X d 220 [(2, 261), (0, s1)] rf mem (fun mem6 => (0 ≤ x2 ∧ x2 < 6) ∧ (Q (zup mem6 280 (x2).toNat (mem6 261 37))))) : L_m_reading_58 X d rf Q mem x2 s1 := by
  intro z1
  refine w_callv (as := [(2, 261), (0, s1)]) [] 61 rfl rfl rfl rfl (Nat.le_of_ble_eq_true rfl) (Nat.le_of_ble_eq_true rfl) (Nat.le_of_ble_eq_true rfl) (Or.inr rfl) (Cv.imp h (fun mem6 h => ?_))
  refine zW.go 1 62 [(2, 261), z1, (0, x2)] [(2, 261)] _ rfl ?_
  refine w_getL (q := 261) (v := 280) rfl (by decide) (pc' := 65) rfl ⟨by decide, rfl⟩ rfl rfl (zall_at hR (by decide)) ?_
  refine zW.go 2 67 [(2, 261), z1, (0, x2)] [(2, 261), (0, x2), (2, 280)] _ rfl ?_
  refine w_getI (q := 261) rfl (by decide) (pc' := 70) rfl ⟨by decide, rfl⟩ rfl (by decide) ?_
  obtain ⟨g, h⟩ := h
  refine w_iast (q := 280) rfl (by decide) (pc' := 71) rfl ⟨by decide, rfl⟩ rfl g rfl ?_
  exact w_retv rfl rfl h
set_option maxRecDepth 4000 in
theorem s_m_reading {X : zX} {d : Nat} {rf mem : zF} {Q : zF → Prop} (hR : zall rf zRK = true) {x1 : Int} (h : (0 ≤ ((3 * (mem 261 38)) + x1) ∧ ((3 * (mem 261 38)) + x1) < 6) ∧ ((inI (mem 279 (((3 * (mem 261 38)) + x1)).toNat)) ∧ (((mem 279 (((3 * (mem 261 38)) + x1)).toNat) = (-1) → L_m_reading_25 X d rf Q mem x1 ((3 * (mem 261 38)) + x1) 0) ∧ (¬ (mem 279 (((3 * (mem 261 38)) + x1)).toNat) = (-1) → L_m_reading_25 X d rf Q mem x1 ((3 * (mem 261 38)) + x1) 1)))) : Cv X (d + 1) 234 [(2, 261), (0, x1)] rf mem Q := by
  show zW X (d + 1) 234 0 [(2, 261), (0, x1), (9, 0)] [] (zty, rf, mem) (qv rf Q)
  refine zW.go 2 2 [(2, 261), (0, x1), (9, 0)] [(2, 261), (0, 3)] _ rfl ?_
  refine w_getI (q := 261) rfl (by decide) (pc' := 5) rfl ⟨by decide, rfl⟩ rfl (by decide) ?_
  refine zW.go 6 11 [(2, 261), (0, x1), (0, ((3 * (mem 261 38)) + x1))] [(2, 261), (2, 261)] _ rfl ?_
  refine w_getL (q := 261) (v := 279) rfl (by decide) (pc' := 14) rfl ⟨by decide, rfl⟩ rfl rfl (zall_at hR (by decide)) ?_
  refine zW.go 1 15 [(2, 261), (0, x1), (0, ((3 * (mem 261 38)) + x1))] [(0, ((3 * (mem 261 38)) + x1)), (2, 279), (2, 261)] _ rfl ?_
  obtain ⟨g, h⟩ := h
  refine w_iald (q := 279) rfl (by decide) (pc' := 16) rfl ⟨by decide, rfl⟩ rfl g rfl ?_
  refine zW.go 1 17 [(2, 261), (0, x1), (0, ((3 * (mem 261 38)) + x1))] [(0, (-1)), (0, (mem 279 (((3 * (mem 261 38)) + x1)).toNat)), (2, 261)] _ rfl ?_
  refine w_ic_eq rfl (by decide) (pc' := 20) rfl ⟨h.1, by decide⟩ (fun c1 => ?_) (fun c1 => ?_)
  · have h := h.2.1 c1
    refine zW.go 1 25 [(2, 261), (0, x1), (0, ((3 * (mem 261 38)) + x1))] [(0, 0), (2, 261)] _ rfl ?_
    exact h
  · have h := h.2.2 c1
    refine zW.go 2 25 [(2, 261), (0, x1), (0, ((3 * (mem 261 38)) + x1))] [(0, 1), (2, 261)] _ rfl ?_
    exact h
set_option maxRecDepth 4000 in
theorem s_m_breathing {X : zX} {d : Nat} {rf mem : zF} {Q : zF → Prop} (hR : zall rf zRK = true) (h : Ci X d 221 [(2, 261), (0, 0)] rf mem (fun r1 mem2 => (inI r1) ∧ ((¬ r1 = 0 → Ci X d 210 [(2, 261), (0, 0), (0, 100)] rf mem2 (fun r4 mem5 => (inI (mem5 261 8)) ∧ ((¬ (mem5 261 8) = 0 → Q mem5) ∧ ((mem5 261 8) = 0 → (0 ≤ (mem5 261 38) ∧ (mem5 261 38) < 2) ∧ (Q (zup mem5 278 ((mem5 261 38)).toNat r4)))))) ∧ (r1 = 0 → Q mem2)))) : Cv X (d + 1) 235 [(2, 261)] rf mem Q := by
  show zW X (d + 1) 235 0 [(2, 261), (9, 0)] [] (zty, rf, mem) (qv rf Q)
  refine zW.go 2 2 [(2, 261), (9, 0)] [(0, 0), (2, 261)] _ rfl ?_
  refine w_calli (as := [(2, 261), (0, 0)]) [] 5 rfl rfl rfl rfl (Nat.le_of_ble_eq_true rfl) (Nat.le_of_ble_eq_true rfl) (Nat.le_of_ble_eq_true rfl) (Or.inr rfl) (Ci.imp h (fun r1 mem2 h => ?_))
  refine w_if_ne rfl (by decide) (pc' := 8) rfl h.1 (fun c3 => ?_) (fun c3 => ?_)
  · have h := h.2.1 c3
    refine zW.go 3 13 [(2, 261), (9, 0)] [(0, 100), (0, 0), (2, 261)] _ rfl ?_
    refine w_calli (as := [(2, 261), (0, 0), (0, 100)]) [] 16 rfl rfl rfl rfl (Nat.le_of_ble_eq_true rfl) (Nat.le_of_ble_eq_true rfl) (Nat.le_of_ble_eq_true rfl) (Or.inr rfl) (Ci.imp h (fun r4 mem5 h => ?_))
    refine zW.go 2 18 [(2, 261), (0, r4)] [(2, 261)] _ rfl ?_
    refine w_getI (q := 261) rfl (by decide) (pc' := 21) rfl ⟨by decide, rfl⟩ rfl (by decide) ?_
    refine w_if_ne rfl (by decide) (pc' := 24) rfl h.1 (fun c6 => ?_) (fun c6 => ?_)
    · have h := h.2.1 c6
      exact w_retv rfl rfl h
    · have h := h.2.2 c6
      refine zW.go 1 25 [(2, 261), (0, r4)] [(2, 261)] _ rfl ?_
      refine w_getL (q := 261) (v := 278) rfl (by decide) (pc' := 28) rfl ⟨by decide, rfl⟩ rfl rfl (zall_at hR (by decide)) ?_
      refine zW.go 1 29 [(2, 261), (0, r4)] [(2, 261), (2, 278)] _ rfl ?_
      refine w_getI (q := 261) rfl (by decide) (pc' := 32) rfl ⟨by decide, rfl⟩ rfl (by decide) ?_
      refine zW.go 1 33 [(2, 261), (0, r4)] [(0, r4), (0, (mem5 261 38)), (2, 278)] _ rfl ?_
      obtain ⟨g, h⟩ := h
      refine w_iast (q := 278) rfl (by decide) (pc' := 34) rfl ⟨by decide, rfl⟩ rfl g rfl ?_
      exact w_retv rfl rfl h
  · have h := h.2.2 c3
    exact w_retv rfl rfl h
set_option maxRecDepth 4000 in
theorem s_m_statement {X : zX} {d : Nat} {rf mem : zF} {Q : zF → Prop} (hR : zall rf zRK = true) (h : Cv X d 201 [(2, 261)] rf mem (fun mem1 => (inI (mem1 261 8)) ∧ (((mem1 261 8) ≤ 0 → Ci X d 204 [(2, 261), (1, 1818324336)] rf mem1 (fun r3 mem4 => (inI r3) ∧ ((r3 = 0 → Ci X d 204 [(2, 261), (1, 1685024626)] rf mem4 (fun r6 mem7 => (inI r6) ∧ ((r6 = 0 → Ci X d 204 [(2, 261), (1, 1869636974)] rf mem7 (fun r9 mem10 => (inI r9) ∧ ((r9 = 0 → Ci X d 204 [(2, 261), (1, 1751476594)] rf mem10 (fun r12 mem13 => (inI r12) ∧ ((r12 = 0 → Ci X d 204 [(2, 261), (1, 108256301313125)] rf mem13 (fun r15 mem16 => (inI r15) ∧ ((r15 = 0 → Ci X d 204 [(2, 261), (1, 499967946355)] rf mem16 (fun r18 mem19 => (inI r18) ∧ ((r18 = 0 → Ci X d 204 [(2, 261), (1, 108256570864755)] rf mem19 (fun r21 mem22 => (inI r21) ∧ ((r21 = 0 → Ci X d 204 [(2, 261), (1, 6845797)] rf mem22 (fun r24 mem25 => (inI r24) ∧ ((r24 = 0 → Ci X d 204 [(2, 261), (1, 108243466679400)] rf mem25 (fun r27 mem28 => (inI r27) ∧ ((r27 = 0 → Cv X d 198 [(2, 261), (0, 1), (0, (mem28 261 4))] rf mem28 (fun mem30 => Q mem30)) ∧ (¬ r27 = 0 → Cv X d 235 [(2, 261)] rf mem28 (fun mem31 => Q mem31))))) ∧ (¬ r24 = 0 → Cv X d 234 [(2, 261), (0, 2)] rf mem25 (fun mem32 => Q mem32))))) ∧ (¬ r21 = 0 → Cv X d 234 [(2, 261), (0, 1)] rf mem22 (fun mem33 => Q mem33))))) ∧ (¬ r18 = 0 → Cv X d 234 [(2, 261), (0, 0)] rf mem19 (fun mem34 => Q mem34))))) ∧ (¬ r15 = 0 → Cv X d 233 [(2, 261)] rf mem16 (fun mem35 => Q mem35))))) ∧ (¬ r12 = 0 → Cv X d 232 [(2, 261)] rf mem13 (fun mem36 => Q mem36))))) ∧ (¬ r9 = 0 → Cv X d 231 [(2, 261)] rf mem10 (fun mem37 => Q mem37))))) ∧ (¬ r6 = 0 → Cv X d 230 [(2, 261)] rf mem7 (fun mem38 => Q mem38))))) ∧ (¬ r3 = 0 → Cv X d 229 [(2, 261)] rf mem4 (fun mem39 => Q mem39))))) ∧ (¬ (mem1 261 8) ≤ 0 → Q mem1)))) : Cv X (d + 1) 236 [(2, 261)] rf mem Q := by
  show zW X (d + 1) 236 0 [(2, 261)] [] (zty, rf, mem) (qv rf Q)
  refine zW.go 1 1 [(2, 261)] [(2, 261)] _ rfl ?_
  refine w_callv (as := [(2, 261)]) [] 4 rfl rfl rfl rfl (Nat.le_of_ble_eq_true rfl) (Nat.le_of_ble_eq_true rfl) (Nat.le_of_ble_eq_true rfl) (Or.inr rfl) (Cv.imp h (fun mem1 h => ?_))
  refine zW.go 1 5 [(2, 261)] [(2, 261)] _ rfl ?_
  refine w_getI (q := 261) rfl (by decide) (pc' := 8) rfl ⟨by decide, rfl⟩ rfl (by decide) ?_
  refine w_if_le rfl (by decide) (pc' := 11) rfl h.1 (fun c2 => ?_) (fun c2 => ?_)
  · have h := h.2.1 c2
    refine zW.go 2 16 [(2, 261)] [(1, 1818324336), (2, 261)] _ rfl ?_
    refine w_calli (as := [(2, 261), (1, 1818324336)]) [] 19 rfl rfl rfl rfl (Nat.le_of_ble_eq_true rfl) (Nat.le_of_ble_eq_true rfl) (Nat.le_of_ble_eq_true rfl) (Or.inr rfl) (Ci.imp h (fun r3 mem4 h => ?_))
    refine w_if_eq rfl (by decide) (pc' := 22) rfl h.1 (fun c5 => ?_) (fun c5 => ?_)
    · have h := h.2.1 c5
      refine zW.go 2 33 [(2, 261)] [(1, 1685024626), (2, 261)] _ rfl ?_
      refine w_calli (as := [(2, 261), (1, 1685024626)]) [] 36 rfl rfl rfl rfl (Nat.le_of_ble_eq_true rfl) (Nat.le_of_ble_eq_true rfl) (Nat.le_of_ble_eq_true rfl) (Or.inr rfl) (Ci.imp h (fun r6 mem7 h => ?_))
      refine w_if_eq rfl (by decide) (pc' := 39) rfl h.1 (fun c8 => ?_) (fun c8 => ?_)
      · have h := h.2.1 c8
        refine zW.go 2 50 [(2, 261)] [(1, 1869636974), (2, 261)] _ rfl ?_
        refine w_calli (as := [(2, 261), (1, 1869636974)]) [] 53 rfl rfl rfl rfl (Nat.le_of_ble_eq_true rfl) (Nat.le_of_ble_eq_true rfl) (Nat.le_of_ble_eq_true rfl) (Or.inr rfl) (Ci.imp h (fun r9 mem10 h => ?_))
        refine w_if_eq rfl (by decide) (pc' := 56) rfl h.1 (fun c11 => ?_) (fun c11 => ?_)
        · have h := h.2.1 c11
          refine zW.go 2 67 [(2, 261)] [(1, 1751476594), (2, 261)] _ rfl ?_
          refine w_calli (as := [(2, 261), (1, 1751476594)]) [] 70 rfl rfl rfl rfl (Nat.le_of_ble_eq_true rfl) (Nat.le_of_ble_eq_true rfl) (Nat.le_of_ble_eq_true rfl) (Or.inr rfl) (Ci.imp h (fun r12 mem13 h => ?_))
          refine w_if_eq rfl (by decide) (pc' := 73) rfl h.1 (fun c14 => ?_) (fun c14 => ?_)
          · have h := h.2.1 c14
            refine zW.go 2 84 [(2, 261)] [(1, 108256301313125), (2, 261)] _ rfl ?_
            refine w_calli (as := [(2, 261), (1, 108256301313125)]) [] 87 rfl rfl rfl rfl (Nat.le_of_ble_eq_true rfl) (Nat.le_of_ble_eq_true rfl) (Nat.le_of_ble_eq_true rfl) (Or.inr rfl) (Ci.imp h (fun r15 mem16 h => ?_))
            refine w_if_eq rfl (by decide) (pc' := 90) rfl h.1 (fun c17 => ?_) (fun c17 => ?_)
            · have h := h.2.1 c17
              refine zW.go 2 101 [(2, 261)] [(1, 499967946355), (2, 261)] _ rfl ?_
              refine w_calli (as := [(2, 261), (1, 499967946355)]) [] 104 rfl rfl rfl rfl (Nat.le_of_ble_eq_true rfl) (Nat.le_of_ble_eq_true rfl) (Nat.le_of_ble_eq_true rfl) (Or.inr rfl) (Ci.imp h (fun r18 mem19 h => ?_))
              refine w_if_eq rfl (by decide) (pc' := 107) rfl h.1 (fun c20 => ?_) (fun c20 => ?_)
              · have h := h.2.1 c20
                refine zW.go 2 119 [(2, 261)] [(1, 108256570864755), (2, 261)] _ rfl ?_
                refine w_calli (as := [(2, 261), (1, 108256570864755)]) [] 122 rfl rfl rfl rfl (Nat.le_of_ble_eq_true rfl) (Nat.le_of_ble_eq_true rfl) (Nat.le_of_ble_eq_true rfl) (Or.inr rfl) (Ci.imp h (fun r21 mem22 h => ?_))
                refine w_if_eq rfl (by decide) (pc' := 125) rfl h.1 (fun c23 => ?_) (fun c23 => ?_)
                · have h := h.2.1 c23
                  refine zW.go 2 137 [(2, 261)] [(1, 6845797), (2, 261)] _ rfl ?_
                  refine w_calli (as := [(2, 261), (1, 6845797)]) [] 140 rfl rfl rfl rfl (Nat.le_of_ble_eq_true rfl) (Nat.le_of_ble_eq_true rfl) (Nat.le_of_ble_eq_true rfl) (Or.inr rfl) (Ci.imp h (fun r24 mem25 h => ?_))
                  refine w_if_eq rfl (by decide) (pc' := 143) rfl h.1 (fun c26 => ?_) (fun c26 => ?_)
                  · have h := h.2.1 c26
                    refine zW.go 2 155 [(2, 261)] [(1, 108243466679400), (2, 261)] _ rfl ?_
                    refine w_calli (as := [(2, 261), (1, 108243466679400)]) [] 158 rfl rfl rfl rfl (Nat.le_of_ble_eq_true rfl) (Nat.le_of_ble_eq_true rfl) (Nat.le_of_ble_eq_true rfl) (Or.inr rfl) (Ci.imp h (fun r27 mem28 h => ?_))
                    refine w_if_eq rfl (by decide) (pc' := 161) rfl h.1 (fun c29 => ?_) (fun c29 => ?_)
                    · have h := h.2.1 c29
                      refine zW.go 3 171 [(2, 261)] [(2, 261), (0, 1), (2, 261)] _ rfl ?_
                      refine w_getI (q := 261) rfl (by decide) (pc' := 174) rfl ⟨by decide, rfl⟩ rfl (by decide) ?_
                      refine w_callv (as := [(2, 261), (0, 1), (0, (mem28 261 4))]) [] 177 rfl rfl rfl rfl (Nat.le_of_ble_eq_true rfl) (Nat.le_of_ble_eq_true rfl) (Nat.le_of_ble_eq_true rfl) (Or.inr rfl) (Cv.imp h (fun mem30 h => ?_))
                      exact w_retv rfl rfl h
                    · have h := h.2.2 c29
                      refine zW.go 1 162 [(2, 261)] [(2, 261)] _ rfl ?_
                      refine w_callv (as := [(2, 261)]) [] 165 rfl rfl rfl rfl (Nat.le_of_ble_eq_true rfl) (Nat.le_of_ble_eq_true rfl) (Nat.le_of_ble_eq_true rfl) (Or.inr rfl) (Cv.imp h (fun mem31 h => ?_))
                      refine zW.go 1 177 [(2, 261)] [] _ rfl ?_
                      exact w_retv rfl rfl h
                  · have h := h.2.2 c26
                    refine zW.go 2 145 [(2, 261)] [(0, 2), (2, 261)] _ rfl ?_
                    refine w_callv (as := [(2, 261), (0, 2)]) [] 148 rfl rfl rfl rfl (Nat.le_of_ble_eq_true rfl) (Nat.le_of_ble_eq_true rfl) (Nat.le_of_ble_eq_true rfl) (Or.inr rfl) (Cv.imp h (fun mem32 h => ?_))
                    refine zW.go 1 177 [(2, 261)] [] _ rfl ?_
                    exact w_retv rfl rfl h
                · have h := h.2.2 c23
                  refine zW.go 2 127 [(2, 261)] [(0, 1), (2, 261)] _ rfl ?_
                  refine w_callv (as := [(2, 261), (0, 1)]) [] 130 rfl rfl rfl rfl (Nat.le_of_ble_eq_true rfl) (Nat.le_of_ble_eq_true rfl) (Nat.le_of_ble_eq_true rfl) (Or.inr rfl) (Cv.imp h (fun mem33 h => ?_))
                  refine zW.go 1 177 [(2, 261)] [] _ rfl ?_
                  exact w_retv rfl rfl h
              · have h := h.2.2 c20
                refine zW.go 2 109 [(2, 261)] [(0, 0), (2, 261)] _ rfl ?_
                refine w_callv (as := [(2, 261), (0, 0)]) [] 112 rfl rfl rfl rfl (Nat.le_of_ble_eq_true rfl) (Nat.le_of_ble_eq_true rfl) (Nat.le_of_ble_eq_true rfl) (Or.inr rfl) (Cv.imp h (fun mem34 h => ?_))
                refine zW.go 1 177 [(2, 261)] [] _ rfl ?_
                exact w_retv rfl rfl h
            · have h := h.2.2 c17
              refine zW.go 1 91 [(2, 261)] [(2, 261)] _ rfl ?_
              refine w_callv (as := [(2, 261)]) [] 94 rfl rfl rfl rfl (Nat.le_of_ble_eq_true rfl) (Nat.le_of_ble_eq_true rfl) (Nat.le_of_ble_eq_true rfl) (Or.inr rfl) (Cv.imp h (fun mem35 h => ?_))
              refine zW.go 1 177 [(2, 261)] [] _ rfl ?_
              exact w_retv rfl rfl h
          · have h := h.2.2 c14
            refine zW.go 1 74 [(2, 261)] [(2, 261)] _ rfl ?_
            refine w_callv (as := [(2, 261)]) [] 77 rfl rfl rfl rfl (Nat.le_of_ble_eq_true rfl) (Nat.le_of_ble_eq_true rfl) (Nat.le_of_ble_eq_true rfl) (Or.inr rfl) (Cv.imp h (fun mem36 h => ?_))
            refine zW.go 1 177 [(2, 261)] [] _ rfl ?_
            exact w_retv rfl rfl h
        · have h := h.2.2 c11
          refine zW.go 1 57 [(2, 261)] [(2, 261)] _ rfl ?_
          refine w_callv (as := [(2, 261)]) [] 60 rfl rfl rfl rfl (Nat.le_of_ble_eq_true rfl) (Nat.le_of_ble_eq_true rfl) (Nat.le_of_ble_eq_true rfl) (Or.inr rfl) (Cv.imp h (fun mem37 h => ?_))
          refine zW.go 1 177 [(2, 261)] [] _ rfl ?_
          exact w_retv rfl rfl h
      · have h := h.2.2 c8
        refine zW.go 1 40 [(2, 261)] [(2, 261)] _ rfl ?_
        refine w_callv (as := [(2, 261)]) [] 43 rfl rfl rfl rfl (Nat.le_of_ble_eq_true rfl) (Nat.le_of_ble_eq_true rfl) (Nat.le_of_ble_eq_true rfl) (Or.inr rfl) (Cv.imp h (fun mem38 h => ?_))
        refine zW.go 1 177 [(2, 261)] [] _ rfl ?_
        exact w_retv rfl rfl h
    · have h := h.2.2 c5
      refine zW.go 1 23 [(2, 261)] [(2, 261)] _ rfl ?_
      refine w_callv (as := [(2, 261)]) [] 26 rfl rfl rfl rfl (Nat.le_of_ble_eq_true rfl) (Nat.le_of_ble_eq_true rfl) (Nat.le_of_ble_eq_true rfl) (Or.inr rfl) (Cv.imp h (fun mem39 h => ?_))
      refine zW.go 1 177 [(2, 261)] [] _ rfl ?_
      exact w_retv rfl rfl h
  · have h := h.2.2 c2
    exact w_retv rfl rfl h
def L_m_finishes_17 (X : zX) (d : Nat) (rf : zF) (Q : zF → Prop) (mem : zF) (x1 : Int) (x2 : Int) : Prop := zW X (d + 1) 237 17 [(2, 261), (0, x1), (0, x2)] [] (zty, rf, mem) (qv rf Q)
def L_m_finishes_53 (X : zX) (d : Nat) (rf : zF) (Q : zF → Prop) (mem : zF) (x1 : Int) (x2 : Int) : Prop := zW X (d + 1) 237 53 [(2, 261), (0, x1), (0, x2)] [] (zty, rf, mem) (qv rf Q)
set_option maxRecDepth 4000 in
theorem s_m_finishes_17 {X : zX} {d : Nat} {rf mem : zF} {Q : zF → Prop} (hR : zall rf zRK = true) {x1 : Int} {x2 : Int} (h : (inI x2 ∧ inI (mem 261 2)) ∧ (((mem 261 2) ≤ x2 → L_m_finishes_53 X d rf Q mem x1 x2) ∧ (¬ (mem 261 2) ≤ x2 → (0 ≤ x2 ∧ x2 < 1800) ∧ ((inI (mem 262 (x2).toNat)) ∧ (((mem 262 (x2).toNat) = 32 → L_m_finishes_17 X d rf Q mem x1 (x2 + 1)) ∧ (¬ (mem 262 (x2).toNat) = 32 → (0 ≤ x2 ∧ x2 < 1800) ∧ ((inI (mem 262 (x2).toNat)) ∧ ((¬ (mem 262 (x2).toNat) = 10 → L_m_finishes_53 X d rf Q mem x1 x2) ∧ ((mem 262 (x2).toNat) = 10 → L_m_finishes_17 X d rf Q mem x1 (x2 + 1)))))))))) : L_m_finishes_17 X d rf Q mem x1 x2 := by
  refine zW.go 2 19 [(2, 261), (0, x1), (0, x2)] [(2, 261), (0, x2)] _ rfl ?_
  refine w_getI (q := 261) rfl (by decide) (pc' := 22) rfl ⟨by decide, rfl⟩ rfl (by decide) ?_
  refine w_ic_ge rfl (by decide) (pc' := 25) rfl h.1 (fun c3 => ?_) (fun c3 => ?_)
  · have h := h.2.1 c3
    exact h
  · have h := h.2.2 c3
    refine zW.go 1 26 [(2, 261), (0, x1), (0, x2)] [(2, 261)] _ rfl ?_
    refine w_getL (q := 261) (v := 262) rfl (by decide) (pc' := 29) rfl ⟨by decide, rfl⟩ rfl rfl (zall_at hR (by decide)) ?_
    refine zW.go 1 30 [(2, 261), (0, x1), (0, x2)] [(0, x2), (2, 262)] _ rfl ?_
    obtain ⟨g, h⟩ := h
    refine w_iald (q := 262) rfl (by decide) (pc' := 31) rfl ⟨by decide, rfl⟩ rfl g rfl ?_
    refine zW.go 1 33 [(2, 261), (0, x1), (0, x2)] [(0, 32), (0, (mem 262 (x2).toNat))] _ rfl ?_
    refine w_ic_eq rfl (by decide) (pc' := 36) rfl ⟨h.1, by decide⟩ (fun c4 => ?_) (fun c4 => ?_)
    · have h := h.2.1 c4
      refine zW.go 2 17 [(2, 261), (0, x1), (0, (x2 + 1))] [] _ rfl ?_
      exact h
    · have h := h.2.2 c4
      refine zW.go 1 37 [(2, 261), (0, x1), (0, x2)] [(2, 261)] _ rfl ?_
      refine w_getL (q := 261) (v := 262) rfl (by decide) (pc' := 40) rfl ⟨by decide, rfl⟩ rfl rfl (zall_at hR (by decide)) ?_
      refine zW.go 1 41 [(2, 261), (0, x1), (0, x2)] [(0, x2), (2, 262)] _ rfl ?_
      obtain ⟨g, h⟩ := h
      refine w_iald (q := 262) rfl (by decide) (pc' := 42) rfl ⟨by decide, rfl⟩ rfl g rfl ?_
      refine zW.go 1 44 [(2, 261), (0, x1), (0, x2)] [(0, 10), (0, (mem 262 (x2).toNat))] _ rfl ?_
      refine w_ic_ne rfl (by decide) (pc' := 47) rfl ⟨h.1, by decide⟩ (fun c5 => ?_) (fun c5 => ?_)
      · have h := h.2.1 c5
        exact h
      · have h := h.2.2 c5
        refine zW.go 2 17 [(2, 261), (0, x1), (0, (x2 + 1))] [] _ rfl ?_
        exact h
set_option maxRecDepth 4000 in
theorem s_m_finishes_53 {X : zX} {d : Nat} {rf mem : zF} {Q : zF → Prop} (hR : zall rf zRK = true) {x1 : Int} {x2 : Int} (h : Ci X d 203 [(2, 261), (0, 59)] rf mem (fun r6 mem7 => (inI r6) ∧ ((r6 = 0 → Cv X d 205 [(2, 261), (0, 59)] rf mem7 (fun mem9 => Q mem9)) ∧ (¬ r6 = 0 → (inI x1) ∧ ((¬ x1 = 80 → Cv X d 205 [(2, 261), (0, 59)] rf mem7 (fun mem11 => Q mem11)) ∧ (x1 = 80 → (inI x2 ∧ inI (mem7 261 2)) ∧ (((mem7 261 2) ≤ x2 → Cv X d 205 [(2, 261), (0, 59)] rf mem7 (fun mem13 => Q mem13)) ∧ (¬ (mem7 261 2) ≤ x2 → Cv X d 198 [(2, 261), (0, 6), (0, x2)] rf mem7 (fun mem14 => Cv X d 205 [(2, 261), (0, 59)] rf mem14 (fun mem15 => Q mem15)))))))))) : L_m_finishes_53 X d rf Q mem x1 x2 := by
  refine zW.go 2 56 [(2, 261), (0, x1), (0, x2)] [(0, 59), (2, 261)] _ rfl ?_
  refine w_calli (as := [(2, 261), (0, 59)]) [] 59 rfl rfl rfl rfl (Nat.le_of_ble_eq_true rfl) (Nat.le_of_ble_eq_true rfl) (Nat.le_of_ble_eq_true rfl) (Or.inr rfl) (Ci.imp h (fun r6 mem7 h => ?_))
  refine w_if_eq rfl (by decide) (pc' := 62) rfl h.1 (fun c8 => ?_) (fun c8 => ?_)
  · have h := h.2.1 c8
    refine zW.go 2 86 [(2, 261), (0, x1), (0, x2)] [(0, 59), (2, 261)] _ rfl ?_
    refine w_callv (as := [(2, 261), (0, 59)]) [] 89 rfl rfl rfl rfl (Nat.le_of_ble_eq_true rfl) (Nat.le_of_ble_eq_true rfl) (Nat.le_of_ble_eq_true rfl) (Or.inr rfl) (Cv.imp h (fun mem9 h => ?_))
    exact w_retv rfl rfl h
  · have h := h.2.2 c8
    refine zW.go 2 65 [(2, 261), (0, x1), (0, x2)] [(0, 80), (0, x1)] _ rfl ?_
    refine w_ic_ne rfl (by decide) (pc' := 68) rfl ⟨h.1, by decide⟩ (fun c10 => ?_) (fun c10 => ?_)
    · have h := h.2.1 c10
      refine zW.go 2 86 [(2, 261), (0, x1), (0, x2)] [(0, 59), (2, 261)] _ rfl ?_
      refine w_callv (as := [(2, 261), (0, 59)]) [] 89 rfl rfl rfl rfl (Nat.le_of_ble_eq_true rfl) (Nat.le_of_ble_eq_true rfl) (Nat.le_of_ble_eq_true rfl) (Or.inr rfl) (Cv.imp h (fun mem11 h => ?_))
      exact w_retv rfl rfl h
    · have h := h.2.2 c10
      refine zW.go 2 70 [(2, 261), (0, x1), (0, x2)] [(2, 261), (0, x2)] _ rfl ?_
      refine w_getI (q := 261) rfl (by decide) (pc' := 73) rfl ⟨by decide, rfl⟩ rfl (by decide) ?_
      refine w_ic_ge rfl (by decide) (pc' := 76) rfl h.1 (fun c12 => ?_) (fun c12 => ?_)
      · have h := h.2.1 c12
        refine zW.go 2 86 [(2, 261), (0, x1), (0, x2)] [(0, 59), (2, 261)] _ rfl ?_
        refine w_callv (as := [(2, 261), (0, 59)]) [] 89 rfl rfl rfl rfl (Nat.le_of_ble_eq_true rfl) (Nat.le_of_ble_eq_true rfl) (Nat.le_of_ble_eq_true rfl) (Or.inr rfl) (Cv.imp h (fun mem13 h => ?_))
        exact w_retv rfl rfl h
      · have h := h.2.2 c12
        refine zW.go 3 80 [(2, 261), (0, x1), (0, x2)] [(0, x2), (0, 6), (2, 261)] _ rfl ?_
        refine w_callv (as := [(2, 261), (0, 6), (0, x2)]) [] 83 rfl rfl rfl rfl (Nat.le_of_ble_eq_true rfl) (Nat.le_of_ble_eq_true rfl) (Nat.le_of_ble_eq_true rfl) (Or.inr rfl) (Cv.imp h (fun mem14 h => ?_))
        refine zW.go 2 86 [(2, 261), (0, x1), (0, x2)] [(0, 59), (2, 261)] _ rfl ?_
        refine w_callv (as := [(2, 261), (0, 59)]) [] 89 rfl rfl rfl rfl (Nat.le_of_ble_eq_true rfl) (Nat.le_of_ble_eq_true rfl) (Nat.le_of_ble_eq_true rfl) (Or.inr rfl) (Cv.imp h (fun mem15 h => ?_))
        exact w_retv rfl rfl h
set_option maxRecDepth 4000 in
theorem s_m_finishes {X : zX} {d : Nat} {rf mem : zF} {Q : zF → Prop} (hR : zall rf zRK = true) {x1 : Int} (h : Cv X d 201 [(2, 261)] rf mem (fun mem1 => (inI (mem1 261 8)) ∧ (((mem1 261 8) ≤ 0 → L_m_finishes_17 X d rf Q mem1 x1 (mem1 261 5)) ∧ (¬ (mem1 261 8) ≤ 0 → Q mem1)))) : Cv X (d + 1) 237 [(2, 261), (0, x1)] rf mem Q := by
  show zW X (d + 1) 237 0 [(2, 261), (0, x1), (9, 0)] [] (zty, rf, mem) (qv rf Q)
  refine zW.go 1 1 [(2, 261), (0, x1), (9, 0)] [(2, 261)] _ rfl ?_
  refine w_callv (as := [(2, 261)]) [] 4 rfl rfl rfl rfl (Nat.le_of_ble_eq_true rfl) (Nat.le_of_ble_eq_true rfl) (Nat.le_of_ble_eq_true rfl) (Or.inr rfl) (Cv.imp h (fun mem1 h => ?_))
  refine zW.go 1 5 [(2, 261), (0, x1), (9, 0)] [(2, 261)] _ rfl ?_
  refine w_getI (q := 261) rfl (by decide) (pc' := 8) rfl ⟨by decide, rfl⟩ rfl (by decide) ?_
  refine w_if_le rfl (by decide) (pc' := 11) rfl h.1 (fun c2 => ?_) (fun c2 => ?_)
  · have h := h.2.1 c2
    refine zW.go 1 13 [(2, 261), (0, x1), (9, 0)] [(2, 261)] _ rfl ?_
    refine w_getI (q := 261) rfl (by decide) (pc' := 16) rfl ⟨by decide, rfl⟩ rfl (by decide) ?_
    refine zW.go 1 17 [(2, 261), (0, x1), (0, (mem1 261 5))] [] _ rfl ?_
    exact h
  · have h := h.2.2 c2
    exact w_retv rfl rfl h
def L_m_room_105 (X : zX) (d : Nat) (rf : zF) (Q : Int → zF → Prop) (mem : zF) (x1 : Int) : Prop := zW X (d + 1) 238 105 [(2, 261), (0, x1)] [] (zty, rf, mem) (qi rf Q)
def L_m_room_150 (X : zX) (d : Nat) (rf : zF) (Q : Int → zF → Prop) (mem : zF) (x1 : Int) : Prop := zW X (d + 1) 238 150 [(2, 261), (0, x1)] [] (zty, rf, mem) (qi rf Q)
def L_m_room_179 (X : zX) (d : Nat) (rf : zF) (Q : Int → zF → Prop) (mem : zF) (x1 : Int) : Prop := zW X (d + 1) 238 179 [(2, 261), (0, x1)] [] (zty, rf, mem) (qi rf Q)
set_option maxRecDepth 4000 in
theorem s_m_room_105 {X : zX} {d : Nat} {rf mem : zF} {Q : Int → zF → Prop} (hR : zall rf zRK = true) {x1 : Int} (h : (inI x1 ∧ inI ((3 * (mem 261 38)) + 3)) ∧ ((((3 * (mem 261 38)) + 3) ≤ x1 → Cv X d 202 [(2, 261)] rf (zup mem 261 37 0) (fun mem2 => Cv X d 228 [(2, 261)] rf mem2 (fun mem3 => Cv X d 237 [(2, 261), (0, 1)] rf mem3 (fun mem4 => L_m_room_150 X d rf Q mem4 1)))) ∧ (¬ ((3 * (mem 261 38)) + 3) ≤ x1 → (0 ≤ x1 ∧ x1 < 6) ∧ (L_m_room_105 X d rf Q (zup mem 279 (x1).toNat (-1)) (x1 + 1))))) : L_m_room_105 X d rf Q mem x1 := by
  refine zW.go 3 108 [(2, 261), (0, x1)] [(2, 261), (0, 3), (0, x1)] _ rfl ?_
  refine w_getI (q := 261) rfl (by decide) (pc' := 111) rfl ⟨by decide, rfl⟩ rfl (by decide) ?_
  refine zW.go 3 114 [(2, 261), (0, x1)] [(0, ((3 * (mem 261 38)) + 3)), (0, x1)] _ rfl ?_
  refine w_ic_ge rfl (by decide) (pc' := 117) rfl h.1 (fun c1 => ?_) (fun c1 => ?_)
  · have h := h.2.1 c1
    refine zW.go 2 132 [(2, 261), (0, x1)] [(0, 0), (2, 261)] _ rfl ?_
    refine w_putI (q := 261) rfl (by decide) (pc' := 135) rfl ⟨by decide, rfl⟩ rfl (by decide) ?_
    refine zW.go 3 138 [(2, 261), (0, 1)] [(2, 261)] _ rfl ?_
    refine w_callv (as := [(2, 261)]) [] 141 rfl rfl rfl rfl (Nat.le_of_ble_eq_true rfl) (Nat.le_of_ble_eq_true rfl) (Nat.le_of_ble_eq_true rfl) (Or.inr rfl) (Cv.imp h (fun mem2 h => ?_))
    refine zW.go 1 142 [(2, 261), (0, 1)] [(2, 261)] _ rfl ?_
    refine w_callv (as := [(2, 261)]) [] 145 rfl rfl rfl rfl (Nat.le_of_ble_eq_true rfl) (Nat.le_of_ble_eq_true rfl) (Nat.le_of_ble_eq_true rfl) (Or.inr rfl) (Cv.imp h (fun mem3 h => ?_))
    refine zW.go 2 147 [(2, 261), (0, 1)] [(0, 1), (2, 261)] _ rfl ?_
    refine w_callv (as := [(2, 261), (0, 1)]) [] 150 rfl rfl rfl rfl (Nat.le_of_ble_eq_true rfl) (Nat.le_of_ble_eq_true rfl) (Nat.le_of_ble_eq_true rfl) (Or.inr rfl) (Cv.imp h (fun mem4 h => ?_))
    exact h
  · have h := h.2.2 c1
    refine zW.go 1 118 [(2, 261), (0, x1)] [(2, 261)] _ rfl ?_
    refine w_getL (q := 261) (v := 279) rfl (by decide) (pc' := 121) rfl ⟨by decide, rfl⟩ rfl rfl (zall_at hR (by decide)) ?_
    refine zW.go 2 123 [(2, 261), (0, x1)] [(0, (-1)), (0, x1), (2, 279)] _ rfl ?_
    obtain ⟨g, h⟩ := h
    refine w_iast (q := 279) rfl (by decide) (pc' := 124) rfl ⟨by decide, rfl⟩ rfl g rfl ?_
    refine zW.go 2 105 [(2, 261), (0, (x1 + 1))] [] _ rfl ?_
    exact h
set_option maxRecDepth 4000 in
theorem s_m_room_150 {X : zX} {d : Nat} {rf mem : zF} {Q : Int → zF → Prop} (hR : zall rf zRK = true) {x1 : Int} (h : (inI (mem 261 8)) ∧ ((¬ (mem 261 8) = 0 → L_m_room_179 X d rf Q mem x1) ∧ ((mem 261 8) = 0 → (inI (mem 261 3)) ∧ (((mem 261 3) = 0 → L_m_room_179 X d rf Q mem x1) ∧ (¬ (mem 261 3) = 0 → Cv X d 236 [(2, 261)] rf mem (fun mem7 => Cv X d 237 [(2, 261), (0, (x1 + 1))] rf mem7 (fun mem8 => L_m_room_150 X d rf Q mem8 (x1 + 1)))))))) : L_m_room_150 X d rf Q mem x1 := by
  refine zW.go 1 151 [(2, 261), (0, x1)] [(2, 261)] _ rfl ?_
  refine w_getI (q := 261) rfl (by decide) (pc' := 154) rfl ⟨by decide, rfl⟩ rfl (by decide) ?_
  refine w_if_ne rfl (by decide) (pc' := 157) rfl h.1 (fun c5 => ?_) (fun c5 => ?_)
  · have h := h.2.1 c5
    exact h
  · have h := h.2.2 c5
    refine zW.go 1 158 [(2, 261), (0, x1)] [(2, 261)] _ rfl ?_
    refine w_getI (q := 261) rfl (by decide) (pc' := 161) rfl ⟨by decide, rfl⟩ rfl (by decide) ?_
    refine w_if_eq rfl (by decide) (pc' := 164) rfl h.1 (fun c6 => ?_) (fun c6 => ?_)
    · have h := h.2.1 c6
      exact h
    · have h := h.2.2 c6
      refine zW.go 1 165 [(2, 261), (0, x1)] [(2, 261)] _ rfl ?_
      refine w_callv (as := [(2, 261)]) [] 168 rfl rfl rfl rfl (Nat.le_of_ble_eq_true rfl) (Nat.le_of_ble_eq_true rfl) (Nat.le_of_ble_eq_true rfl) (Or.inr rfl) (Cv.imp h (fun mem7 h => ?_))
      refine zW.go 3 173 [(2, 261), (0, (x1 + 1))] [(0, (x1 + 1)), (2, 261)] _ rfl ?_
      refine w_callv (as := [(2, 261), (0, (x1 + 1))]) [] 176 rfl rfl rfl rfl (Nat.le_of_ble_eq_true rfl) (Nat.le_of_ble_eq_true rfl) (Nat.le_of_ble_eq_true rfl) (Or.inr rfl) (Cv.imp h (fun mem8 h => ?_))
      refine zW.go 1 150 [(2, 261), (0, (x1 + 1))] [] _ rfl ?_
      exact h
set_option maxRecDepth 4000 in
theorem s_m_room_179 {X : zX} {d : Nat} {rf mem : zF} {Q : Int → zF → Prop} (hR : zall rf zRK = true) {x1 : Int} (h : (inI (mem 261 8)) ∧ (((mem 261 8) ≤ 0 → Cv X d 243 [(2, 261)] rf (zup (zup (zup (zup mem 261 10 (mem 261 8)) 261 11 (mem 261 9)) 261 13 (mem 261 38)) 261 50 1) (fun mem10 => Q x1 mem10)) ∧ (¬ (mem 261 8) ≤ 0 → Ci X d 240 [(2, 261), (0, 1)] rf (zup (zup mem 261 10 (mem 261 8)) 261 11 (mem 261 9)) (fun r11 mem12 => Q r11 mem12)))) : L_m_room_179 X d rf Q mem x1 := by
  refine zW.go 2 181 [(2, 261), (0, x1)] [(2, 261), (2, 261)] _ rfl ?_
  refine w_getI (q := 261) rfl (by decide) (pc' := 184) rfl ⟨by decide, rfl⟩ rfl (by decide) ?_
  refine w_putI (q := 261) rfl (by decide) (pc' := 187) rfl ⟨by decide, rfl⟩ rfl (by decide) ?_
  refine zW.go 2 189 [(2, 261), (0, x1)] [(2, 261), (2, 261)] _ rfl ?_
  refine w_getI (q := 261) rfl (by decide) (pc' := 192) rfl ⟨by decide, rfl⟩ rfl (by decide) ?_
  refine w_putI (q := 261) rfl (by decide) (pc' := 195) rfl ⟨by decide, rfl⟩ rfl (by decide) ?_
  refine zW.go 1 196 [(2, 261), (0, x1)] [(2, 261)] _ rfl ?_
  refine w_getI (q := 261) rfl (by decide) (pc' := 199) rfl ⟨by decide, rfl⟩ rfl (by decide) ?_
  refine w_if_le rfl (by decide) (pc' := 202) rfl h.1 (fun c9 => ?_) (fun c9 => ?_)
  · have h := h.2.1 c9
    refine zW.go 2 210 [(2, 261), (0, x1)] [(2, 261), (2, 261)] _ rfl ?_
    refine w_getI (q := 261) rfl (by decide) (pc' := 213) rfl ⟨by decide, rfl⟩ rfl (by decide) ?_
    refine w_putI (q := 261) rfl (by decide) (pc' := 216) rfl ⟨by decide, rfl⟩ rfl (by decide) ?_
    refine zW.go 2 218 [(2, 261), (0, x1)] [(0, 1), (2, 261)] _ rfl ?_
    refine w_putZ (q := 261) rfl (by decide) (pc' := 221) rfl ⟨by decide, rfl⟩ rfl (by decide) (by decide) ?_
    refine zW.go 1 222 [(2, 261), (0, x1)] [(2, 261)] _ rfl ?_
    refine w_callv (as := [(2, 261)]) [] 225 rfl rfl rfl rfl (Nat.le_of_ble_eq_true rfl) (Nat.le_of_ble_eq_true rfl) (Nat.le_of_ble_eq_true rfl) (Or.inr rfl) (Cv.imp h (fun mem10 h => ?_))
    refine zW.go 1 226 [(2, 261), (0, x1)] [(0, x1)] _ rfl ?_
    exact w_reti rfl rfl h
  · have h := h.2.2 c9
    refine zW.go 2 204 [(2, 261), (0, x1)] [(0, 1), (2, 261)] _ rfl ?_
    refine w_calli (as := [(2, 261), (0, 1)]) [] 207 rfl rfl rfl rfl (Nat.le_of_ble_eq_true rfl) (Nat.le_of_ble_eq_true rfl) (Nat.le_of_ble_eq_true rfl) (Or.inr rfl) (Ci.imp h (fun r11 mem12 h => ?_))
    exact w_reti rfl rfl h
set_option maxRecDepth 4000 in
theorem s_m_room {X : zX} {d : Nat} {rf mem : zF} {Q : Int → zF → Prop} (hR : zall rf zRK = true) (h : (0 ≤ (1 - (mem 261 13)) ∧ (1 - (mem 261 13)) < 2) ∧ ((0 ≤ (1 - (mem 261 13)) ∧ (1 - (mem 261 13)) < 2) ∧ ((0 ≤ (1 - (mem 261 13)) ∧ (1 - (mem 261 13)) < 2) ∧ ((0 ≤ (1 - (mem 261 13)) ∧ (1 - (mem 261 13)) < 2) ∧ ((0 ≤ (1 - (mem 261 13)) ∧ (1 - (mem 261 13)) < 2) ∧ ((0 ≤ (1 - (mem 261 13)) ∧ (1 - (mem 261 13)) < 2) ∧ (L_m_room_105 X d rf Q (zup (zup (zup (zup (zup (zup (zup (zup (zup (zup (zup (zup mem 261 2 (mem 261 1)) 261 1 0) 261 5 0) 261 8 0) 261 9 (-1)) 261 38 (1 - (mem 261 13))) 265 ((1 - (mem 261 13))).toNat (-1)) 266 ((1 - (mem 261 13))).toNat 0) 270 ((1 - (mem 261 13))).toNat 0) 271 ((1 - (mem 261 13))).toNat 0) 274 ((1 - (mem 261 13))).toNat 0) 278 ((1 - (mem 261 13))).toNat 0) (3 * (1 - (mem 261 13)))))))))) : Ci X (d + 1) 238 [(2, 261)] rf mem Q := by
  show zW X (d + 1) 238 0 [(2, 261), (9, 0)] [] (zty, rf, mem) (qi rf Q)
  refine zW.go 2 2 [(2, 261), (9, 0)] [(2, 261), (2, 261)] _ rfl ?_
  refine w_getI (q := 261) rfl (by decide) (pc' := 5) rfl ⟨by decide, rfl⟩ rfl (by decide) ?_
  refine w_putI (q := 261) rfl (by decide) (pc' := 8) rfl ⟨by decide, rfl⟩ rfl (by decide) ?_
  refine zW.go 2 10 [(2, 261), (9, 0)] [(0, 0), (2, 261)] _ rfl ?_
  refine w_putI (q := 261) rfl (by decide) (pc' := 13) rfl ⟨by decide, rfl⟩ rfl (by decide) ?_
  refine zW.go 2 15 [(2, 261), (9, 0)] [(0, 0), (2, 261)] _ rfl ?_
  refine w_putI (q := 261) rfl (by decide) (pc' := 18) rfl ⟨by decide, rfl⟩ rfl (by decide) ?_
  refine zW.go 2 20 [(2, 261), (9, 0)] [(0, 0), (2, 261)] _ rfl ?_
  refine w_putI (q := 261) rfl (by decide) (pc' := 23) rfl ⟨by decide, rfl⟩ rfl (by decide) ?_
  refine zW.go 2 25 [(2, 261), (9, 0)] [(0, (-1)), (2, 261)] _ rfl ?_
  refine w_putI (q := 261) rfl (by decide) (pc' := 28) rfl ⟨by decide, rfl⟩ rfl (by decide) ?_
  refine zW.go 3 31 [(2, 261), (9, 0)] [(2, 261), (0, 1), (2, 261)] _ rfl ?_
  refine w_getI (q := 261) rfl (by decide) (pc' := 34) rfl ⟨by decide, rfl⟩ rfl (by decide) ?_
  refine zW.go 1 35 [(2, 261), (9, 0)] [(0, (1 - (mem 261 13))), (2, 261)] _ rfl ?_
  refine w_putI (q := 261) rfl (by decide) (pc' := 38) rfl ⟨by decide, rfl⟩ rfl (by decide) ?_
  refine zW.go 1 39 [(2, 261), (9, 0)] [(2, 261)] _ rfl ?_
  refine w_getL (q := 261) (v := 265) rfl (by decide) (pc' := 42) rfl ⟨by decide, rfl⟩ rfl rfl (zall_at hR (by decide)) ?_
  refine zW.go 1 43 [(2, 261), (9, 0)] [(2, 261), (2, 265)] _ rfl ?_
  refine w_getI (q := 261) rfl (by decide) (pc' := 46) rfl ⟨by decide, rfl⟩ rfl (by decide) ?_
  refine zW.go 1 47 [(2, 261), (9, 0)] [(0, (-1)), (0, (1 - (mem 261 13))), (2, 265)] _ rfl ?_
  obtain ⟨g, h⟩ := h
  refine w_iast (q := 265) rfl (by decide) (pc' := 48) rfl ⟨by decide, rfl⟩ rfl g rfl ?_
  refine zW.go 1 49 [(2, 261), (9, 0)] [(2, 261)] _ rfl ?_
  refine w_getL (q := 261) (v := 266) rfl (by decide) (pc' := 52) rfl ⟨by decide, rfl⟩ rfl rfl (zall_at hR (by decide)) ?_
  refine zW.go 1 53 [(2, 261), (9, 0)] [(2, 261), (2, 266)] _ rfl ?_
  refine w_getI (q := 261) rfl (by decide) (pc' := 56) rfl ⟨by decide, rfl⟩ rfl (by decide) ?_
  refine zW.go 1 57 [(2, 261), (9, 0)] [(0, 0), (0, (1 - (mem 261 13))), (2, 266)] _ rfl ?_
  obtain ⟨g, h⟩ := h
  refine w_iast (q := 266) rfl (by decide) (pc' := 58) rfl ⟨by decide, rfl⟩ rfl g rfl ?_
  refine zW.go 1 59 [(2, 261), (9, 0)] [(2, 261)] _ rfl ?_
  refine w_getL (q := 261) (v := 270) rfl (by decide) (pc' := 62) rfl ⟨by decide, rfl⟩ rfl rfl (zall_at hR (by decide)) ?_
  refine zW.go 1 63 [(2, 261), (9, 0)] [(2, 261), (2, 270)] _ rfl ?_
  refine w_getI (q := 261) rfl (by decide) (pc' := 66) rfl ⟨by decide, rfl⟩ rfl (by decide) ?_
  refine zW.go 1 67 [(2, 261), (9, 0)] [(0, 0), (0, (1 - (mem 261 13))), (2, 270)] _ rfl ?_
  obtain ⟨g, h⟩ := h
  refine w_iast (q := 270) rfl (by decide) (pc' := 68) rfl ⟨by decide, rfl⟩ rfl g rfl ?_
  refine zW.go 1 69 [(2, 261), (9, 0)] [(2, 261)] _ rfl ?_
  refine w_getL (q := 261) (v := 271) rfl (by decide) (pc' := 72) rfl ⟨by decide, rfl⟩ rfl rfl (zall_at hR (by decide)) ?_
  refine zW.go 1 73 [(2, 261), (9, 0)] [(2, 261), (2, 271)] _ rfl ?_
  refine w_getI (q := 261) rfl (by decide) (pc' := 76) rfl ⟨by decide, rfl⟩ rfl (by decide) ?_
  refine zW.go 1 77 [(2, 261), (9, 0)] [(0, 0), (0, (1 - (mem 261 13))), (2, 271)] _ rfl ?_
  obtain ⟨g, h⟩ := h
  refine w_iast (q := 271) rfl (by decide) (pc' := 78) rfl ⟨by decide, rfl⟩ rfl g rfl ?_
  refine zW.go 1 79 [(2, 261), (9, 0)] [(2, 261)] _ rfl ?_
  refine w_getL (q := 261) (v := 274) rfl (by decide) (pc' := 82) rfl ⟨by decide, rfl⟩ rfl rfl (zall_at hR (by decide)) ?_
  refine zW.go 1 83 [(2, 261), (9, 0)] [(2, 261), (2, 274)] _ rfl ?_
  refine w_getI (q := 261) rfl (by decide) (pc' := 86) rfl ⟨by decide, rfl⟩ rfl (by decide) ?_
  refine zW.go 1 87 [(2, 261), (9, 0)] [(0, 0), (0, (1 - (mem 261 13))), (2, 274)] _ rfl ?_
  obtain ⟨g, h⟩ := h
  refine w_iast (q := 274) rfl (by decide) (pc' := 88) rfl ⟨by decide, rfl⟩ rfl g rfl ?_
  refine zW.go 1 89 [(2, 261), (9, 0)] [(2, 261)] _ rfl ?_
  refine w_getL (q := 261) (v := 278) rfl (by decide) (pc' := 92) rfl ⟨by decide, rfl⟩ rfl rfl (zall_at hR (by decide)) ?_
  refine zW.go 1 93 [(2, 261), (9, 0)] [(2, 261), (2, 278)] _ rfl ?_
  refine w_getI (q := 261) rfl (by decide) (pc' := 96) rfl ⟨by decide, rfl⟩ rfl (by decide) ?_
  refine zW.go 1 97 [(2, 261), (9, 0)] [(0, 0), (0, (1 - (mem 261 13))), (2, 278)] _ rfl ?_
  obtain ⟨g, h⟩ := h
  refine w_iast (q := 278) rfl (by decide) (pc' := 98) rfl ⟨by decide, rfl⟩ rfl g rfl ?_
  refine zW.go 2 100 [(2, 261), (9, 0)] [(2, 261), (0, 3)] _ rfl ?_
  refine w_getI (q := 261) rfl (by decide) (pc' := 103) rfl ⟨by decide, rfl⟩ rfl (by decide) ?_
  refine zW.go 2 105 [(2, 261), (0, (3 * (1 - (mem 261 13))))] [] _ rfl ?_
  exact h
set_option maxRecDepth 4000 in
theorem s_m_fault {X : zX} {d : Nat} {rf mem : zF} {Q : Int → zF → Prop} (hR : zall rf zRK = true) {x1 : Int} (h : (inI x1) ∧ ((¬ x1 = 0 → (inI x1) ∧ ((¬ x1 = 1 → Q (-1) mem) ∧ (x1 = 1 → Q (mem 261 11) mem))) ∧ (x1 = 0 → Q (mem 261 10) mem))) : Ci X d 239 [(2, 261), (0, x1)] rf mem Q := by
  show zW X d 239 0 [(2, 261), (0, x1)] [] (zty, rf, mem) (qi rf Q)
  refine zW.go 1 1 [(2, 261), (0, x1)] [(0, x1)] _ rfl ?_
  refine w_if_ne rfl (by decide) (pc' := 4) rfl h.1 (fun c1 => ?_) (fun c1 => ?_)
  · have h := h.2.1 c1
    refine zW.go 2 13 [(2, 261), (0, x1)] [(0, 1), (0, x1)] _ rfl ?_
    refine w_ic_ne rfl (by decide) (pc' := 16) rfl ⟨h.1, by decide⟩ (fun c2 => ?_) (fun c2 => ?_)
    · have h := h.2.1 c2
      refine zW.go 1 24 [(2, 261), (0, x1)] [(0, (-1))] _ rfl ?_
      exact w_reti rfl rfl h
    · have h := h.2.2 c2
      refine zW.go 1 17 [(2, 261), (0, x1)] [(2, 261)] _ rfl ?_
      refine w_getI (q := 261) rfl (by decide) (pc' := 20) rfl ⟨by decide, rfl⟩ rfl (by decide) ?_
      refine zW.go 1 24 [(2, 261), (0, x1)] [(0, (mem 261 11))] _ rfl ?_
      exact w_reti rfl rfl h
  · have h := h.2.2 c1
    refine zW.go 1 5 [(2, 261), (0, x1)] [(2, 261)] _ rfl ?_
    refine w_getI (q := 261) rfl (by decide) (pc' := 8) rfl ⟨by decide, rfl⟩ rfl (by decide) ?_
    refine zW.go 1 24 [(2, 261), (0, x1)] [(0, (mem 261 10))] _ rfl ?_
    exact w_reti rfl rfl h
set_option maxRecDepth 4000 in
theorem s_m_refuses {X : zX} {d : Nat} {rf mem : zF} {Q : Int → zF → Prop} (hR : zall rf zRK = true) {x1 : Int} (h : (0 ≤ x1 ∧ x1 < 6) ∧ ((0 ≤ x1 ∧ x1 < 6) ∧ (Q (-1) (zup mem 292 (x1).toNat ((mem 292 (x1).toNat) + 1))))) : Ci X d 240 [(2, 261), (0, x1)] rf mem Q := by
  show zW X d 240 0 [(2, 261), (0, x1)] [] (zty, rf, mem) (qi rf Q)
  refine zW.go 1 1 [(2, 261), (0, x1)] [(2, 261)] _ rfl ?_
  refine w_getL (q := 261) (v := 292) rfl (by decide) (pc' := 4) rfl ⟨by decide, rfl⟩ rfl rfl (zall_at hR (by decide)) ?_
  refine zW.go 2 6 [(2, 261), (0, x1)] [(0, x1), (2, 292), (0, x1), (2, 292)] _ rfl ?_
  obtain ⟨g, h⟩ := h
  refine w_iald (q := 292) rfl (by decide) (pc' := 7) rfl ⟨by decide, rfl⟩ rfl g rfl ?_
  refine zW.go 2 9 [(2, 261), (0, x1)] [(0, ((mem 292 (x1).toNat) + 1)), (0, x1), (2, 292)] _ rfl ?_
  obtain ⟨g, h⟩ := h
  refine w_iast (q := 292) rfl (by decide) (pc' := 10) rfl ⟨by decide, rfl⟩ rfl g rfl ?_
  refine zW.go 1 11 [(2, 261), (0, x1)] [(0, (-1))] _ rfl ?_
  exact w_reti rfl rfl h
set_option maxRecDepth 4000 in
theorem s_m_status {X : zX} {d : Nat} {rf mem : zF} {Q : Int → zF → Prop} (hR : zall rf zRK = true) {x1 : Int} (h : Ci X d 194 [(0, x1), (0, 0), (0, 5)] rf mem (fun r1 mem2 => (inI r1) ∧ ((r1 = 0 → Q (-1) mem2) ∧ (¬ r1 = 0 → (0 ≤ x1 ∧ x1 < 6) ∧ (Q (mem2 292 (x1).toNat) mem2))))) : Ci X (d + 1) 241 [(2, 261), (0, x1)] rf mem Q := by
  show zW X (d + 1) 241 0 [(2, 261), (0, x1)] [] (zty, rf, mem) (qi rf Q)
  refine zW.go 3 3 [(2, 261), (0, x1)] [(0, 5), (0, 0), (0, x1)] _ rfl ?_
  refine w_calli (as := [(0, x1), (0, 0), (0, 5)]) [] 6 rfl rfl rfl rfl (Nat.le_of_ble_eq_true rfl) (Nat.le_of_ble_eq_true rfl) (Nat.le_of_ble_eq_true rfl) (Or.inl rfl) (Ci.imp h (fun r1 mem2 h => ?_))
  refine w_if_eq rfl (by decide) (pc' := 9) rfl h.1 (fun c3 => ?_) (fun c3 => ?_)
  · have h := h.2.1 c3
    refine zW.go 1 19 [(2, 261), (0, x1)] [(0, (-1))] _ rfl ?_
    exact w_reti rfl rfl h
  · have h := h.2.2 c3
    refine zW.go 1 10 [(2, 261), (0, x1)] [(2, 261)] _ rfl ?_
    refine w_getL (q := 261) (v := 292) rfl (by decide) (pc' := 13) rfl ⟨by decide, rfl⟩ rfl rfl (zall_at hR (by decide)) ?_
    refine zW.go 1 14 [(2, 261), (0, x1)] [(0, x1), (2, 292)] _ rfl ?_
    obtain ⟨g, h⟩ := h
    refine w_iald (q := 292) rfl (by decide) (pc' := 15) rfl ⟨by decide, rfl⟩ rfl g rfl ?_
    refine zW.go 1 19 [(2, 261), (0, x1)] [(0, (mem2 292 (x1).toNat))] _ rfl ?_
    exact w_reti rfl rfl h
def L_m_copies_38 (X : zX) (d : Nat) (rf : zF) (Q : zF → Prop) (mem : zF) (x1 : Int) (x2 : Int) (x3 : Int) : Prop := ∀ z4 : zV, ∀ z5 : zV, zW X d 242 38 [(2, 261), (0, x1), (0, x2), (0, x3), z4, z5] [] (zty, rf, mem) (qv rf Q)
def L_m_copies_178 (X : zX) (d : Nat) (rf : zF) (Q : zF → Prop) (mem : zF) (x1 : Int) (x2 : Int) (x3 : Int) : Prop := ∀ z4 : zV, ∀ z5 : zV, zW X d 242 178 [(2, 261), (0, x1), (0, x2), (0, x3), z4, z5] [] (zty, rf, mem) (qv rf Q)
set_option maxRecDepth 4000 in
theorem s_m_copies_38 {X : zX} {d : Nat} {rf mem : zF} {Q : zF → Prop} (hR : zall rf zRK = true) {x1 : Int} {x2 : Int} {x3 : Int} (h : (inI x3) ∧ ((6 ≤ x3 → (0 ≤ x2 ∧ x2 < 22) ∧ ((0 ≤ x1 ∧ x1 < 22) ∧ (L_m_copies_178 X d rf Q (zup mem 303 (x1).toNat (mem 303 (x2).toNat)) x1 x2 0))) ∧ (¬ 6 ≤ x3 → (0 ≤ ((6 * x2) + x3) ∧ ((6 * x2) + x3) < 132) ∧ ((0 ≤ ((6 * x1) + x3) ∧ ((6 * x1) + x3) < 132) ∧ ((0 ≤ ((6 * x2) + x3) ∧ ((6 * x2) + x3) < 132) ∧ ((0 ≤ ((6 * x1) + x3) ∧ ((6 * x1) + x3) < 132) ∧ ((0 ≤ ((6 * x2) + x3) ∧ ((6 * x2) + x3) < 132) ∧ ((0 ≤ ((6 * x1) + x3) ∧ ((6 * x1) + x3) < 132) ∧ ((0 ≤ ((6 * x2) + x3) ∧ ((6 * x2) + x3) < 132) ∧ ((0 ≤ ((6 * x1) + x3) ∧ ((6 * x1) + x3) < 132) ∧ ((0 ≤ ((6 * x2) + x3) ∧ ((6 * x2) + x3) < 132) ∧ ((0 ≤ ((6 * x1) + x3) ∧ ((6 * x1) + x3) < 132) ∧ ((0 ≤ ((6 * x2) + x3) ∧ ((6 * x2) + x3) < 132) ∧ ((0 ≤ ((6 * x1) + x3) ∧ ((6 * x1) + x3) < 132) ∧ ((0 ≤ ((6 * x2) + x3) ∧ ((6 * x2) + x3) < 132) ∧ ((0 ≤ ((6 * x1) + x3) ∧ ((6 * x1) + x3) < 132) ∧ (L_m_copies_38 X d rf Q (zup (zup (zup (zup (zup (zup (zup mem 296 (((6 * x1) + x3)).toNat (mem 296 (((6 * x2) + x3)).toNat)) 297 (((6 * x1) + x3)).toNat (mem 297 (((6 * x2) + x3)).toNat)) 298 (((6 * x1) + x3)).toNat (mem 298 (((6 * x2) + x3)).toNat)) 299 (((6 * x1) + x3)).toNat (mem 299 (((6 * x2) + x3)).toNat)) 300 (((6 * x1) + x3)).toNat (mem 300 (((6 * x2) + x3)).toNat)) 301 (((6 * x1) + x3)).toNat (mem 301 (((6 * x2) + x3)).toNat)) 302 (((6 * x1) + x3)).toNat (mem 302 (((6 * x2) + x3)).toNat)) x1 x2 (x3 + 1)))))))))))))))))) : L_m_copies_38 X d rf Q mem x1 x2 x3 := by
  intro z4 z5
  refine zW.go 2 41 [(2, 261), (0, x1), (0, x2), (0, x3), z4, z5] [(0, 6), (0, x3)] _ rfl ?_
  refine w_ic_ge rfl (by decide) (pc' := 44) rfl ⟨h.1, by decide⟩ (fun c1 => ?_) (fun c1 => ?_)
  · have h := h.2.1 c1
    refine zW.go 1 165 [(2, 261), (0, x1), (0, x2), (0, x3), z4, z5] [(2, 261)] _ rfl ?_
    refine w_getL (q := 261) (v := 303) rfl (by decide) (pc' := 168) rfl ⟨by decide, rfl⟩ rfl rfl (zall_at hR (by decide)) ?_
    refine zW.go 2 170 [(2, 261), (0, x1), (0, x2), (0, x3), z4, z5] [(2, 261), (0, x1), (2, 303)] _ rfl ?_
    refine w_getL (q := 261) (v := 303) rfl (by decide) (pc' := 173) rfl ⟨by decide, rfl⟩ rfl rfl (zall_at hR (by decide)) ?_
    refine zW.go 1 174 [(2, 261), (0, x1), (0, x2), (0, x3), z4, z5] [(0, x2), (2, 303), (0, x1), (2, 303)] _ rfl ?_
    obtain ⟨g, h⟩ := h
    refine w_iald (q := 303) rfl (by decide) (pc' := 175) rfl ⟨by decide, rfl⟩ rfl g rfl ?_
    obtain ⟨g, h⟩ := h
    refine w_iast (q := 303) rfl (by decide) (pc' := 176) rfl ⟨by decide, rfl⟩ rfl g rfl ?_
    refine zW.go 2 178 [(2, 261), (0, x1), (0, x2), (0, 0), z4, z5] [] _ rfl ?_
    exact h z4 z5
  · have h := h.2.2 c1
    refine zW.go 13 61 [(2, 261), (0, x1), (0, x2), (0, x3), (0, ((6 * x1) + x3)), (0, ((6 * x2) + x3))] [(2, 261)] _ rfl ?_
    refine w_getL (q := 261) (v := 296) rfl (by decide) (pc' := 64) rfl ⟨by decide, rfl⟩ rfl rfl (zall_at hR (by decide)) ?_
    refine zW.go 2 67 [(2, 261), (0, x1), (0, x2), (0, x3), (0, ((6 * x1) + x3)), (0, ((6 * x2) + x3))] [(2, 261), (0, ((6 * x1) + x3)), (2, 296)] _ rfl ?_
    refine w_getL (q := 261) (v := 296) rfl (by decide) (pc' := 70) rfl ⟨by decide, rfl⟩ rfl rfl (zall_at hR (by decide)) ?_
    refine zW.go 1 72 [(2, 261), (0, x1), (0, x2), (0, x3), (0, ((6 * x1) + x3)), (0, ((6 * x2) + x3))] [(0, ((6 * x2) + x3)), (2, 296), (0, ((6 * x1) + x3)), (2, 296)] _ rfl ?_
    obtain ⟨g, h⟩ := h
    refine w_iald (q := 296) rfl (by decide) (pc' := 73) rfl ⟨by decide, rfl⟩ rfl g rfl ?_
    obtain ⟨g, h⟩ := h
    refine w_iast (q := 296) rfl (by decide) (pc' := 74) rfl ⟨by decide, rfl⟩ rfl g rfl ?_
    refine zW.go 1 75 [(2, 261), (0, x1), (0, x2), (0, x3), (0, ((6 * x1) + x3)), (0, ((6 * x2) + x3))] [(2, 261)] _ rfl ?_
    refine w_getL (q := 261) (v := 297) rfl (by decide) (pc' := 78) rfl ⟨by decide, rfl⟩ rfl rfl (zall_at hR (by decide)) ?_
    refine zW.go 2 81 [(2, 261), (0, x1), (0, x2), (0, x3), (0, ((6 * x1) + x3)), (0, ((6 * x2) + x3))] [(2, 261), (0, ((6 * x1) + x3)), (2, 297)] _ rfl ?_
    refine w_getL (q := 261) (v := 297) rfl (by decide) (pc' := 84) rfl ⟨by decide, rfl⟩ rfl rfl (zall_at hR (by decide)) ?_
    refine zW.go 1 86 [(2, 261), (0, x1), (0, x2), (0, x3), (0, ((6 * x1) + x3)), (0, ((6 * x2) + x3))] [(0, ((6 * x2) + x3)), (2, 297), (0, ((6 * x1) + x3)), (2, 297)] _ rfl ?_
    obtain ⟨g, h⟩ := h
    refine w_iald (q := 297) rfl (by decide) (pc' := 87) rfl ⟨by decide, rfl⟩ rfl g rfl ?_
    obtain ⟨g, h⟩ := h
    refine w_iast (q := 297) rfl (by decide) (pc' := 88) rfl ⟨by decide, rfl⟩ rfl g rfl ?_
    refine zW.go 1 89 [(2, 261), (0, x1), (0, x2), (0, x3), (0, ((6 * x1) + x3)), (0, ((6 * x2) + x3))] [(2, 261)] _ rfl ?_
    refine w_getL (q := 261) (v := 298) rfl (by decide) (pc' := 92) rfl ⟨by decide, rfl⟩ rfl rfl (zall_at hR (by decide)) ?_
    refine zW.go 2 95 [(2, 261), (0, x1), (0, x2), (0, x3), (0, ((6 * x1) + x3)), (0, ((6 * x2) + x3))] [(2, 261), (0, ((6 * x1) + x3)), (2, 298)] _ rfl ?_
    refine w_getL (q := 261) (v := 298) rfl (by decide) (pc' := 98) rfl ⟨by decide, rfl⟩ rfl rfl (zall_at hR (by decide)) ?_
    refine zW.go 1 100 [(2, 261), (0, x1), (0, x2), (0, x3), (0, ((6 * x1) + x3)), (0, ((6 * x2) + x3))] [(0, ((6 * x2) + x3)), (2, 298), (0, ((6 * x1) + x3)), (2, 298)] _ rfl ?_
    obtain ⟨g, h⟩ := h
    refine w_iald (q := 298) rfl (by decide) (pc' := 101) rfl ⟨by decide, rfl⟩ rfl g rfl ?_
    obtain ⟨g, h⟩ := h
    refine w_iast (q := 298) rfl (by decide) (pc' := 102) rfl ⟨by decide, rfl⟩ rfl g rfl ?_
    refine zW.go 1 103 [(2, 261), (0, x1), (0, x2), (0, x3), (0, ((6 * x1) + x3)), (0, ((6 * x2) + x3))] [(2, 261)] _ rfl ?_
    refine w_getL (q := 261) (v := 299) rfl (by decide) (pc' := 106) rfl ⟨by decide, rfl⟩ rfl rfl (zall_at hR (by decide)) ?_
    refine zW.go 2 109 [(2, 261), (0, x1), (0, x2), (0, x3), (0, ((6 * x1) + x3)), (0, ((6 * x2) + x3))] [(2, 261), (0, ((6 * x1) + x3)), (2, 299)] _ rfl ?_
    refine w_getL (q := 261) (v := 299) rfl (by decide) (pc' := 112) rfl ⟨by decide, rfl⟩ rfl rfl (zall_at hR (by decide)) ?_
    refine zW.go 1 114 [(2, 261), (0, x1), (0, x2), (0, x3), (0, ((6 * x1) + x3)), (0, ((6 * x2) + x3))] [(0, ((6 * x2) + x3)), (2, 299), (0, ((6 * x1) + x3)), (2, 299)] _ rfl ?_
    obtain ⟨g, h⟩ := h
    refine w_iald (q := 299) rfl (by decide) (pc' := 115) rfl ⟨by decide, rfl⟩ rfl g rfl ?_
    obtain ⟨g, h⟩ := h
    refine w_iast (q := 299) rfl (by decide) (pc' := 116) rfl ⟨by decide, rfl⟩ rfl g rfl ?_
    refine zW.go 1 117 [(2, 261), (0, x1), (0, x2), (0, x3), (0, ((6 * x1) + x3)), (0, ((6 * x2) + x3))] [(2, 261)] _ rfl ?_
    refine w_getL (q := 261) (v := 300) rfl (by decide) (pc' := 120) rfl ⟨by decide, rfl⟩ rfl rfl (zall_at hR (by decide)) ?_
    refine zW.go 2 123 [(2, 261), (0, x1), (0, x2), (0, x3), (0, ((6 * x1) + x3)), (0, ((6 * x2) + x3))] [(2, 261), (0, ((6 * x1) + x3)), (2, 300)] _ rfl ?_
    refine w_getL (q := 261) (v := 300) rfl (by decide) (pc' := 126) rfl ⟨by decide, rfl⟩ rfl rfl (zall_at hR (by decide)) ?_
    refine zW.go 1 128 [(2, 261), (0, x1), (0, x2), (0, x3), (0, ((6 * x1) + x3)), (0, ((6 * x2) + x3))] [(0, ((6 * x2) + x3)), (2, 300), (0, ((6 * x1) + x3)), (2, 300)] _ rfl ?_
    obtain ⟨g, h⟩ := h
    refine w_iald (q := 300) rfl (by decide) (pc' := 129) rfl ⟨by decide, rfl⟩ rfl g rfl ?_
    obtain ⟨g, h⟩ := h
    refine w_iast (q := 300) rfl (by decide) (pc' := 130) rfl ⟨by decide, rfl⟩ rfl g rfl ?_
    refine zW.go 1 131 [(2, 261), (0, x1), (0, x2), (0, x3), (0, ((6 * x1) + x3)), (0, ((6 * x2) + x3))] [(2, 261)] _ rfl ?_
    refine w_getL (q := 261) (v := 301) rfl (by decide) (pc' := 134) rfl ⟨by decide, rfl⟩ rfl rfl (zall_at hR (by decide)) ?_
    refine zW.go 2 137 [(2, 261), (0, x1), (0, x2), (0, x3), (0, ((6 * x1) + x3)), (0, ((6 * x2) + x3))] [(2, 261), (0, ((6 * x1) + x3)), (2, 301)] _ rfl ?_
    refine w_getL (q := 261) (v := 301) rfl (by decide) (pc' := 140) rfl ⟨by decide, rfl⟩ rfl rfl (zall_at hR (by decide)) ?_
    refine zW.go 1 142 [(2, 261), (0, x1), (0, x2), (0, x3), (0, ((6 * x1) + x3)), (0, ((6 * x2) + x3))] [(0, ((6 * x2) + x3)), (2, 301), (0, ((6 * x1) + x3)), (2, 301)] _ rfl ?_
    obtain ⟨g, h⟩ := h
    refine w_iald (q := 301) rfl (by decide) (pc' := 143) rfl ⟨by decide, rfl⟩ rfl g rfl ?_
    obtain ⟨g, h⟩ := h
    refine w_iast (q := 301) rfl (by decide) (pc' := 144) rfl ⟨by decide, rfl⟩ rfl g rfl ?_
    refine zW.go 1 145 [(2, 261), (0, x1), (0, x2), (0, x3), (0, ((6 * x1) + x3)), (0, ((6 * x2) + x3))] [(2, 261)] _ rfl ?_
    refine w_getL (q := 261) (v := 302) rfl (by decide) (pc' := 148) rfl ⟨by decide, rfl⟩ rfl rfl (zall_at hR (by decide)) ?_
    refine zW.go 2 151 [(2, 261), (0, x1), (0, x2), (0, x3), (0, ((6 * x1) + x3)), (0, ((6 * x2) + x3))] [(2, 261), (0, ((6 * x1) + x3)), (2, 302)] _ rfl ?_
    refine w_getL (q := 261) (v := 302) rfl (by decide) (pc' := 154) rfl ⟨by decide, rfl⟩ rfl rfl (zall_at hR (by decide)) ?_
    refine zW.go 1 156 [(2, 261), (0, x1), (0, x2), (0, x3), (0, ((6 * x1) + x3)), (0, ((6 * x2) + x3))] [(0, ((6 * x2) + x3)), (2, 302), (0, ((6 * x1) + x3)), (2, 302)] _ rfl ?_
    obtain ⟨g, h⟩ := h
    refine w_iald (q := 302) rfl (by decide) (pc' := 157) rfl ⟨by decide, rfl⟩ rfl g rfl ?_
    obtain ⟨g, h⟩ := h
    refine w_iast (q := 302) rfl (by decide) (pc' := 158) rfl ⟨by decide, rfl⟩ rfl g rfl ?_
    refine zW.go 2 38 [(2, 261), (0, x1), (0, x2), (0, (x3 + 1)), (0, ((6 * x1) + x3)), (0, ((6 * x2) + x3))] [] _ rfl ?_
    exact h (0, ((6 * x1) + x3)) (0, ((6 * x2) + x3))
set_option maxRecDepth 4000 in
theorem s_m_copies_178 {X : zX} {d : Nat} {rf mem : zF} {Q : zF → Prop} (hR : zall rf zRK = true) {x1 : Int} {x2 : Int} {x3 : Int} (h : (0 ≤ x2 ∧ x2 < 22) ∧ ((inI x3 ∧ inI (4 * (mem 303 (x2).toNat))) ∧ (((4 * (mem 303 (x2).toNat)) ≤ x3 → Q mem) ∧ (¬ (4 * (mem 303 (x2).toNat)) ≤ x3 → (0 ≤ ((160 * x2) + x3) ∧ ((160 * x2) + x3) < 3520) ∧ ((0 ≤ ((160 * x1) + x3) ∧ ((160 * x1) + x3) < 3520) ∧ (L_m_copies_178 X d rf Q (zup mem 304 (((160 * x1) + x3)).toNat (mem 304 (((160 * x2) + x3)).toNat)) x1 x2 (x3 + 1))))))) : L_m_copies_178 X d rf Q mem x1 x2 x3 := by
  intro z4 z5
  refine zW.go 3 181 [(2, 261), (0, x1), (0, x2), (0, x3), z4, z5] [(2, 261), (0, 4), (0, x3)] _ rfl ?_
  refine w_getL (q := 261) (v := 303) rfl (by decide) (pc' := 184) rfl ⟨by decide, rfl⟩ rfl rfl (zall_at hR (by decide)) ?_
  refine zW.go 1 185 [(2, 261), (0, x1), (0, x2), (0, x3), z4, z5] [(0, x2), (2, 303), (0, 4), (0, x3)] _ rfl ?_
  obtain ⟨g, h⟩ := h
  refine w_iald (q := 303) rfl (by decide) (pc' := 186) rfl ⟨by decide, rfl⟩ rfl g rfl ?_
  refine zW.go 1 187 [(2, 261), (0, x1), (0, x2), (0, x3), z4, z5] [(0, (4 * (mem 303 (x2).toNat))), (0, x3)] _ rfl ?_
  refine w_ic_ge rfl (by decide) (pc' := 190) rfl h.1 (fun c2 => ?_) (fun c2 => ?_)
  · have h := h.2.1 c2
    exact w_retv rfl rfl h
  · have h := h.2.2 c2
    refine zW.go 1 191 [(2, 261), (0, x1), (0, x2), (0, x3), z4, z5] [(2, 261)] _ rfl ?_
    refine w_getL (q := 261) (v := 304) rfl (by decide) (pc' := 194) rfl ⟨by decide, rfl⟩ rfl rfl (zall_at hR (by decide)) ?_
    refine zW.go 6 202 [(2, 261), (0, x1), (0, x2), (0, x3), z4, z5] [(2, 261), (0, ((160 * x1) + x3)), (2, 304)] _ rfl ?_
    refine w_getL (q := 261) (v := 304) rfl (by decide) (pc' := 205) rfl ⟨by decide, rfl⟩ rfl rfl (zall_at hR (by decide)) ?_
    refine zW.go 5 212 [(2, 261), (0, x1), (0, x2), (0, x3), z4, z5] [(0, ((160 * x2) + x3)), (2, 304), (0, ((160 * x1) + x3)), (2, 304)] _ rfl ?_
    obtain ⟨g, h⟩ := h
    refine w_iald (q := 304) rfl (by decide) (pc' := 213) rfl ⟨by decide, rfl⟩ rfl g rfl ?_
    obtain ⟨g, h⟩ := h
    refine w_iast (q := 304) rfl (by decide) (pc' := 214) rfl ⟨by decide, rfl⟩ rfl g rfl ?_
    refine zW.go 2 178 [(2, 261), (0, x1), (0, x2), (0, (x3 + 1)), z4, z5] [] _ rfl ?_
    exact h z4 z5
set_option maxRecDepth 4000 in
theorem s_m_copies {X : zX} {d : Nat} {rf mem : zF} {Q : zF → Prop} (hR : zall rf zRK = true) {x1 : Int} {x2 : Int} (h : (0 ≤ x2 ∧ x2 < 22) ∧ ((0 ≤ x1 ∧ x1 < 22) ∧ ((0 ≤ x2 ∧ x2 < 22) ∧ ((0 ≤ x1 ∧ x1 < 22) ∧ ((0 ≤ x2 ∧ x2 < 22) ∧ ((0 ≤ x1 ∧ x1 < 22) ∧ (L_m_copies_38 X d rf Q (zup (zup (zup mem 293 (x1).toNat (mem 293 (x2).toNat)) 294 (x1).toNat (mem 294 (x2).toNat)) 295 (x1).toNat (mem 295 (x2).toNat)) x1 x2 0))))))) : Cv X d 242 [(2, 261), (0, x1), (0, x2)] rf mem Q := by
  show zW X d 242 0 [(2, 261), (0, x1), (0, x2), (9, 0), (9, 0), (9, 0)] [] (zty, rf, mem) (qv rf Q)
  refine zW.go 1 1 [(2, 261), (0, x1), (0, x2), (9, 0), (9, 0), (9, 0)] [(2, 261)] _ rfl ?_
  refine w_getL (q := 261) (v := 293) rfl (by decide) (pc' := 4) rfl ⟨by decide, rfl⟩ rfl rfl (zall_at hR (by decide)) ?_
  refine zW.go 2 6 [(2, 261), (0, x1), (0, x2), (9, 0), (9, 0), (9, 0)] [(2, 261), (0, x1), (2, 293)] _ rfl ?_
  refine w_getL (q := 261) (v := 293) rfl (by decide) (pc' := 9) rfl ⟨by decide, rfl⟩ rfl rfl (zall_at hR (by decide)) ?_
  refine zW.go 1 10 [(2, 261), (0, x1), (0, x2), (9, 0), (9, 0), (9, 0)] [(0, x2), (2, 293), (0, x1), (2, 293)] _ rfl ?_
  obtain ⟨g, h⟩ := h
  refine w_iald (q := 293) rfl (by decide) (pc' := 11) rfl ⟨by decide, rfl⟩ rfl g rfl ?_
  obtain ⟨g, h⟩ := h
  refine w_iast (q := 293) rfl (by decide) (pc' := 12) rfl ⟨by decide, rfl⟩ rfl g rfl ?_
  refine zW.go 1 13 [(2, 261), (0, x1), (0, x2), (9, 0), (9, 0), (9, 0)] [(2, 261)] _ rfl ?_
  refine w_getL (q := 261) (v := 294) rfl (by decide) (pc' := 16) rfl ⟨by decide, rfl⟩ rfl rfl (zall_at hR (by decide)) ?_
  refine zW.go 2 18 [(2, 261), (0, x1), (0, x2), (9, 0), (9, 0), (9, 0)] [(2, 261), (0, x1), (2, 294)] _ rfl ?_
  refine w_getL (q := 261) (v := 294) rfl (by decide) (pc' := 21) rfl ⟨by decide, rfl⟩ rfl rfl (zall_at hR (by decide)) ?_
  refine zW.go 1 22 [(2, 261), (0, x1), (0, x2), (9, 0), (9, 0), (9, 0)] [(0, x2), (2, 294), (0, x1), (2, 294)] _ rfl ?_
  obtain ⟨g, h⟩ := h
  refine w_iald (q := 294) rfl (by decide) (pc' := 23) rfl ⟨by decide, rfl⟩ rfl g rfl ?_
  obtain ⟨g, h⟩ := h
  refine w_iast (q := 294) rfl (by decide) (pc' := 24) rfl ⟨by decide, rfl⟩ rfl g rfl ?_
  refine zW.go 1 25 [(2, 261), (0, x1), (0, x2), (9, 0), (9, 0), (9, 0)] [(2, 261)] _ rfl ?_
  refine w_getL (q := 261) (v := 295) rfl (by decide) (pc' := 28) rfl ⟨by decide, rfl⟩ rfl rfl (zall_at hR (by decide)) ?_
  refine zW.go 2 30 [(2, 261), (0, x1), (0, x2), (9, 0), (9, 0), (9, 0)] [(2, 261), (0, x1), (2, 295)] _ rfl ?_
  refine w_getL (q := 261) (v := 295) rfl (by decide) (pc' := 33) rfl ⟨by decide, rfl⟩ rfl rfl (zall_at hR (by decide)) ?_
  refine zW.go 1 34 [(2, 261), (0, x1), (0, x2), (9, 0), (9, 0), (9, 0)] [(0, x2), (2, 295), (0, x1), (2, 295)] _ rfl ?_
  obtain ⟨g, h⟩ := h
  refine w_iald (q := 295) rfl (by decide) (pc' := 35) rfl ⟨by decide, rfl⟩ rfl g rfl ?_
  obtain ⟨g, h⟩ := h
  refine w_iast (q := 295) rfl (by decide) (pc' := 36) rfl ⟨by decide, rfl⟩ rfl g rfl ?_
  refine zW.go 2 38 [(2, 261), (0, x1), (0, x2), (0, 0), (9, 0), (9, 0)] [] _ rfl ?_
  exact h (9, 0) (9, 0)
def L_m_begin_39 (X : zX) (d : Nat) (rf : zF) (Q : zF → Prop) (mem : zF) (x1 : Int) : Prop := zW X d 243 39 [(2, 261), (0, x1)] [] (zty, rf, mem) (qv rf Q)
set_option maxRecDepth 4000 in
theorem s_m_begin_39 {X : zX} {d : Nat} {rf mem : zF} {Q : zF → Prop} (hR : zall rf zRK = true) {x1 : Int} (h : (inI x1) ∧ ((6 ≤ x1 → Q (zup (zup (zup mem 303 0 0) 261 65 0) 261 70 0)) ∧ (¬ 6 ≤ x1 → (0 ≤ ((6 * (mem 261 13)) + x1) ∧ ((6 * (mem 261 13)) + x1) < 12) ∧ ((0 ≤ x1 ∧ x1 < 132) ∧ ((0 ≤ ((6 * (mem 261 13)) + x1) ∧ ((6 * (mem 261 13)) + x1) < 12) ∧ ((0 ≤ x1 ∧ x1 < 132) ∧ ((0 ≤ ((6 * (mem 261 13)) + x1) ∧ ((6 * (mem 261 13)) + x1) < 12) ∧ ((0 ≤ x1 ∧ x1 < 132) ∧ ((0 ≤ ((6 * (mem 261 13)) + x1) ∧ ((6 * (mem 261 13)) + x1) < 12) ∧ ((0 ≤ x1 ∧ x1 < 132) ∧ ((0 ≤ x1 ∧ x1 < 132) ∧ ((0 ≤ x1 ∧ x1 < 132) ∧ ((0 ≤ x1 ∧ x1 < 132) ∧ (L_m_begin_39 X d rf Q (zup (zup (zup (zup (zup (zup (zup mem 296 (x1).toNat (mem 272 (((6 * (mem 261 13)) + x1)).toNat)) 297 (x1).toNat (mem 275 (((6 * (mem 261 13)) + x1)).toNat)) 298 (x1).toNat (mem 276 (((6 * (mem 261 13)) + x1)).toNat)) 299 (x1).toNat (mem 277 (((6 * (mem 261 13)) + x1)).toNat)) 300 (x1).toNat (zshl 1 x1)) 301 (x1).toNat (-1)) 302 (x1).toNat 0) (x1 + 1))))))))))))))) : L_m_begin_39 X d rf Q mem x1 := by
  refine zW.go 2 42 [(2, 261), (0, x1)] [(0, 6), (0, x1)] _ rfl ?_
  refine w_ic_ge rfl (by decide) (pc' := 45) rfl ⟨h.1, by decide⟩ (fun c1 => ?_) (fun c1 => ?_)
  · have h := h.2.1 c1
    refine zW.go 1 155 [(2, 261), (0, x1)] [(2, 261)] _ rfl ?_
    refine w_getL (q := 261) (v := 303) rfl (by decide) (pc' := 158) rfl ⟨by decide, rfl⟩ rfl rfl (zall_at hR (by decide)) ?_
    refine zW.go 2 160 [(2, 261), (0, x1)] [(0, 0), (0, 0), (2, 303)] _ rfl ?_
    refine w_iast (q := 303) rfl (by decide) (pc' := 161) rfl ⟨by decide, rfl⟩ rfl (by decide) rfl ?_
    refine zW.go 2 163 [(2, 261), (0, x1)] [(0, 0), (2, 261)] _ rfl ?_
    refine w_putI (q := 261) rfl (by decide) (pc' := 166) rfl ⟨by decide, rfl⟩ rfl (by decide) ?_
    refine zW.go 2 168 [(2, 261), (0, x1)] [(0, 0), (2, 261)] _ rfl ?_
    refine w_putI (q := 261) rfl (by decide) (pc' := 171) rfl ⟨by decide, rfl⟩ rfl (by decide) ?_
    exact w_retv rfl rfl h
  · have h := h.2.2 c1
    refine zW.go 1 46 [(2, 261), (0, x1)] [(2, 261)] _ rfl ?_
    refine w_getL (q := 261) (v := 296) rfl (by decide) (pc' := 49) rfl ⟨by decide, rfl⟩ rfl rfl (zall_at hR (by decide)) ?_
    refine zW.go 2 51 [(2, 261), (0, x1)] [(2, 261), (0, x1), (2, 296)] _ rfl ?_
    refine w_getL (q := 261) (v := 272) rfl (by decide) (pc' := 54) rfl ⟨by decide, rfl⟩ rfl rfl (zall_at hR (by decide)) ?_
    refine zW.go 2 57 [(2, 261), (0, x1)] [(2, 261), (0, 6), (2, 272), (0, x1), (2, 296)] _ rfl ?_
    refine w_getI (q := 261) rfl (by decide) (pc' := 60) rfl ⟨by decide, rfl⟩ rfl (by decide) ?_
    refine zW.go 3 63 [(2, 261), (0, x1)] [(0, ((6 * (mem 261 13)) + x1)), (2, 272), (0, x1), (2, 296)] _ rfl ?_
    obtain ⟨g, h⟩ := h
    refine w_iald (q := 272) rfl (by decide) (pc' := 64) rfl ⟨by decide, rfl⟩ rfl g rfl ?_
    obtain ⟨g, h⟩ := h
    refine w_iast (q := 296) rfl (by decide) (pc' := 65) rfl ⟨by decide, rfl⟩ rfl g rfl ?_
    refine zW.go 1 66 [(2, 261), (0, x1)] [(2, 261)] _ rfl ?_
    refine w_getL (q := 261) (v := 297) rfl (by decide) (pc' := 69) rfl ⟨by decide, rfl⟩ rfl rfl (zall_at hR (by decide)) ?_
    refine zW.go 2 71 [(2, 261), (0, x1)] [(2, 261), (0, x1), (2, 297)] _ rfl ?_
    refine w_getL (q := 261) (v := 275) rfl (by decide) (pc' := 74) rfl ⟨by decide, rfl⟩ rfl rfl (zall_at hR (by decide)) ?_
    refine zW.go 2 77 [(2, 261), (0, x1)] [(2, 261), (0, 6), (2, 275), (0, x1), (2, 297)] _ rfl ?_
    refine w_getI (q := 261) rfl (by decide) (pc' := 80) rfl ⟨by decide, rfl⟩ rfl (by decide) ?_
    refine zW.go 3 83 [(2, 261), (0, x1)] [(0, ((6 * (mem 261 13)) + x1)), (2, 275), (0, x1), (2, 297)] _ rfl ?_
    obtain ⟨g, h⟩ := h
    refine w_iald (q := 275) rfl (by decide) (pc' := 84) rfl ⟨by decide, rfl⟩ rfl g rfl ?_
    obtain ⟨g, h⟩ := h
    refine w_iast (q := 297) rfl (by decide) (pc' := 85) rfl ⟨by decide, rfl⟩ rfl g rfl ?_
    refine zW.go 1 86 [(2, 261), (0, x1)] [(2, 261)] _ rfl ?_
    refine w_getL (q := 261) (v := 298) rfl (by decide) (pc' := 89) rfl ⟨by decide, rfl⟩ rfl rfl (zall_at hR (by decide)) ?_
    refine zW.go 2 91 [(2, 261), (0, x1)] [(2, 261), (0, x1), (2, 298)] _ rfl ?_
    refine w_getL (q := 261) (v := 276) rfl (by decide) (pc' := 94) rfl ⟨by decide, rfl⟩ rfl rfl (zall_at hR (by decide)) ?_
    refine zW.go 2 97 [(2, 261), (0, x1)] [(2, 261), (0, 6), (2, 276), (0, x1), (2, 298)] _ rfl ?_
    refine w_getI (q := 261) rfl (by decide) (pc' := 100) rfl ⟨by decide, rfl⟩ rfl (by decide) ?_
    refine zW.go 3 103 [(2, 261), (0, x1)] [(0, ((6 * (mem 261 13)) + x1)), (2, 276), (0, x1), (2, 298)] _ rfl ?_
    obtain ⟨g, h⟩ := h
    refine w_iald (q := 276) rfl (by decide) (pc' := 104) rfl ⟨by decide, rfl⟩ rfl g rfl ?_
    obtain ⟨g, h⟩ := h
    refine w_iast (q := 298) rfl (by decide) (pc' := 105) rfl ⟨by decide, rfl⟩ rfl g rfl ?_
    refine zW.go 1 106 [(2, 261), (0, x1)] [(2, 261)] _ rfl ?_
    refine w_getL (q := 261) (v := 299) rfl (by decide) (pc' := 109) rfl ⟨by decide, rfl⟩ rfl rfl (zall_at hR (by decide)) ?_
    refine zW.go 2 111 [(2, 261), (0, x1)] [(2, 261), (0, x1), (2, 299)] _ rfl ?_
    refine w_getL (q := 261) (v := 277) rfl (by decide) (pc' := 114) rfl ⟨by decide, rfl⟩ rfl rfl (zall_at hR (by decide)) ?_
    refine zW.go 2 117 [(2, 261), (0, x1)] [(2, 261), (0, 6), (2, 277), (0, x1), (2, 299)] _ rfl ?_
    refine w_getI (q := 261) rfl (by decide) (pc' := 120) rfl ⟨by decide, rfl⟩ rfl (by decide) ?_
    refine zW.go 3 123 [(2, 261), (0, x1)] [(0, ((6 * (mem 261 13)) + x1)), (2, 277), (0, x1), (2, 299)] _ rfl ?_
    obtain ⟨g, h⟩ := h
    refine w_iald (q := 277) rfl (by decide) (pc' := 124) rfl ⟨by decide, rfl⟩ rfl g rfl ?_
    obtain ⟨g, h⟩ := h
    refine w_iast (q := 299) rfl (by decide) (pc' := 125) rfl ⟨by decide, rfl⟩ rfl g rfl ?_
    refine zW.go 1 126 [(2, 261), (0, x1)] [(2, 261)] _ rfl ?_
    refine w_getL (q := 261) (v := 300) rfl (by decide) (pc' := 129) rfl ⟨by decide, rfl⟩ rfl rfl (zall_at hR (by decide)) ?_
    refine zW.go 4 133 [(2, 261), (0, x1)] [(0, (zshl 1 x1)), (0, x1), (2, 300)] _ rfl ?_
    obtain ⟨g, h⟩ := h
    refine w_iast (q := 300) rfl (by decide) (pc' := 134) rfl ⟨by decide, rfl⟩ rfl g rfl ?_
    refine zW.go 1 135 [(2, 261), (0, x1)] [(2, 261)] _ rfl ?_
    refine w_getL (q := 261) (v := 301) rfl (by decide) (pc' := 138) rfl ⟨by decide, rfl⟩ rfl rfl (zall_at hR (by decide)) ?_
    refine zW.go 2 140 [(2, 261), (0, x1)] [(0, (-1)), (0, x1), (2, 301)] _ rfl ?_
    obtain ⟨g, h⟩ := h
    refine w_iast (q := 301) rfl (by decide) (pc' := 141) rfl ⟨by decide, rfl⟩ rfl g rfl ?_
    refine zW.go 1 142 [(2, 261), (0, x1)] [(2, 261)] _ rfl ?_
    refine w_getL (q := 261) (v := 302) rfl (by decide) (pc' := 145) rfl ⟨by decide, rfl⟩ rfl rfl (zall_at hR (by decide)) ?_
    refine zW.go 2 147 [(2, 261), (0, x1)] [(0, 0), (0, x1), (2, 302)] _ rfl ?_
    obtain ⟨g, h⟩ := h
    refine w_iast (q := 302) rfl (by decide) (pc' := 148) rfl ⟨by decide, rfl⟩ rfl g rfl ?_
    refine zW.go 2 39 [(2, 261), (0, (x1 + 1))] [] _ rfl ?_
    exact h
set_option maxRecDepth 4000 in
theorem s_m_begin {X : zX} {d : Nat} {rf mem : zF} {Q : zF → Prop} (hR : zall rf zRK = true) (h : (0 ≤ (mem 261 13) ∧ (mem 261 13) < 2) ∧ ((0 ≤ (mem 261 13) ∧ (mem 261 13) < 2) ∧ (L_m_begin_39 X d rf Q (zup (zup (zup mem 293 0 0) 294 0 (mem 265 ((mem 261 13)).toNat)) 295 0 (mem 270 ((mem 261 13)).toNat)) 0))) : Cv X d 243 [(2, 261)] rf mem Q := by
  show zW X d 243 0 [(2, 261), (9, 0)] [] (zty, rf, mem) (qv rf Q)
  refine zW.go 1 1 [(2, 261), (9, 0)] [(2, 261)] _ rfl ?_
  refine w_getL (q := 261) (v := 293) rfl (by decide) (pc' := 4) rfl ⟨by decide, rfl⟩ rfl rfl (zall_at hR (by decide)) ?_
  refine zW.go 2 6 [(2, 261), (9, 0)] [(0, 0), (0, 0), (2, 293)] _ rfl ?_
  refine w_iast (q := 293) rfl (by decide) (pc' := 7) rfl ⟨by decide, rfl⟩ rfl (by decide) rfl ?_
  refine zW.go 1 8 [(2, 261), (9, 0)] [(2, 261)] _ rfl ?_
  refine w_getL (q := 261) (v := 294) rfl (by decide) (pc' := 11) rfl ⟨by decide, rfl⟩ rfl rfl (zall_at hR (by decide)) ?_
  refine zW.go 2 13 [(2, 261), (9, 0)] [(2, 261), (0, 0), (2, 294)] _ rfl ?_
  refine w_getL (q := 261) (v := 265) rfl (by decide) (pc' := 16) rfl ⟨by decide, rfl⟩ rfl rfl (zall_at hR (by decide)) ?_
  refine zW.go 1 17 [(2, 261), (9, 0)] [(2, 261), (2, 265), (0, 0), (2, 294)] _ rfl ?_
  refine w_getI (q := 261) rfl (by decide) (pc' := 20) rfl ⟨by decide, rfl⟩ rfl (by decide) ?_
  obtain ⟨g, h⟩ := h
  refine w_iald (q := 265) rfl (by decide) (pc' := 21) rfl ⟨by decide, rfl⟩ rfl g rfl ?_
  refine w_iast (q := 294) rfl (by decide) (pc' := 22) rfl ⟨by decide, rfl⟩ rfl (by decide) rfl ?_
  refine zW.go 1 23 [(2, 261), (9, 0)] [(2, 261)] _ rfl ?_
  refine w_getL (q := 261) (v := 295) rfl (by decide) (pc' := 26) rfl ⟨by decide, rfl⟩ rfl rfl (zall_at hR (by decide)) ?_
  refine zW.go 2 28 [(2, 261), (9, 0)] [(2, 261), (0, 0), (2, 295)] _ rfl ?_
  refine w_getL (q := 261) (v := 270) rfl (by decide) (pc' := 31) rfl ⟨by decide, rfl⟩ rfl rfl (zall_at hR (by decide)) ?_
  refine zW.go 1 32 [(2, 261), (9, 0)] [(2, 261), (2, 270), (0, 0), (2, 295)] _ rfl ?_
  refine w_getI (q := 261) rfl (by decide) (pc' := 35) rfl ⟨by decide, rfl⟩ rfl (by decide) ?_
  obtain ⟨g, h⟩ := h
  refine w_iald (q := 270) rfl (by decide) (pc' := 36) rfl ⟨by decide, rfl⟩ rfl g rfl ?_
  refine w_iast (q := 295) rfl (by decide) (pc' := 37) rfl ⟨by decide, rfl⟩ rfl (by decide) rfl ?_
  refine zW.go 2 39 [(2, 261), (0, 0)] [] _ rfl ?_
  exact h
set_option maxRecDepth 4000 in
theorem s_m_slot {X : zX} {d : Nat} {rf mem : zF} {Q : Int → zF → Prop} (hR : zall rf zRK = true) {x1 : Int} (h : (inI ((mem 261 64) + x1)) ∧ (Q (2 + (((mem 261 64) + x1).tmod 20)) mem)) : Ci X d 244 [(2, 261), (0, x1)] rf mem Q := by
  show zW X d 244 0 [(2, 261), (0, x1)] [] (zty, rf, mem) (qi rf Q)
  refine zW.go 2 2 [(2, 261), (0, x1)] [(2, 261), (0, 2)] _ rfl ?_
  refine w_getI (q := 261) rfl (by decide) (pc' := 5) rfl ⟨by decide, rfl⟩ rfl (by decide) ?_
  refine zW.go 3 9 [(2, 261), (0, x1)] [(0, 20), (0, ((mem 261 64) + x1)), (0, 2)] _ rfl ?_
  obtain ⟨g, h⟩ := h
  refine w_irem rfl (by decide) (pc' := 10) rfl ⟨g, by decide, by decide⟩ ?_
  refine zW.go 1 11 [(2, 261), (0, x1)] [(0, (2 + (((mem 261 64) + x1).tmod 20)))] _ rfl ?_
  exact w_reti rfl rfl h
def L_m_keeps_32 (X : zX) (d : Nat) (rf : zF) (Q : zF → Prop) (mem : zF) : Prop := zW X (d + 1) 245 32 [(2, 261)] [] (zty, rf, mem) (qv rf Q)
set_option maxRecDepth 4000 in
theorem s_m_keeps_32 {X : zX} {d : Nat} {rf mem : zF} {Q : zF → Prop} (hR : zall rf zRK = true) (h : Ci X d 244 [(2, 261), (0, (mem 261 65))] rf mem (fun r2 mem3 => Cv X d 242 [(2, 261), (0, r2), (0, 0)] rf mem3 (fun mem4 => Q (zup mem4 261 65 ((mem4 261 65) + 1))))) : L_m_keeps_32 X d rf Q mem := by
  refine zW.go 3 35 [(2, 261)] [(2, 261), (2, 261), (2, 261)] _ rfl ?_
  refine w_getI (q := 261) rfl (by decide) (pc' := 38) rfl ⟨by decide, rfl⟩ rfl (by decide) ?_
  refine w_calli (as := [(2, 261), (0, (mem 261 65))]) [(2, 261)] 41 rfl rfl rfl rfl (Nat.le_of_ble_eq_true rfl) (Nat.le_of_ble_eq_true rfl) (Nat.le_of_ble_eq_true rfl) (Or.inr rfl) (Ci.imp h (fun r2 mem3 h => ?_))
  refine zW.go 1 42 [(2, 261)] [(0, 0), (0, r2), (2, 261)] _ rfl ?_
  refine w_callv (as := [(2, 261), (0, r2), (0, 0)]) [] 45 rfl rfl rfl rfl (Nat.le_of_ble_eq_true rfl) (Nat.le_of_ble_eq_true rfl) (Nat.le_of_ble_eq_true rfl) (Or.inr rfl) (Cv.imp h (fun mem4 h => ?_))
  refine zW.go 2 47 [(2, 261)] [(2, 261), (2, 261)] _ rfl ?_
  refine w_getI (q := 261) rfl (by decide) (pc' := 50) rfl ⟨by decide, rfl⟩ rfl (by decide) ?_
  refine zW.go 2 52 [(2, 261)] [(0, ((mem4 261 65) + 1)), (2, 261)] _ rfl ?_
  refine w_putI (q := 261) rfl (by decide) (pc' := 55) rfl ⟨by decide, rfl⟩ rfl (by decide) ?_
  exact w_retv rfl rfl h
set_option maxRecDepth 4000 in
theorem s_m_keeps {X : zX} {d : Nat} {rf mem : zF} {Q : zF → Prop} (hR : zall rf zRK = true) (h : (inI (mem 261 65)) ∧ ((¬ (mem 261 65) = 20 → L_m_keeps_32 X d rf Q mem) ∧ ((mem 261 65) = 20 → (inI ((mem 261 64) + 1)) ∧ (L_m_keeps_32 X d rf Q (zup (zup mem 261 64 (((mem 261 64) + 1).tmod 20)) 261 65 ((mem 261 65) - 1)))))) : Cv X (d + 1) 245 [(2, 261)] rf mem Q := by
  show zW X (d + 1) 245 0 [(2, 261)] [] (zty, rf, mem) (qv rf Q)
  refine zW.go 1 1 [(2, 261)] [(2, 261)] _ rfl ?_
  refine w_getI (q := 261) rfl (by decide) (pc' := 4) rfl ⟨by decide, rfl⟩ rfl (by decide) ?_
  refine zW.go 1 6 [(2, 261)] [(0, 20), (0, (mem 261 65))] _ rfl ?_
  refine w_ic_ne rfl (by decide) (pc' := 9) rfl ⟨h.1, by decide⟩ (fun c1 => ?_) (fun c1 => ?_)
  · have h := h.2.1 c1
    exact h
  · have h := h.2.2 c1
    refine zW.go 2 11 [(2, 261)] [(2, 261), (2, 261)] _ rfl ?_
    refine w_getI (q := 261) rfl (by decide) (pc' := 14) rfl ⟨by decide, rfl⟩ rfl (by decide) ?_
    refine zW.go 3 18 [(2, 261)] [(0, 20), (0, ((mem 261 64) + 1)), (2, 261)] _ rfl ?_
    obtain ⟨g, h⟩ := h
    refine w_irem rfl (by decide) (pc' := 19) rfl ⟨g, by decide, by decide⟩ ?_
    refine w_putI (q := 261) rfl (by decide) (pc' := 22) rfl ⟨by decide, rfl⟩ rfl (by decide) ?_
    refine zW.go 2 24 [(2, 261)] [(2, 261), (2, 261)] _ rfl ?_
    refine w_getI (q := 261) rfl (by decide) (pc' := 27) rfl ⟨by decide, rfl⟩ rfl (by decide) ?_
    refine zW.go 2 29 [(2, 261)] [(0, ((mem 261 65) - 1)), (2, 261)] _ rfl ?_
    refine w_putI (q := 261) rfl (by decide) (pc' := 32) rfl ⟨by decide, rfl⟩ rfl (by decide) ?_
    exact h
set_option maxRecDepth 4000 in
theorem s_m_undo {X : zX} {d : Nat} {rf mem : zF} {Q : Int → zF → Prop} (hR : zall rf zRK = true) (h : (inI (mem 261 65)) ∧ ((¬ (mem 261 65) = 0 → Ci X d 244 [(2, 261), (0, ((mem 261 65) - 1))] rf (zup mem 261 65 ((mem 261 65) - 1)) (fun r2 mem3 => Cv X d 242 [(2, 261), (0, 0), (0, r2)] rf mem3 (fun mem4 => Q 1 mem4))) ∧ ((mem 261 65) = 0 → Ci X d 240 [(2, 261), (0, 4)] rf mem (fun r5 mem6 => (inI r5) ∧ ((r5 < 0 → Q 0 mem6) ∧ (¬ r5 < 0 → Q 1 mem6)))))) : Ci X (d + 1) 246 [(2, 261)] rf mem Q := by
  show zW X (d + 1) 246 0 [(2, 261)] [] (zty, rf, mem) (qi rf Q)
  refine zW.go 1 1 [(2, 261)] [(2, 261)] _ rfl ?_
  refine w_getI (q := 261) rfl (by decide) (pc' := 4) rfl ⟨by decide, rfl⟩ rfl (by decide) ?_
  refine w_if_ne rfl (by decide) (pc' := 7) rfl h.1 (fun c1 => ?_) (fun c1 => ?_)
  · have h := h.2.1 c1
    refine zW.go 2 23 [(2, 261)] [(2, 261), (2, 261)] _ rfl ?_
    refine w_getI (q := 261) rfl (by decide) (pc' := 26) rfl ⟨by decide, rfl⟩ rfl (by decide) ?_
    refine zW.go 2 28 [(2, 261)] [(0, ((mem 261 65) - 1)), (2, 261)] _ rfl ?_
    refine w_putI (q := 261) rfl (by decide) (pc' := 31) rfl ⟨by decide, rfl⟩ rfl (by decide) ?_
    refine zW.go 4 35 [(2, 261)] [(2, 261), (2, 261), (0, 0), (2, 261)] _ rfl ?_
    refine w_getI (q := 261) rfl (by decide) (pc' := 38) rfl ⟨by decide, rfl⟩ rfl (by decide) ?_
    refine w_calli (as := [(2, 261), (0, ((mem 261 65) - 1))]) [(0, 0), (2, 261)] 41 rfl rfl rfl rfl (Nat.le_of_ble_eq_true rfl) (Nat.le_of_ble_eq_true rfl) (Nat.le_of_ble_eq_true rfl) (Or.inr rfl) (Ci.imp h (fun r2 mem3 h => ?_))
    refine w_callv (as := [(2, 261), (0, 0), (0, r2)]) [] 44 rfl rfl rfl rfl (Nat.le_of_ble_eq_true rfl) (Nat.le_of_ble_eq_true rfl) (Nat.le_of_ble_eq_true rfl) (Or.inr rfl) (Cv.imp h (fun mem4 h => ?_))
    refine zW.go 1 45 [(2, 261)] [(0, 1)] _ rfl ?_
    exact w_retz rfl rfl (by decide) h
  · have h := h.2.2 c1
    refine zW.go 2 9 [(2, 261)] [(0, 4), (2, 261)] _ rfl ?_
    refine w_calli (as := [(2, 261), (0, 4)]) [] 12 rfl rfl rfl rfl (Nat.le_of_ble_eq_true rfl) (Nat.le_of_ble_eq_true rfl) (Nat.le_of_ble_eq_true rfl) (Or.inr rfl) (Ci.imp h (fun r5 mem6 h => ?_))
    refine w_if_lt rfl (by decide) (pc' := 15) rfl h.1 (fun c7 => ?_) (fun c7 => ?_)
    · have h := h.2.1 c7
      refine zW.go 1 20 [(2, 261)] [(0, 0)] _ rfl ?_
      exact w_retz rfl rfl (by decide) h
    · have h := h.2.2 c7
      refine zW.go 2 20 [(2, 261)] [(0, 1)] _ rfl ?_
      exact w_retz rfl rfl (by decide) h
set_option maxRecDepth 4000 in
theorem s_m_within {X : zX} {d : Nat} {rf mem : zF} {Q : Int → zF → Prop} (hR : zall rf zRK = true) {x0 : Int} (h : (inL x0 ∧ inL 1000000) ∧ ((inI (if x0 < 1000000 then -1 else if x0 = 1000000 then 0 else 1)) ∧ (((if x0 < 1000000 then -1 else if x0 = 1000000 then 0 else 1) ≤ 0 → (inL x0 ∧ inL (-1000000)) ∧ ((inI (if x0 < (-1000000) then -1 else if x0 = (-1000000) then 0 else 1)) ∧ ((0 ≤ (if x0 < (-1000000) then -1 else if x0 = (-1000000) then 0 else 1) → Q x0 mem) ∧ (¬ 0 ≤ (if x0 < (-1000000) then -1 else if x0 = (-1000000) then 0 else 1) → Q (-1000000) mem)))) ∧ (¬ (if x0 < 1000000 then -1 else if x0 = 1000000 then 0 else 1) ≤ 0 → Q 1000000 mem)))) : Cl X d 247 [(1, x0)] rf mem Q := by
  show zW X d 247 0 [(1, x0), (9, 0)] [] (zty, rf, mem) (ql rf Q)
  refine zW.go 2 4 [(1, x0), (9, 0)] [(1, 1000000), (1, x0)] _ rfl ?_
  obtain ⟨g, h⟩ := h
  refine w_lcmp rfl (by decide) (pc' := 5) rfl g ?_
  refine w_if_le rfl (by decide) (pc' := 8) rfl h.1 (fun c1 => ?_) (fun c1 => ?_)
  · have h := h.2.1 c1
    refine zW.go 2 18 [(1, x0), (9, 0)] [(1, (-1000000)), (1, x0)] _ rfl ?_
    obtain ⟨g, h⟩ := h
    refine w_lcmp rfl (by decide) (pc' := 19) rfl g ?_
    refine w_if_ge rfl (by decide) (pc' := 22) rfl h.1 (fun c2 => ?_) (fun c2 => ?_)
    · have h := h.2.1 c2
      refine zW.go 1 29 [(1, x0), (9, 0)] [(1, x0)] _ rfl ?_
      exact w_retl rfl rfl h
    · have h := h.2.2 c2
      refine zW.go 2 29 [(1, x0), (9, 0)] [(1, (-1000000))] _ rfl ?_
      exact w_retl rfl rfl h
  · have h := h.2.2 c1
    refine zW.go 2 29 [(1, x0), (9, 0)] [(1, 1000000)] _ rfl ?_
    exact w_retl rfl rfl h
def L_m_floor_32 (X : zX) (d : Nat) (rf : zF) (Q : Int → zF → Prop) (mem : zF) (x2 : Int) (x4 : Int) (s0 : Int) : Prop := ∀ z0 : zV, ∀ z1 : zV, zW X d 248 32 [z0, z1, (1, x2), (9, 0), (1, x4), (9, 0)] [(0, s0)] (zty, rf, mem) (ql rf Q)
def L_m_floor_43 (X : zX) (d : Nat) (rf : zF) (Q : Int → zF → Prop) (mem : zF) (x4 : Int) (s0 : Int) (s1 : Int) : Prop := ∀ z0 : zV, ∀ z1 : zV, ∀ z2 : zV, ∀ z3 : zV, zW X d 248 43 [z0, z1, z2, z3, (1, x4), (9, 0)] [(0, s1), (0, s0)] (zty, rf, mem) (ql rf Q)
set_option maxRecDepth 4000 in
theorem s_m_floor_32 {X : zX} {d : Nat} {rf mem : zF} {Q : Int → zF → Prop} (hR : zall rf zRK = true) {x2 : Int} {x4 : Int} {s0 : Int} (h : (inL x2 ∧ inL 0) ∧ ((inI (if x2 < 0 then -1 else if x2 = 0 then 0 else 1)) ∧ ((0 ≤ (if x2 < 0 then -1 else if x2 = 0 then 0 else 1) → L_m_floor_43 X d rf Q mem x4 s0 0) ∧ (¬ 0 ≤ (if x2 < 0 then -1 else if x2 = 0 then 0 else 1) → L_m_floor_43 X d rf Q mem x4 s0 1)))) : L_m_floor_32 X d rf Q mem x2 x4 s0 := by
  intro z0 z1
  refine zW.go 2 34 [z0, z1, (1, x2), (9, 0), (1, x4), (9, 0)] [(1, 0), (1, x2), (0, s0)] _ rfl ?_
  obtain ⟨g, h⟩ := h
  refine w_lcmp rfl (by decide) (pc' := 35) rfl g ?_
  refine w_if_ge rfl (by decide) (pc' := 38) rfl h.1 (fun c4 => ?_) (fun c4 => ?_)
  · have h := h.2.1 c4
    refine zW.go 1 43 [z0, z1, (1, x2), (9, 0), (1, x4), (9, 0)] [(0, 0), (0, s0)] _ rfl ?_
    exact h z0 z1 (1, x2) (9, 0)
  · have h := h.2.2 c4
    refine zW.go 2 43 [z0, z1, (1, x2), (9, 0), (1, x4), (9, 0)] [(0, 1), (0, s0)] _ rfl ?_
    exact h z0 z1 (1, x2) (9, 0)
set_option maxRecDepth 4000 in
theorem s_m_floor_43 {X : zX} {d : Nat} {rf mem : zF} {Q : Int → zF → Prop} (hR : zall rf zRK = true) {x4 : Int} {s0 : Int} {s1 : Int} (h : (inI s0 ∧ inI s1) ∧ ((s0 = s1 → Q x4 mem) ∧ (¬ s0 = s1 → Q (x4 - 1) mem))) : L_m_floor_43 X d rf Q mem x4 s0 s1 := by
  intro z0 z1 z2 z3
  refine w_ic_eq rfl (by decide) (pc' := 46) rfl h.1 (fun c5 => ?_) (fun c5 => ?_)
  · have h := h.2.1 c5
    refine zW.go 1 55 [z0, z1, z2, z3, (1, x4), (9, 0)] [(1, x4)] _ rfl ?_
    exact w_retl rfl rfl h
  · have h := h.2.2 c5
    refine zW.go 4 55 [z0, z1, z2, z3, (1, x4), (9, 0)] [(1, (x4 - 1))] _ rfl ?_
    exact w_retl rfl rfl h
set_option maxRecDepth 4000 in
theorem s_m_floor {X : zX} {d : Nat} {rf mem : zF} {Q : Int → zF → Prop} (hR : zall rf zRK = true) {x0 : Int} {x2 : Int} (h : (inL x2 ∧ inL 0) ∧ ((inI (if x2 < 0 then -1 else if x2 = 0 then 0 else 1)) ∧ ((¬ (if x2 < 0 then -1 else if x2 = 0 then 0 else 1) = 0 → (inL x0 ∧ inL x2 ∧ x2 ≠ 0) ∧ ((inL x0 ∧ inL x2 ∧ x2 ≠ 0) ∧ ((inL (x0.tmod x2) ∧ inL 0) ∧ ((inI (if (x0.tmod x2) < 0 then -1 else if (x0.tmod x2) = 0 then 0 else 1)) ∧ (((if (x0.tmod x2) < 0 then -1 else if (x0.tmod x2) = 0 then 0 else 1) = 0 → Q (x0.tdiv x2) mem) ∧ (¬ (if (x0.tmod x2) < 0 then -1 else if (x0.tmod x2) = 0 then 0 else 1) = 0 → (inL x0 ∧ inL 0) ∧ ((inI (if x0 < 0 then -1 else if x0 = 0 then 0 else 1)) ∧ ((0 ≤ (if x0 < 0 then -1 else if x0 = 0 then 0 else 1) → L_m_floor_32 X d rf Q mem x2 (x0.tdiv x2) 0) ∧ (¬ 0 ≤ (if x0 < 0 then -1 else if x0 = 0 then 0 else 1) → L_m_floor_32 X d rf Q mem x2 (x0.tdiv x2) 1))))))))) ∧ ((if x2 < 0 then -1 else if x2 = 0 then 0 else 1) = 0 → Q 0 mem)))) : Cl X d 248 [(1, x0), (1, x2)] rf mem Q := by
  show zW X d 248 0 [(1, x0), (9, 0), (1, x2), (9, 0), (9, 0), (9, 0)] [] (zty, rf, mem) (ql rf Q)
  refine zW.go 2 2 [(1, x0), (9, 0), (1, x2), (9, 0), (9, 0), (9, 0)] [(1, 0), (1, x2)] _ rfl ?_
  obtain ⟨g, h⟩ := h
  refine w_lcmp rfl (by decide) (pc' := 3) rfl g ?_
  refine w_if_ne rfl (by decide) (pc' := 6) rfl h.1 (fun c1 => ?_) (fun c1 => ?_)
  · have h := h.2.1 c1
    refine zW.go 2 10 [(1, x0), (9, 0), (1, x2), (9, 0), (9, 0), (9, 0)] [(1, x2), (1, x0)] _ rfl ?_
    obtain ⟨g, h⟩ := h
    refine w_ldiv rfl (by decide) (pc' := 11) rfl g ?_
    refine zW.go 3 15 [(1, x0), (9, 0), (1, x2), (9, 0), (1, (x0.tdiv x2)), (9, 0)] [(1, x2), (1, x0)] _ rfl ?_
    obtain ⟨g, h⟩ := h
    refine w_lrem rfl (by decide) (pc' := 16) rfl g ?_
    refine zW.go 1 17 [(1, x0), (9, 0), (1, x2), (9, 0), (1, (x0.tdiv x2)), (9, 0)] [(1, 0), (1, (x0.tmod x2))] _ rfl ?_
    obtain ⟨g, h⟩ := h
    refine w_lcmp rfl (by decide) (pc' := 18) rfl g ?_
    refine w_if_eq rfl (by decide) (pc' := 21) rfl h.1 (fun c2 => ?_) (fun c2 => ?_)
    · have h := h.2.1 c2
      refine zW.go 1 55 [(1, x0), (9, 0), (1, x2), (9, 0), (1, (x0.tdiv x2)), (9, 0)] [(1, (x0.tdiv x2))] _ rfl ?_
      exact w_retl rfl rfl h
    · have h := h.2.2 c2
      refine zW.go 2 23 [(1, x0), (9, 0), (1, x2), (9, 0), (1, (x0.tdiv x2)), (9, 0)] [(1, 0), (1, x0)] _ rfl ?_
      obtain ⟨g, h⟩ := h
      refine w_lcmp rfl (by decide) (pc' := 24) rfl g ?_
      refine w_if_ge rfl (by decide) (pc' := 27) rfl h.1 (fun c3 => ?_) (fun c3 => ?_)
      · have h := h.2.1 c3
        refine zW.go 1 32 [(1, x0), (9, 0), (1, x2), (9, 0), (1, (x0.tdiv x2)), (9, 0)] [(0, 0)] _ rfl ?_
        exact h (1, x0) (9, 0)
      · have h := h.2.2 c3
        refine zW.go 2 32 [(1, x0), (9, 0), (1, x2), (9, 0), (1, (x0.tdiv x2)), (9, 0)] [(0, 1)] _ rfl ?_
        exact h (1, x0) (9, 0)
  · have h := h.2.2 c1
    refine zW.go 1 7 [(1, x0), (9, 0), (1, x2), (9, 0), (9, 0), (9, 0)] [(1, 0)] _ rfl ?_
    exact w_retl rfl rfl h
set_option maxRecDepth 4000 in
theorem s_m_two {X : zX} {d : Nat} {rf mem : zF} {Q : Int → zF → Prop} (hR : zall rf zRK = true) {x0 : Int} {x1 : Int} {x3 : Int} (h : (inI x0) ∧ ((x0 = 31 → Cl X d 247 [(1, (x1 + x3))] rf mem (fun r1 mem2 => Q r1 mem2)) ∧ (x0 = 32 → Cl X d 247 [(1, (x1 - x3))] rf mem (fun r3 mem4 => Q r3 mem4)) ∧ (x0 = 33 → Cl X d 247 [(1, (x1 * x3))] rf mem (fun r5 mem6 => Q r5 mem6)) ∧ (x0 = 34 → Cl X d 248 [(1, x1), (1, x3)] rf mem (fun r7 mem8 => Cl X d 247 [(1, r7)] rf mem8 (fun r9 mem10 => Q r9 mem10))) ∧ (x0 = 35 → (inL x3 ∧ inL 0) ∧ ((inI (if x3 < 0 then -1 else if x3 = 0 then 0 else 1)) ∧ ((¬ (if x3 < 0 then -1 else if x3 = 0 then 0 else 1) = 0 → Cl X d 248 [(1, x1), (1, x3)] rf mem (fun r12 mem13 => Cl X d 247 [(1, (x1 - (x3 * r12)))] rf mem13 (fun r14 mem15 => Q r14 mem15))) ∧ ((if x3 < 0 then -1 else if x3 = 0 then 0 else 1) = 0 → Q 0 mem)))) ∧ (x0 = 36 → (inL x1 ∧ inL x3) ∧ ((inI (if x1 < x3 then -1 else if x1 = x3 then 0 else 1)) ∧ ((0 ≤ (if x1 < x3 then -1 else if x1 = x3 then 0 else 1) → Q x3 mem) ∧ (¬ 0 ≤ (if x1 < x3 then -1 else if x1 = x3 then 0 else 1) → Q x1 mem)))) ∧ (x0 = 37 → (inL x1 ∧ inL x3) ∧ ((inI (if x1 < x3 then -1 else if x1 = x3 then 0 else 1)) ∧ (((if x1 < x3 then -1 else if x1 = x3 then 0 else 1) ≤ 0 → Q x3 mem) ∧ (¬ (if x1 < x3 then -1 else if x1 = x3 then 0 else 1) ≤ 0 → Q x1 mem)))) ∧ (x0 = 38 → (inL x1 ∧ inL x3) ∧ ((inI (if x1 < x3 then -1 else if x1 = x3 then 0 else 1)) ∧ ((0 ≤ (if x1 < x3 then -1 else if x1 = x3 then 0 else 1) → Q 0 mem) ∧ (¬ 0 ≤ (if x1 < x3 then -1 else if x1 = x3 then 0 else 1) → Q 1 mem)))) ∧ (x0 = 39 → (inL x1 ∧ inL x3) ∧ ((inI (if x1 < x3 then -1 else if x1 = x3 then 0 else 1)) ∧ (((if x1 < x3 then -1 else if x1 = x3 then 0 else 1) ≤ 0 → Q 0 mem) ∧ (¬ (if x1 < x3 then -1 else if x1 = x3 then 0 else 1) ≤ 0 → Q 1 mem)))) ∧ (x0 = 40 → (inL x1 ∧ inL x3) ∧ ((inI (if x1 < x3 then -1 else if x1 = x3 then 0 else 1)) ∧ ((¬ (if x1 < x3 then -1 else if x1 = x3 then 0 else 1) = 0 → Q 0 mem) ∧ ((if x1 < x3 then -1 else if x1 = x3 then 0 else 1) = 0 → Q 1 mem)))) ∧ (x0 = 41 → Q (zlan x1 x3) mem) ∧ ((x0 ≠ 31 ∧ x0 ≠ 32 ∧ x0 ≠ 33 ∧ x0 ≠ 34 ∧ x0 ≠ 35 ∧ x0 ≠ 36 ∧ x0 ≠ 37 ∧ x0 ≠ 38 ∧ x0 ≠ 39 ∧ x0 ≠ 40 ∧ x0 ≠ 41) → Q (zlor x1 x3) mem))) : Cl X (d + 1) 249 [(0, x0), (1, x1), (1, x3)] rf mem Q := by
  show zW X (d + 1) 249 0 [(0, x0), (1, x1), (9, 0), (1, x3), (9, 0)] [] (zty, rf, mem) (ql rf Q)
  refine zW.go 1 1 [(0, x0), (1, x1), (9, 0), (1, x3), (9, 0)] [(0, x0)] _ rfl ?_
  obtain ⟨g, h⟩ := h
  by_cases e0 : x0 = 31
  · refine w_tabIn 60 rfl (by decide) g (by omega) (by rw [e0]; rfl) rfl ?_
    have h := h.1 e0
    refine zW.go 3 63 [(0, x0), (1, x1), (9, 0), (1, x3), (9, 0)] [(1, (x1 + x3))] _ rfl ?_
    refine w_calll (as := [(1, (x1 + x3))]) [] 66 rfl rfl rfl rfl (Nat.le_of_ble_eq_true rfl) (Nat.le_of_ble_eq_true rfl) (Nat.le_of_ble_eq_true rfl) (Or.inl rfl) (Cl.imp h (fun r1 mem2 h => ?_))
    exact w_retl rfl rfl h
  · by_cases e1 : x0 = 32
    · refine w_tabIn 67 rfl (by decide) g (by omega) (by rw [e1]; rfl) rfl ?_
      have h := h.2.1 e1
      refine zW.go 3 70 [(0, x0), (1, x1), (9, 0), (1, x3), (9, 0)] [(1, (x1 - x3))] _ rfl ?_
      refine w_calll (as := [(1, (x1 - x3))]) [] 73 rfl rfl rfl rfl (Nat.le_of_ble_eq_true rfl) (Nat.le_of_ble_eq_true rfl) (Nat.le_of_ble_eq_true rfl) (Or.inl rfl) (Cl.imp h (fun r3 mem4 h => ?_))
      exact w_retl rfl rfl h
    · by_cases e2 : x0 = 33
      · refine w_tabIn 74 rfl (by decide) g (by omega) (by rw [e2]; rfl) rfl ?_
        have h := h.2.2.1 e2
        refine zW.go 3 77 [(0, x0), (1, x1), (9, 0), (1, x3), (9, 0)] [(1, (x1 * x3))] _ rfl ?_
        refine w_calll (as := [(1, (x1 * x3))]) [] 80 rfl rfl rfl rfl (Nat.le_of_ble_eq_true rfl) (Nat.le_of_ble_eq_true rfl) (Nat.le_of_ble_eq_true rfl) (Or.inl rfl) (Cl.imp h (fun r5 mem6 h => ?_))
        exact w_retl rfl rfl h
      · by_cases e3 : x0 = 34
        · refine w_tabIn 81 rfl (by decide) g (by omega) (by rw [e3]; rfl) rfl ?_
          have h := h.2.2.2.1 e3
          refine zW.go 2 83 [(0, x0), (1, x1), (9, 0), (1, x3), (9, 0)] [(1, x3), (1, x1)] _ rfl ?_
          refine w_calll (as := [(1, x1), (1, x3)]) [] 86 rfl rfl rfl rfl (Nat.le_of_ble_eq_true rfl) (Nat.le_of_ble_eq_true rfl) (Nat.le_of_ble_eq_true rfl) (Or.inl rfl) (Cl.imp h (fun r7 mem8 h => ?_))
          refine w_calll (as := [(1, r7)]) [] 89 rfl rfl rfl rfl (Nat.le_of_ble_eq_true rfl) (Nat.le_of_ble_eq_true rfl) (Nat.le_of_ble_eq_true rfl) (Or.inl rfl) (Cl.imp h (fun r9 mem10 h => ?_))
          exact w_retl rfl rfl h
        · by_cases e4 : x0 = 35
          · refine w_tabIn 90 rfl (by decide) g (by omega) (by rw [e4]; rfl) rfl ?_
            have h := h.2.2.2.2.1 e4
            refine zW.go 2 92 [(0, x0), (1, x1), (9, 0), (1, x3), (9, 0)] [(1, 0), (1, x3)] _ rfl ?_
            obtain ⟨g, h⟩ := h
            refine w_lcmp rfl (by decide) (pc' := 93) rfl g ?_
            refine w_if_ne rfl (by decide) (pc' := 96) rfl h.1 (fun c11 => ?_) (fun c11 => ?_)
            · have h := h.2.1 c11
              refine zW.go 4 104 [(0, x0), (1, x1), (9, 0), (1, x3), (9, 0)] [(1, x3), (1, x1), (1, x3), (1, x1)] _ rfl ?_
              refine w_calll (as := [(1, x1), (1, x3)]) [(1, x3), (1, x1)] 107 rfl rfl rfl rfl (Nat.le_of_ble_eq_true rfl) (Nat.le_of_ble_eq_true rfl) (Nat.le_of_ble_eq_true rfl) (Or.inl rfl) (Cl.imp h (fun r12 mem13 h => ?_))
              refine zW.go 2 109 [(0, x0), (1, x1), (9, 0), (1, x3), (9, 0)] [(1, (x1 - (x3 * r12)))] _ rfl ?_
              refine w_calll (as := [(1, (x1 - (x3 * r12)))]) [] 112 rfl rfl rfl rfl (Nat.le_of_ble_eq_true rfl) (Nat.le_of_ble_eq_true rfl) (Nat.le_of_ble_eq_true rfl) (Or.inl rfl) (Cl.imp h (fun r14 mem15 h => ?_))
              exact w_retl rfl rfl h
            · have h := h.2.2 c11
              refine zW.go 2 112 [(0, x0), (1, x1), (9, 0), (1, x3), (9, 0)] [(1, 0)] _ rfl ?_
              exact w_retl rfl rfl h
          · by_cases e5 : x0 = 36
            · refine w_tabIn 113 rfl (by decide) g (by omega) (by rw [e5]; rfl) rfl ?_
              have h := h.2.2.2.2.2.1 e5
              refine zW.go 2 115 [(0, x0), (1, x1), (9, 0), (1, x3), (9, 0)] [(1, x3), (1, x1)] _ rfl ?_
              obtain ⟨g, h⟩ := h
              refine w_lcmp rfl (by decide) (pc' := 116) rfl g ?_
              refine w_if_ge rfl (by decide) (pc' := 119) rfl h.1 (fun c16 => ?_) (fun c16 => ?_)
              · have h := h.2.1 c16
                refine zW.go 1 124 [(0, x0), (1, x1), (9, 0), (1, x3), (9, 0)] [(1, x3)] _ rfl ?_
                exact w_retl rfl rfl h
              · have h := h.2.2 c16
                refine zW.go 2 124 [(0, x0), (1, x1), (9, 0), (1, x3), (9, 0)] [(1, x1)] _ rfl ?_
                exact w_retl rfl rfl h
            · by_cases e6 : x0 = 37
              · refine w_tabIn 125 rfl (by decide) g (by omega) (by rw [e6]; rfl) rfl ?_
                have h := h.2.2.2.2.2.2.1 e6
                refine zW.go 2 127 [(0, x0), (1, x1), (9, 0), (1, x3), (9, 0)] [(1, x3), (1, x1)] _ rfl ?_
                obtain ⟨g, h⟩ := h
                refine w_lcmp rfl (by decide) (pc' := 128) rfl g ?_
                refine w_if_le rfl (by decide) (pc' := 131) rfl h.1 (fun c17 => ?_) (fun c17 => ?_)
                · have h := h.2.1 c17
                  refine zW.go 1 136 [(0, x0), (1, x1), (9, 0), (1, x3), (9, 0)] [(1, x3)] _ rfl ?_
                  exact w_retl rfl rfl h
                · have h := h.2.2 c17
                  refine zW.go 2 136 [(0, x0), (1, x1), (9, 0), (1, x3), (9, 0)] [(1, x1)] _ rfl ?_
                  exact w_retl rfl rfl h
              · by_cases e7 : x0 = 38
                · refine w_tabIn 137 rfl (by decide) g (by omega) (by rw [e7]; rfl) rfl ?_
                  have h := h.2.2.2.2.2.2.2.1 e7
                  refine zW.go 2 139 [(0, x0), (1, x1), (9, 0), (1, x3), (9, 0)] [(1, x3), (1, x1)] _ rfl ?_
                  obtain ⟨g, h⟩ := h
                  refine w_lcmp rfl (by decide) (pc' := 140) rfl g ?_
                  refine w_if_ge rfl (by decide) (pc' := 143) rfl h.1 (fun c18 => ?_) (fun c18 => ?_)
                  · have h := h.2.1 c18
                    refine zW.go 1 148 [(0, x0), (1, x1), (9, 0), (1, x3), (9, 0)] [(1, 0)] _ rfl ?_
                    exact w_retl rfl rfl h
                  · have h := h.2.2 c18
                    refine zW.go 2 148 [(0, x0), (1, x1), (9, 0), (1, x3), (9, 0)] [(1, 1)] _ rfl ?_
                    exact w_retl rfl rfl h
                · by_cases e8 : x0 = 39
                  · refine w_tabIn 149 rfl (by decide) g (by omega) (by rw [e8]; rfl) rfl ?_
                    have h := h.2.2.2.2.2.2.2.2.1 e8
                    refine zW.go 2 151 [(0, x0), (1, x1), (9, 0), (1, x3), (9, 0)] [(1, x3), (1, x1)] _ rfl ?_
                    obtain ⟨g, h⟩ := h
                    refine w_lcmp rfl (by decide) (pc' := 152) rfl g ?_
                    refine w_if_le rfl (by decide) (pc' := 155) rfl h.1 (fun c19 => ?_) (fun c19 => ?_)
                    · have h := h.2.1 c19
                      refine zW.go 1 160 [(0, x0), (1, x1), (9, 0), (1, x3), (9, 0)] [(1, 0)] _ rfl ?_
                      exact w_retl rfl rfl h
                    · have h := h.2.2 c19
                      refine zW.go 2 160 [(0, x0), (1, x1), (9, 0), (1, x3), (9, 0)] [(1, 1)] _ rfl ?_
                      exact w_retl rfl rfl h
                  · by_cases e9 : x0 = 40
                    · refine w_tabIn 161 rfl (by decide) g (by omega) (by rw [e9]; rfl) rfl ?_
                      have h := h.2.2.2.2.2.2.2.2.2.1 e9
                      refine zW.go 2 163 [(0, x0), (1, x1), (9, 0), (1, x3), (9, 0)] [(1, x3), (1, x1)] _ rfl ?_
                      obtain ⟨g, h⟩ := h
                      refine w_lcmp rfl (by decide) (pc' := 164) rfl g ?_
                      refine w_if_ne rfl (by decide) (pc' := 167) rfl h.1 (fun c20 => ?_) (fun c20 => ?_)
                      · have h := h.2.1 c20
                        refine zW.go 1 172 [(0, x0), (1, x1), (9, 0), (1, x3), (9, 0)] [(1, 0)] _ rfl ?_
                        exact w_retl rfl rfl h
                      · have h := h.2.2 c20
                        refine zW.go 2 172 [(0, x0), (1, x1), (9, 0), (1, x3), (9, 0)] [(1, 1)] _ rfl ?_
                        exact w_retl rfl rfl h
                    · by_cases e10 : x0 = 41
                      · refine w_tabIn 173 rfl (by decide) g (by omega) (by rw [e10]; rfl) rfl ?_
                        have h := h.2.2.2.2.2.2.2.2.2.2.1 e10
                        refine zW.go 3 176 [(0, x0), (1, x1), (9, 0), (1, x3), (9, 0)] [(1, (zlan x1 x3))] _ rfl ?_
                        exact w_retl rfl rfl h
                      · refine w_tabOut 177 rfl (by decide) g (by omega) rfl ?_
                        have h := h.2.2.2.2.2.2.2.2.2.2.2 ⟨e0, e1, e2, e3, e4, e5, e6, e7, e8, e9, e10⟩
                        refine zW.go 3 180 [(0, x0), (1, x1), (9, 0), (1, x3), (9, 0)] [(1, (zlor x1 x3))] _ rfl ?_
                        exact w_retl rfl rfl h
def L_m_reckons_25 (X : zX) (d : Nat) (rf : zF) (Q : Int → zF → Prop) (mem : zF) (x1 : Int) (x2 : Int) (x3 : Int) : Prop := ∀ z4 : zV, zW X (d + 1) 250 25 [(2, 261), (0, x1), (0, x2), (0, x3), z4] [] (zty, rf, mem) (ql rf Q)
set_option maxRecDepth 4000 in
theorem s_m_reckons_25 {X : zX} {d : Nat} {rf mem : zF} {Q : Int → zF → Prop} (hR : zall rf zRK = true) {x1 : Int} {x2 : Int} {x3 : Int} (h : (0 ≤ ((3 * (mem 261 13)) + x1) ∧ ((3 * (mem 261 13)) + x1) < 6) ∧ ((inI x3 ∧ inI ((1600 * (mem 261 13)) + (mem 280 (((3 * (mem 261 13)) + x1)).toNat))) ∧ ((((1600 * (mem 261 13)) + (mem 280 (((3 * (mem 261 13)) + x1)).toNat)) ≤ x3 → Q (mem 305 0) mem) ∧ (¬ ((1600 * (mem 261 13)) + (mem 280 (((3 * (mem 261 13)) + x1)).toNat)) ≤ x3 → (0 ≤ x3 ∧ x3 < 3200) ∧ ((inI (mem 281 (x3).toNat)) ∧ ((30 < (mem 281 (x3).toNat) → (inI (mem 281 (x3).toNat)) ∧ ((¬ (mem 281 (x3).toNat) = 43 → (inI (mem 281 (x3).toNat)) ∧ ((¬ (mem 281 (x3).toNat) = 44 → (0 ≤ ((x2 + (-1)) - 1) ∧ ((x2 + (-1)) - 1) < 500) ∧ ((0 ≤ (x2 + (-1)) ∧ (x2 + (-1)) < 500) ∧ (Cl X d 249 [(0, (mem 281 (x3).toNat)), (1, (mem 305 (((x2 + (-1)) - 1)).toNat)), (1, (mem 305 ((x2 + (-1))).toNat))] rf mem (fun r5 mem6 => (0 ≤ ((x2 + (-1)) - 1) ∧ ((x2 + (-1)) - 1) < 500) ∧ (L_m_reckons_25 X d rf Q (zup mem6 305 (((x2 + (-1)) - 1)).toNat r5) x1 (x2 + (-1)) (x3 + 1)))))) ∧ ((mem 281 (x3).toNat) = 44 → (0 ≤ ((x2 + (-2)) - 1) ∧ ((x2 + (-2)) - 1) < 500) ∧ ((inL (mem 305 (((x2 + (-2)) - 1)).toNat) ∧ inL 1) ∧ ((inI (if (mem 305 (((x2 + (-2)) - 1)).toNat) < 1 then -1 else if (mem 305 (((x2 + (-2)) - 1)).toNat) = 1 then 0 else 1)) ∧ ((¬ (if (mem 305 (((x2 + (-2)) - 1)).toNat) < 1 then -1 else if (mem 305 (((x2 + (-2)) - 1)).toNat) = 1 then 0 else 1) = 0 → (0 ≤ ((x2 + (-2)) + 1) ∧ ((x2 + (-2)) + 1) < 500) ∧ ((0 ≤ ((x2 + (-2)) - 1) ∧ ((x2 + (-2)) - 1) < 500) ∧ (L_m_reckons_25 X d rf Q (zup mem 305 (((x2 + (-2)) - 1)).toNat (mem 305 (((x2 + (-2)) + 1)).toNat)) x1 (x2 + (-2)) (x3 + 1)))) ∧ ((if (mem 305 (((x2 + (-2)) - 1)).toNat) < 1 then -1 else if (mem 305 (((x2 + (-2)) - 1)).toNat) = 1 then 0 else 1) = 0 → (0 ≤ (x2 + (-2)) ∧ (x2 + (-2)) < 500) ∧ ((0 ≤ ((x2 + (-2)) - 1) ∧ ((x2 + (-2)) - 1) < 500) ∧ (L_m_reckons_25 X d rf Q (zup mem 305 (((x2 + (-2)) - 1)).toNat (mem 305 ((x2 + (-2))).toNat)) x1 (x2 + (-2)) (x3 + 1)))))))))) ∧ ((mem 281 (x3).toNat) = 43 → (0 ≤ (x2 - 1) ∧ (x2 - 1) < 500) ∧ ((0 ≤ (x2 - 1) ∧ (x2 - 1) < 500) ∧ (L_m_reckons_25 X d rf Q (zup mem 305 ((x2 - 1)).toNat (1 - (mem 305 ((x2 - 1)).toNat))) x1 x2 (x3 + 1)))))) ∧ (¬ 30 < (mem 281 (x3).toNat) → (inI (mem 281 (x3).toNat)) ∧ ((¬ (mem 281 (x3).toNat) = 0 → (inI (mem 281 (x3).toNat)) ∧ ((¬ (mem 281 (x3).toNat) = 30 → (0 ≤ (mem 281 (x3).toNat) ∧ (mem 281 (x3).toNat) < 10) ∧ ((inI (mem 306 ((mem 281 (x3).toNat)).toNat)) ∧ ((0 ≤ x2 ∧ x2 < 500) ∧ (L_m_reckons_25 X d rf Q (zup mem 305 (x2).toNat (mem 306 ((mem 281 (x3).toNat)).toNat)) x1 (x2 + 1) (x3 + 1))))) ∧ ((mem 281 (x3).toNat) = 30 → (0 ≤ x2 ∧ x2 < 500) ∧ (L_m_reckons_25 X d rf Q (zup mem 305 (x2).toNat 1) x1 (x2 + 1) (x3 + 1))))) ∧ ((mem 281 (x3).toNat) = 0 → (0 ≤ x3 ∧ x3 < 3200) ∧ ((inI (mem 282 (x3).toNat)) ∧ ((0 ≤ x2 ∧ x2 < 500) ∧ (L_m_reckons_25 X d rf Q (zup mem 305 (x2).toNat (mem 282 (x3).toNat)) x1 (x2 + 1) (x3 + 1))))))))))))) : L_m_reckons_25 X d rf Q mem x1 x2 x3 := by
  intro z4
  refine zW.go 3 30 [(2, 261), (0, x1), (0, x2), (0, x3), z4] [(2, 261), (0, 1600), (0, x3)] _ rfl ?_
  refine w_getI (q := 261) rfl (by decide) (pc' := 33) rfl ⟨by decide, rfl⟩ rfl (by decide) ?_
  refine zW.go 2 35 [(2, 261), (0, x1), (0, x2), (0, x3), z4] [(2, 261), (0, (1600 * (mem 261 13))), (0, x3)] _ rfl ?_
  refine w_getL (q := 261) (v := 280) rfl (by decide) (pc' := 38) rfl ⟨by decide, rfl⟩ rfl rfl (zall_at hR (by decide)) ?_
  refine zW.go 2 40 [(2, 261), (0, x1), (0, x2), (0, x3), z4] [(2, 261), (0, 3), (2, 280), (0, (1600 * (mem 261 13))), (0, x3)] _ rfl ?_
  refine w_getI (q := 261) rfl (by decide) (pc' := 43) rfl ⟨by decide, rfl⟩ rfl (by decide) ?_
  refine zW.go 3 46 [(2, 261), (0, x1), (0, x2), (0, x3), z4] [(0, ((3 * (mem 261 13)) + x1)), (2, 280), (0, (1600 * (mem 261 13))), (0, x3)] _ rfl ?_
  obtain ⟨g, h⟩ := h
  refine w_iald (q := 280) rfl (by decide) (pc' := 47) rfl ⟨by decide, rfl⟩ rfl g rfl ?_
  refine zW.go 1 48 [(2, 261), (0, x1), (0, x2), (0, x3), z4] [(0, ((1600 * (mem 261 13)) + (mem 280 (((3 * (mem 261 13)) + x1)).toNat))), (0, x3)] _ rfl ?_
  refine w_ic_ge rfl (by decide) (pc' := 51) rfl h.1 (fun c1 => ?_) (fun c1 => ?_)
  · have h := h.2.1 c1
    refine zW.go 1 228 [(2, 261), (0, x1), (0, x2), (0, x3), z4] [(2, 261)] _ rfl ?_
    refine w_getL (q := 261) (v := 305) rfl (by decide) (pc' := 231) rfl ⟨by decide, rfl⟩ rfl rfl (zall_at hR (by decide)) ?_
    refine zW.go 1 232 [(2, 261), (0, x1), (0, x2), (0, x3), z4] [(0, 0), (2, 305)] _ rfl ?_
    refine w_lald (q := 305) rfl (by decide) (pc' := 233) rfl ⟨by decide, rfl⟩ rfl (by decide) rfl ?_
    exact w_retl rfl rfl h
  · have h := h.2.2 c1
    refine zW.go 1 52 [(2, 261), (0, x1), (0, x2), (0, x3), z4] [(2, 261)] _ rfl ?_
    refine w_getL (q := 261) (v := 281) rfl (by decide) (pc' := 55) rfl ⟨by decide, rfl⟩ rfl rfl (zall_at hR (by decide)) ?_
    refine zW.go 1 56 [(2, 261), (0, x1), (0, x2), (0, x3), z4] [(0, x3), (2, 281)] _ rfl ?_
    obtain ⟨g, h⟩ := h
    refine w_iald (q := 281) rfl (by decide) (pc' := 57) rfl ⟨by decide, rfl⟩ rfl g rfl ?_
    refine zW.go 3 63 [(2, 261), (0, x1), (0, x2), (0, x3), (0, (mem 281 (x3).toNat))] [(0, 30), (0, (mem 281 (x3).toNat))] _ rfl ?_
    refine w_ic_gt rfl (by decide) (pc' := 66) rfl ⟨h.1, by decide⟩ (fun c2 => ?_) (fun c2 => ?_)
    · have h := h.2.1 c2
      refine zW.go 2 116 [(2, 261), (0, x1), (0, x2), (0, x3), (0, (mem 281 (x3).toNat))] [(0, 43), (0, (mem 281 (x3).toNat))] _ rfl ?_
      refine w_ic_ne rfl (by decide) (pc' := 119) rfl ⟨h.1, by decide⟩ (fun c3 => ?_) (fun c3 => ?_)
      · have h := h.2.1 c3
        refine zW.go 2 144 [(2, 261), (0, x1), (0, x2), (0, x3), (0, (mem 281 (x3).toNat))] [(0, 44), (0, (mem 281 (x3).toNat))] _ rfl ?_
        refine w_ic_ne rfl (by decide) (pc' := 147) rfl ⟨h.1, by decide⟩ (fun c4 => ?_) (fun c4 => ?_)
        · have h := h.2.1 c4
          refine zW.go 2 195 [(2, 261), (0, x1), (0, (x2 + (-1))), (0, x3), (0, (mem 281 (x3).toNat))] [(2, 261)] _ rfl ?_
          refine w_getL (q := 261) (v := 305) rfl (by decide) (pc' := 198) rfl ⟨by decide, rfl⟩ rfl rfl (zall_at hR (by decide)) ?_
          refine zW.go 5 204 [(2, 261), (0, x1), (0, (x2 + (-1))), (0, x3), (0, (mem 281 (x3).toNat))] [(2, 261), (0, (mem 281 (x3).toNat)), (0, ((x2 + (-1)) - 1)), (2, 305)] _ rfl ?_
          refine w_getL (q := 261) (v := 305) rfl (by decide) (pc' := 207) rfl ⟨by decide, rfl⟩ rfl rfl (zall_at hR (by decide)) ?_
          refine zW.go 3 210 [(2, 261), (0, x1), (0, (x2 + (-1))), (0, x3), (0, (mem 281 (x3).toNat))] [(0, ((x2 + (-1)) - 1)), (2, 305), (0, (mem 281 (x3).toNat)), (0, ((x2 + (-1)) - 1)), (2, 305)] _ rfl ?_
          obtain ⟨g, h⟩ := h
          refine w_lald (q := 305) rfl (by decide) (pc' := 211) rfl ⟨by decide, rfl⟩ rfl g rfl ?_
          refine zW.go 1 212 [(2, 261), (0, x1), (0, (x2 + (-1))), (0, x3), (0, (mem 281 (x3).toNat))] [(2, 261), (1, (mem 305 (((x2 + (-1)) - 1)).toNat)), (0, (mem 281 (x3).toNat)), (0, ((x2 + (-1)) - 1)), (2, 305)] _ rfl ?_
          refine w_getL (q := 261) (v := 305) rfl (by decide) (pc' := 215) rfl ⟨by decide, rfl⟩ rfl rfl (zall_at hR (by decide)) ?_
          refine zW.go 1 216 [(2, 261), (0, x1), (0, (x2 + (-1))), (0, x3), (0, (mem 281 (x3).toNat))] [(0, (x2 + (-1))), (2, 305), (1, (mem 305 (((x2 + (-1)) - 1)).toNat)), (0, (mem 281 (x3).toNat)), (0, ((x2 + (-1)) - 1)), (2, 305)] _ rfl ?_
          obtain ⟨g, h⟩ := h
          refine w_lald (q := 305) rfl (by decide) (pc' := 217) rfl ⟨by decide, rfl⟩ rfl g rfl ?_
          refine w_calll (as := [(0, (mem 281 (x3).toNat)), (1, (mem 305 (((x2 + (-1)) - 1)).toNat)), (1, (mem 305 ((x2 + (-1))).toNat))]) [(0, ((x2 + (-1)) - 1)), (2, 305)] 220 rfl rfl rfl rfl (Nat.le_of_ble_eq_true rfl) (Nat.le_of_ble_eq_true rfl) (Nat.le_of_ble_eq_true rfl) (Or.inl rfl) (Cl.imp h (fun r5 mem6 h => ?_))
          obtain ⟨g, h⟩ := h
          refine w_last (q := 305) rfl (by decide) (pc' := 221) rfl ⟨by decide, rfl⟩ rfl g rfl ?_
          refine zW.go 2 25 [(2, 261), (0, x1), (0, (x2 + (-1))), (0, (x3 + 1)), (0, (mem 281 (x3).toNat))] [] _ rfl ?_
          exact h (0, (mem 281 (x3).toNat))
        · have h := h.2.2 c4
          refine zW.go 2 151 [(2, 261), (0, x1), (0, (x2 + (-2))), (0, x3), (0, (mem 281 (x3).toNat))] [(2, 261)] _ rfl ?_
          refine w_getL (q := 261) (v := 305) rfl (by decide) (pc' := 154) rfl ⟨by decide, rfl⟩ rfl rfl (zall_at hR (by decide)) ?_
          refine zW.go 4 158 [(2, 261), (0, x1), (0, (x2 + (-2))), (0, x3), (0, (mem 281 (x3).toNat))] [(2, 261), (0, ((x2 + (-2)) - 1)), (2, 305)] _ rfl ?_
          refine w_getL (q := 261) (v := 305) rfl (by decide) (pc' := 161) rfl ⟨by decide, rfl⟩ rfl rfl (zall_at hR (by decide)) ?_
          refine zW.go 3 164 [(2, 261), (0, x1), (0, (x2 + (-2))), (0, x3), (0, (mem 281 (x3).toNat))] [(0, ((x2 + (-2)) - 1)), (2, 305), (0, ((x2 + (-2)) - 1)), (2, 305)] _ rfl ?_
          obtain ⟨g, h⟩ := h
          refine w_lald (q := 305) rfl (by decide) (pc' := 165) rfl ⟨by decide, rfl⟩ rfl g rfl ?_
          refine zW.go 1 166 [(2, 261), (0, x1), (0, (x2 + (-2))), (0, x3), (0, (mem 281 (x3).toNat))] [(1, 1), (1, (mem 305 (((x2 + (-2)) - 1)).toNat)), (0, ((x2 + (-2)) - 1)), (2, 305)] _ rfl ?_
          obtain ⟨g, h⟩ := h
          refine w_lcmp rfl (by decide) (pc' := 167) rfl g ?_
          refine w_if_ne rfl (by decide) (pc' := 170) rfl h.1 (fun c7 => ?_) (fun c7 => ?_)
          · have h := h.2.1 c7
            refine zW.go 1 180 [(2, 261), (0, x1), (0, (x2 + (-2))), (0, x3), (0, (mem 281 (x3).toNat))] [(2, 261), (0, ((x2 + (-2)) - 1)), (2, 305)] _ rfl ?_
            refine w_getL (q := 261) (v := 305) rfl (by decide) (pc' := 183) rfl ⟨by decide, rfl⟩ rfl rfl (zall_at hR (by decide)) ?_
            refine zW.go 3 186 [(2, 261), (0, x1), (0, (x2 + (-2))), (0, x3), (0, (mem 281 (x3).toNat))] [(0, ((x2 + (-2)) + 1)), (2, 305), (0, ((x2 + (-2)) - 1)), (2, 305)] _ rfl ?_
            obtain ⟨g, h⟩ := h
            refine w_lald (q := 305) rfl (by decide) (pc' := 187) rfl ⟨by decide, rfl⟩ rfl g rfl ?_
            obtain ⟨g, h⟩ := h
            refine w_last (q := 305) rfl (by decide) (pc' := 188) rfl ⟨by decide, rfl⟩ rfl g rfl ?_
            refine zW.go 3 25 [(2, 261), (0, x1), (0, (x2 + (-2))), (0, (x3 + 1)), (0, (mem 281 (x3).toNat))] [] _ rfl ?_
            exact h (0, (mem 281 (x3).toNat))
          · have h := h.2.2 c7
            refine zW.go 1 171 [(2, 261), (0, x1), (0, (x2 + (-2))), (0, x3), (0, (mem 281 (x3).toNat))] [(2, 261), (0, ((x2 + (-2)) - 1)), (2, 305)] _ rfl ?_
            refine w_getL (q := 261) (v := 305) rfl (by decide) (pc' := 174) rfl ⟨by decide, rfl⟩ rfl rfl (zall_at hR (by decide)) ?_
            refine zW.go 1 175 [(2, 261), (0, x1), (0, (x2 + (-2))), (0, x3), (0, (mem 281 (x3).toNat))] [(0, (x2 + (-2))), (2, 305), (0, ((x2 + (-2)) - 1)), (2, 305)] _ rfl ?_
            obtain ⟨g, h⟩ := h
            refine w_lald (q := 305) rfl (by decide) (pc' := 176) rfl ⟨by decide, rfl⟩ rfl g rfl ?_
            refine zW.go 1 187 [(2, 261), (0, x1), (0, (x2 + (-2))), (0, x3), (0, (mem 281 (x3).toNat))] [(1, (mem 305 ((x2 + (-2))).toNat)), (0, ((x2 + (-2)) - 1)), (2, 305)] _ rfl ?_
            obtain ⟨g, h⟩ := h
            refine w_last (q := 305) rfl (by decide) (pc' := 188) rfl ⟨by decide, rfl⟩ rfl g rfl ?_
            refine zW.go 3 25 [(2, 261), (0, x1), (0, (x2 + (-2))), (0, (x3 + 1)), (0, (mem 281 (x3).toNat))] [] _ rfl ?_
            exact h (0, (mem 281 (x3).toNat))
      · have h := h.2.2 c3
        refine zW.go 1 120 [(2, 261), (0, x1), (0, x2), (0, x3), (0, (mem 281 (x3).toNat))] [(2, 261)] _ rfl ?_
        refine w_getL (q := 261) (v := 305) rfl (by decide) (pc' := 123) rfl ⟨by decide, rfl⟩ rfl rfl (zall_at hR (by decide)) ?_
        refine zW.go 5 128 [(2, 261), (0, x1), (0, x2), (0, x3), (0, (mem 281 (x3).toNat))] [(2, 261), (1, 1), (0, (x2 - 1)), (2, 305)] _ rfl ?_
        refine w_getL (q := 261) (v := 305) rfl (by decide) (pc' := 131) rfl ⟨by decide, rfl⟩ rfl rfl (zall_at hR (by decide)) ?_
        refine zW.go 3 134 [(2, 261), (0, x1), (0, x2), (0, x3), (0, (mem 281 (x3).toNat))] [(0, (x2 - 1)), (2, 305), (1, 1), (0, (x2 - 1)), (2, 305)] _ rfl ?_
        obtain ⟨g, h⟩ := h
        refine w_lald (q := 305) rfl (by decide) (pc' := 135) rfl ⟨by decide, rfl⟩ rfl g rfl ?_
        refine zW.go 1 136 [(2, 261), (0, x1), (0, x2), (0, x3), (0, (mem 281 (x3).toNat))] [(1, (1 - (mem 305 ((x2 - 1)).toNat))), (0, (x2 - 1)), (2, 305)] _ rfl ?_
        obtain ⟨g, h⟩ := h
        refine w_last (q := 305) rfl (by decide) (pc' := 137) rfl ⟨by decide, rfl⟩ rfl g rfl ?_
        refine zW.go 3 25 [(2, 261), (0, x1), (0, x2), (0, (x3 + 1)), (0, (mem 281 (x3).toNat))] [] _ rfl ?_
        exact h (0, (mem 281 (x3).toNat))
    · have h := h.2.2 c2
      refine zW.go 1 67 [(2, 261), (0, x1), (0, x2), (0, x3), (0, (mem 281 (x3).toNat))] [(2, 261)] _ rfl ?_
      refine w_getL (q := 261) (v := 305) rfl (by decide) (pc' := 70) rfl ⟨by decide, rfl⟩ rfl rfl (zall_at hR (by decide)) ?_
      refine zW.go 2 73 [(2, 261), (0, x1), (0, x2), (0, x3), (0, (mem 281 (x3).toNat))] [(0, (mem 281 (x3).toNat)), (0, x2), (2, 305)] _ rfl ?_
      refine w_if_ne rfl (by decide) (pc' := 76) rfl h.1 (fun c8 => ?_) (fun c8 => ?_)
      · have h := h.2.1 c8
        refine zW.go 2 90 [(2, 261), (0, x1), (0, x2), (0, x3), (0, (mem 281 (x3).toNat))] [(0, 30), (0, (mem 281 (x3).toNat)), (0, x2), (2, 305)] _ rfl ?_
        refine w_ic_ne rfl (by decide) (pc' := 93) rfl ⟨h.1, by decide⟩ (fun c9 => ?_) (fun c9 => ?_)
        · have h := h.2.1 c9
          refine zW.go 1 98 [(2, 261), (0, x1), (0, x2), (0, x3), (0, (mem 281 (x3).toNat))] [(2, 261), (0, x2), (2, 305)] _ rfl ?_
          refine w_getL (q := 261) (v := 306) rfl (by decide) (pc' := 101) rfl ⟨by decide, rfl⟩ rfl rfl (zall_at hR (by decide)) ?_
          refine zW.go 1 103 [(2, 261), (0, x1), (0, x2), (0, x3), (0, (mem 281 (x3).toNat))] [(0, (mem 281 (x3).toNat)), (2, 306), (0, x2), (2, 305)] _ rfl ?_
          obtain ⟨g, h⟩ := h
          refine w_iald (q := 306) rfl (by decide) (pc' := 104) rfl ⟨by decide, rfl⟩ rfl g rfl ?_
          obtain ⟨g, h⟩ := h
          refine w_i2l rfl (by decide) (pc' := 105) rfl g ?_
          obtain ⟨g, h⟩ := h
          refine w_last (q := 305) rfl (by decide) (pc' := 106) rfl ⟨by decide, rfl⟩ rfl g rfl ?_
          refine zW.go 4 25 [(2, 261), (0, x1), (0, (x2 + 1)), (0, (x3 + 1)), (0, (mem 281 (x3).toNat))] [] _ rfl ?_
          exact h (0, (mem 281 (x3).toNat))
        · have h := h.2.2 c9
          refine zW.go 2 105 [(2, 261), (0, x1), (0, x2), (0, x3), (0, (mem 281 (x3).toNat))] [(1, 1), (0, x2), (2, 305)] _ rfl ?_
          obtain ⟨g, h⟩ := h
          refine w_last (q := 305) rfl (by decide) (pc' := 106) rfl ⟨by decide, rfl⟩ rfl g rfl ?_
          refine zW.go 4 25 [(2, 261), (0, x1), (0, (x2 + 1)), (0, (x3 + 1)), (0, (mem 281 (x3).toNat))] [] _ rfl ?_
          exact h (0, (mem 281 (x3).toNat))
      · have h := h.2.2 c8
        refine zW.go 1 77 [(2, 261), (0, x1), (0, x2), (0, x3), (0, (mem 281 (x3).toNat))] [(2, 261), (0, x2), (2, 305)] _ rfl ?_
        refine w_getL (q := 261) (v := 282) rfl (by decide) (pc' := 80) rfl ⟨by decide, rfl⟩ rfl rfl (zall_at hR (by decide)) ?_
        refine zW.go 1 81 [(2, 261), (0, x1), (0, x2), (0, x3), (0, (mem 281 (x3).toNat))] [(0, x3), (2, 282), (0, x2), (2, 305)] _ rfl ?_
        obtain ⟨g, h⟩ := h
        refine w_iald (q := 282) rfl (by decide) (pc' := 82) rfl ⟨by decide, rfl⟩ rfl g rfl ?_
        obtain ⟨g, h⟩ := h
        refine w_i2l rfl (by decide) (pc' := 83) rfl g ?_
        refine zW.go 1 105 [(2, 261), (0, x1), (0, x2), (0, x3), (0, (mem 281 (x3).toNat))] [(1, (mem 282 (x3).toNat)), (0, x2), (2, 305)] _ rfl ?_
        obtain ⟨g, h⟩ := h
        refine w_last (q := 305) rfl (by decide) (pc' := 106) rfl ⟨by decide, rfl⟩ rfl g rfl ?_
        refine zW.go 4 25 [(2, 261), (0, x1), (0, (x2 + 1)), (0, (x3 + 1)), (0, (mem 281 (x3).toNat))] [] _ rfl ?_
        exact h (0, (mem 281 (x3).toNat))
set_option maxRecDepth 4000 in
theorem s_m_reckons {X : zX} {d : Nat} {rf mem : zF} {Q : Int → zF → Prop} (hR : zall rf zRK = true) {x1 : Int} (h : (0 ≤ ((3 * (mem 261 13)) + x1) ∧ ((3 * (mem 261 13)) + x1) < 6) ∧ (L_m_reckons_25 X d rf Q mem x1 0 ((1600 * (mem 261 13)) + (mem 279 (((3 * (mem 261 13)) + x1)).toNat)))) : Cl X (d + 1) 250 [(2, 261), (0, x1)] rf mem Q := by
  show zW X (d + 1) 250 0 [(2, 261), (0, x1), (9, 0), (9, 0), (9, 0)] [] (zty, rf, mem) (ql rf Q)
  refine zW.go 4 6 [(2, 261), (0, x1), (0, 0), (9, 0), (9, 0)] [(2, 261), (0, 1600)] _ rfl ?_
  refine w_getI (q := 261) rfl (by decide) (pc' := 9) rfl ⟨by decide, rfl⟩ rfl (by decide) ?_
  refine zW.go 2 11 [(2, 261), (0, x1), (0, 0), (9, 0), (9, 0)] [(2, 261), (0, (1600 * (mem 261 13)))] _ rfl ?_
  refine w_getL (q := 261) (v := 279) rfl (by decide) (pc' := 14) rfl ⟨by decide, rfl⟩ rfl rfl (zall_at hR (by decide)) ?_
  refine zW.go 2 16 [(2, 261), (0, x1), (0, 0), (9, 0), (9, 0)] [(2, 261), (0, 3), (2, 279), (0, (1600 * (mem 261 13)))] _ rfl ?_
  refine w_getI (q := 261) rfl (by decide) (pc' := 19) rfl ⟨by decide, rfl⟩ rfl (by decide) ?_
  refine zW.go 3 22 [(2, 261), (0, x1), (0, 0), (9, 0), (9, 0)] [(0, ((3 * (mem 261 13)) + x1)), (2, 279), (0, (1600 * (mem 261 13)))] _ rfl ?_
  obtain ⟨g, h⟩ := h
  refine w_iald (q := 279) rfl (by decide) (pc' := 23) rfl ⟨by decide, rfl⟩ rfl g rfl ?_
  refine zW.go 2 25 [(2, 261), (0, x1), (0, 0), (0, ((1600 * (mem 261 13)) + (mem 279 (((3 * (mem 261 13)) + x1)).toNat))), (9, 0)] [] _ rfl ?_
  exact h (9, 0)
set_option maxRecDepth 4000 in
theorem s_m_isTold {X : zX} {d : Nat} {rf mem : zF} {Q : Int → zF → Prop} (hR : zall rf zRK = true) {x1 : Int} (h : (0 ≤ ((3 * (mem 261 13)) + x1) ∧ ((3 * (mem 261 13)) + x1) < 6) ∧ ((inI (mem 279 (((3 * (mem 261 13)) + x1)).toNat)) ∧ (((mem 279 (((3 * (mem 261 13)) + x1)).toNat) = (-1) → Q 0 mem) ∧ (¬ (mem 279 (((3 * (mem 261 13)) + x1)).toNat) = (-1) → Q 1 mem)))) : Ci X d 251 [(2, 261), (0, x1)] rf mem Q := by
  show zW X d 251 0 [(2, 261), (0, x1)] [] (zty, rf, mem) (qi rf Q)
  refine zW.go 1 1 [(2, 261), (0, x1)] [(2, 261)] _ rfl ?_
  refine w_getL (q := 261) (v := 279) rfl (by decide) (pc' := 4) rfl ⟨by decide, rfl⟩ rfl rfl (zall_at hR (by decide)) ?_
  refine zW.go 2 6 [(2, 261), (0, x1)] [(2, 261), (0, 3), (2, 279)] _ rfl ?_
  refine w_getI (q := 261) rfl (by decide) (pc' := 9) rfl ⟨by decide, rfl⟩ rfl (by decide) ?_
  refine zW.go 3 12 [(2, 261), (0, x1)] [(0, ((3 * (mem 261 13)) + x1)), (2, 279)] _ rfl ?_
  obtain ⟨g, h⟩ := h
  refine w_iald (q := 279) rfl (by decide) (pc' := 13) rfl ⟨by decide, rfl⟩ rfl g rfl ?_
  refine zW.go 1 14 [(2, 261), (0, x1)] [(0, (-1)), (0, (mem 279 (((3 * (mem 261 13)) + x1)).toNat))] _ rfl ?_
  refine w_ic_eq rfl (by decide) (pc' := 17) rfl ⟨h.1, by decide⟩ (fun c1 => ?_) (fun c1 => ?_)
  · have h := h.2.1 c1
    refine zW.go 1 22 [(2, 261), (0, x1)] [(0, 0)] _ rfl ?_
    exact w_retz rfl rfl (by decide) h
  · have h := h.2.2 c1
    refine zW.go 2 22 [(2, 261), (0, x1)] [(0, 1)] _ rfl ?_
    exact w_retz rfl rfl (by decide) h
set_option maxRecDepth 4000 in
theorem s_m_cut {X : zX} {d : Nat} {rf mem : zF} {Q : Int → zF → Prop} (hR : zall rf zRK = true) {x0 : Int} {x2 : Int} (h : (inL x0 ∧ inL 0) ∧ ((inI (if x0 < 0 then -1 else if x0 = 0 then 0 else 1)) ∧ ((0 ≤ (if x0 < 0 then -1 else if x0 = 0 then 0 else 1) → (inI x2) ∧ ((inL x0 ∧ inL x2) ∧ ((inI (if x0 < x2 then -1 else if x0 = x2 then 0 else 1)) ∧ (((if x0 < x2 then -1 else if x0 = x2 then 0 else 1) ≤ 0 → Q x0 mem) ∧ (¬ (if x0 < x2 then -1 else if x0 = x2 then 0 else 1) ≤ 0 → Q x2 mem))))) ∧ (¬ 0 ≤ (if x0 < 0 then -1 else if x0 = 0 then 0 else 1) → Q 0 mem)))) : Ci X d 252 [(1, x0), (0, x2)] rf mem Q := by
  show zW X d 252 0 [(1, x0), (9, 0), (0, x2)] [] (zty, rf, mem) (qi rf Q)
  refine zW.go 2 2 [(1, x0), (9, 0), (0, x2)] [(1, 0), (1, x0)] _ rfl ?_
  obtain ⟨g, h⟩ := h
  refine w_lcmp rfl (by decide) (pc' := 3) rfl g ?_
  refine w_if_ge rfl (by decide) (pc' := 6) rfl h.1 (fun c1 => ?_) (fun c1 => ?_)
  · have h := h.2.1 c1
    refine zW.go 2 12 [(1, x0), (9, 0), (0, x2)] [(0, x2), (1, x0)] _ rfl ?_
    obtain ⟨g, h⟩ := h
    refine w_i2l rfl (by decide) (pc' := 13) rfl g ?_
    obtain ⟨g, h⟩ := h
    refine w_lcmp rfl (by decide) (pc' := 14) rfl g ?_
    refine w_if_le rfl (by decide) (pc' := 17) rfl h.1 (fun c2 => ?_) (fun c2 => ?_)
    · have h := h.2.1 c2
      refine zW.go 2 23 [(1, x0), (9, 0), (0, x2)] [(0, x0)] _ rfl ?_
      exact w_reti rfl rfl h
    · have h := h.2.2 c2
      refine zW.go 2 23 [(1, x0), (9, 0), (0, x2)] [(0, x2)] _ rfl ?_
      exact w_reti rfl rfl h
  · have h := h.2.2 c1
    refine zW.go 2 23 [(1, x0), (9, 0), (0, x2)] [(0, 0)] _ rfl ?_
    exact w_reti rfl rfl h
set_option maxRecDepth 4000 in
theorem s_m_isCell {X : zX} {d : Nat} {rf mem : zF} {Q : Int → zF → Prop} (hR : zall rf zRK = true) {x1 : Int} {x2 : Int} (h : (inI (mem 261 50)) ∧ (((mem 261 50) = 0 → Q 0 mem) ∧ (¬ (mem 261 50) = 0 → (0 ≤ (mem 261 13) ∧ (mem 261 13) < 2) ∧ (Ci X d 194 [(0, x1), (0, 0), (0, ((mem 263 ((mem 261 13)).toNat) - 1))] rf mem (fun r2 mem3 => (inI r2) ∧ ((r2 = 0 → Q 0 mem3) ∧ (¬ r2 = 0 → (0 ≤ (mem3 261 13) ∧ (mem3 261 13) < 2) ∧ (Ci X d 194 [(0, x2), (0, 0), (0, ((mem3 264 ((mem3 261 13)).toNat) - 1))] rf mem3 (fun r5 mem6 => (inI r5) ∧ ((r5 = 0 → Q 0 mem6) ∧ (¬ r5 = 0 → Q 1 mem6))))))))))) : Ci X (d + 1) 253 [(2, 261), (0, x1), (0, x2)] rf mem Q := by
  show zW X (d + 1) 253 0 [(2, 261), (0, x1), (0, x2)] [] (zty, rf, mem) (qi rf Q)
  refine zW.go 1 1 [(2, 261), (0, x1), (0, x2)] [(2, 261)] _ rfl ?_
  refine w_getI (q := 261) rfl (by decide) (pc' := 4) rfl ⟨by decide, rfl⟩ rfl (by decide) ?_
  refine w_if_eq rfl (by decide) (pc' := 7) rfl h.1 (fun c1 => ?_) (fun c1 => ?_)
  · have h := h.2.1 c1
    refine zW.go 1 50 [(2, 261), (0, x1), (0, x2)] [(0, 0)] _ rfl ?_
    exact w_retz rfl rfl (by decide) h
  · have h := h.2.2 c1
    refine zW.go 3 10 [(2, 261), (0, x1), (0, x2)] [(2, 261), (0, 0), (0, x1)] _ rfl ?_
    refine w_getL (q := 261) (v := 263) rfl (by decide) (pc' := 13) rfl ⟨by decide, rfl⟩ rfl rfl (zall_at hR (by decide)) ?_
    refine zW.go 1 14 [(2, 261), (0, x1), (0, x2)] [(2, 261), (2, 263), (0, 0), (0, x1)] _ rfl ?_
    refine w_getI (q := 261) rfl (by decide) (pc' := 17) rfl ⟨by decide, rfl⟩ rfl (by decide) ?_
    obtain ⟨g, h⟩ := h
    refine w_iald (q := 263) rfl (by decide) (pc' := 18) rfl ⟨by decide, rfl⟩ rfl g rfl ?_
    refine zW.go 2 20 [(2, 261), (0, x1), (0, x2)] [(0, ((mem 263 ((mem 261 13)).toNat) - 1)), (0, 0), (0, x1)] _ rfl ?_
    refine w_calli (as := [(0, x1), (0, 0), (0, ((mem 263 ((mem 261 13)).toNat) - 1))]) [] 23 rfl rfl rfl rfl (Nat.le_of_ble_eq_true rfl) (Nat.le_of_ble_eq_true rfl) (Nat.le_of_ble_eq_true rfl) (Or.inl rfl) (Ci.imp h (fun r2 mem3 h => ?_))
    refine w_if_eq rfl (by decide) (pc' := 26) rfl h.1 (fun c4 => ?_) (fun c4 => ?_)
    · have h := h.2.1 c4
      refine zW.go 1 50 [(2, 261), (0, x1), (0, x2)] [(0, 0)] _ rfl ?_
      exact w_retz rfl rfl (by decide) h
    · have h := h.2.2 c4
      refine zW.go 3 29 [(2, 261), (0, x1), (0, x2)] [(2, 261), (0, 0), (0, x2)] _ rfl ?_
      refine w_getL (q := 261) (v := 264) rfl (by decide) (pc' := 32) rfl ⟨by decide, rfl⟩ rfl rfl (zall_at hR (by decide)) ?_
      refine zW.go 1 33 [(2, 261), (0, x1), (0, x2)] [(2, 261), (2, 264), (0, 0), (0, x2)] _ rfl ?_
      refine w_getI (q := 261) rfl (by decide) (pc' := 36) rfl ⟨by decide, rfl⟩ rfl (by decide) ?_
      obtain ⟨g, h⟩ := h
      refine w_iald (q := 264) rfl (by decide) (pc' := 37) rfl ⟨by decide, rfl⟩ rfl g rfl ?_
      refine zW.go 2 39 [(2, 261), (0, x1), (0, x2)] [(0, ((mem3 264 ((mem3 261 13)).toNat) - 1)), (0, 0), (0, x2)] _ rfl ?_
      refine w_calli (as := [(0, x2), (0, 0), (0, ((mem3 264 ((mem3 261 13)).toNat) - 1))]) [] 42 rfl rfl rfl rfl (Nat.le_of_ble_eq_true rfl) (Nat.le_of_ble_eq_true rfl) (Nat.le_of_ble_eq_true rfl) (Or.inl rfl) (Ci.imp h (fun r5 mem6 h => ?_))
      refine w_if_eq rfl (by decide) (pc' := 45) rfl h.1 (fun c7 => ?_) (fun c7 => ?_)
      · have h := h.2.1 c7
        refine zW.go 1 50 [(2, 261), (0, x1), (0, x2)] [(0, 0)] _ rfl ?_
        exact w_retz rfl rfl (by decide) h
      · have h := h.2.2 c7
        refine zW.go 2 50 [(2, 261), (0, x1), (0, x2)] [(0, 1)] _ rfl ?_
        exact w_retz rfl rfl (by decide) h
set_option maxRecDepth 4000 in
theorem s_m_isCellOf {X : zX} {d : Nat} {rf mem : zF} {Q : Int → zF → Prop} (hR : zall rf zRK = true) {x1 : Int} (h : (inI x1) ∧ ((x1 < 0 → Q 0 mem) ∧ (¬ x1 < 0 → (inI x1) ∧ ((inI x1) ∧ (Ci X d 253 [(2, 261), (0, (x1.tmod 8)), (0, (x1.tdiv 8))] rf mem (fun r2 mem3 => (inI r2) ∧ ((r2 = 0 → Q 0 mem3) ∧ (¬ r2 = 0 → Q 1 mem3)))))))) : Ci X (d + 1) 254 [(2, 261), (0, x1)] rf mem Q := by
  show zW X (d + 1) 254 0 [(2, 261), (0, x1)] [] (zty, rf, mem) (qi rf Q)
  refine zW.go 1 1 [(2, 261), (0, x1)] [(0, x1)] _ rfl ?_
  refine w_if_lt rfl (by decide) (pc' := 4) rfl h.1 (fun c1 => ?_) (fun c1 => ?_)
  · have h := h.2.1 c1
    refine zW.go 1 24 [(2, 261), (0, x1)] [(0, 0)] _ rfl ?_
    exact w_retz rfl rfl (by decide) h
  · have h := h.2.2 c1
    refine zW.go 3 8 [(2, 261), (0, x1)] [(0, 8), (0, x1), (2, 261)] _ rfl ?_
    obtain ⟨g, h⟩ := h
    refine w_irem rfl (by decide) (pc' := 9) rfl ⟨g, by decide, by decide⟩ ?_
    refine zW.go 2 12 [(2, 261), (0, x1)] [(0, 8), (0, x1), (0, (x1.tmod 8)), (2, 261)] _ rfl ?_
    obtain ⟨g, h⟩ := h
    refine w_idiv rfl (by decide) (pc' := 13) rfl ⟨g, by decide, by decide⟩ ?_
    refine w_calli (as := [(2, 261), (0, (x1.tmod 8)), (0, (x1.tdiv 8))]) [] 16 rfl rfl rfl rfl (Nat.le_of_ble_eq_true rfl) (Nat.le_of_ble_eq_true rfl) (Nat.le_of_ble_eq_true rfl) (Or.inr rfl) (Ci.imp h (fun r2 mem3 h => ?_))
    refine w_if_eq rfl (by decide) (pc' := 19) rfl h.1 (fun c4 => ?_) (fun c4 => ?_)
    · have h := h.2.1 c4
      refine zW.go 1 24 [(2, 261), (0, x1)] [(0, 0)] _ rfl ?_
      exact w_retz rfl rfl (by decide) h
    · have h := h.2.2 c4
      refine zW.go 2 24 [(2, 261), (0, x1)] [(0, 1)] _ rfl ?_
      exact w_retz rfl rfl (by decide) h
def L_m_onward_23 (X : zX) (d : Nat) (rf : zF) (Q : Int → zF → Prop) (mem : zF) (x1 : Int) (x2 : Int) (s0 : Int) (s1 : Int) : Prop := ∀ z3 : zV, ∀ z4 : zV, zW X (d + 1) 255 23 [(2, 261), (0, x1), (0, x2), z3, z4] [(0, s1), (0, s0)] (zty, rf, mem) (qi rf Q)
def L_m_onward_47 (X : zX) (d : Nat) (rf : zF) (Q : Int → zF → Prop) (mem : zF) (x3 : Int) (s0 : Int) (s1 : Int) : Prop := ∀ z1 : zV, ∀ z2 : zV, ∀ z4 : zV, zW X (d + 1) 255 47 [(2, 261), z1, z2, (0, x3), z4] [(0, s1), (0, s0)] (zty, rf, mem) (qi rf Q)
set_option maxRecDepth 4000 in
theorem s_m_onward_23 {X : zX} {d : Nat} {rf mem : zF} {Q : Int → zF → Prop} (hR : zall rf zRK = true) {x1 : Int} {x2 : Int} {s0 : Int} {s1 : Int} (h : (inI x1) ∧ ((inI x2) ∧ ((¬ x2 = 2 → (inI x2) ∧ ((¬ x2 = 0 → L_m_onward_47 X d rf Q mem (s0 + s1) (x1.tdiv 8) 0) ∧ (x2 = 0 → L_m_onward_47 X d rf Q mem (s0 + s1) (x1.tdiv 8) (-1)))) ∧ (x2 = 2 → L_m_onward_47 X d rf Q mem (s0 + s1) (x1.tdiv 8) 1)))) : L_m_onward_23 X d rf Q mem x1 x2 s0 s1 := by
  intro z3 z4
  refine zW.go 4 28 [(2, 261), (0, x1), (0, x2), (0, (s0 + s1)), z4] [(0, 8), (0, x1)] _ rfl ?_
  obtain ⟨g, h⟩ := h
  refine w_idiv rfl (by decide) (pc' := 29) rfl ⟨g, by decide, by decide⟩ ?_
  refine zW.go 2 31 [(2, 261), (0, x1), (0, x2), (0, (s0 + s1)), z4] [(0, 2), (0, x2), (0, (x1.tdiv 8))] _ rfl ?_
  refine w_ic_ne rfl (by decide) (pc' := 34) rfl ⟨h.1, by decide⟩ (fun c3 => ?_) (fun c3 => ?_)
  · have h := h.2.1 c3
    refine zW.go 1 39 [(2, 261), (0, x1), (0, x2), (0, (s0 + s1)), z4] [(0, x2), (0, (x1.tdiv 8))] _ rfl ?_
    refine w_if_ne rfl (by decide) (pc' := 42) rfl h.1 (fun c4 => ?_) (fun c4 => ?_)
    · have h := h.2.1 c4
      refine zW.go 1 47 [(2, 261), (0, x1), (0, x2), (0, (s0 + s1)), z4] [(0, 0), (0, (x1.tdiv 8))] _ rfl ?_
      exact h (0, x1) (0, x2) z4
    · have h := h.2.2 c4
      refine zW.go 2 47 [(2, 261), (0, x1), (0, x2), (0, (s0 + s1)), z4] [(0, (-1)), (0, (x1.tdiv 8))] _ rfl ?_
      exact h (0, x1) (0, x2) z4
  · have h := h.2.2 c3
    refine zW.go 2 47 [(2, 261), (0, x1), (0, x2), (0, (s0 + s1)), z4] [(0, 1), (0, (x1.tdiv 8))] _ rfl ?_
    exact h (0, x1) (0, x2) z4
set_option maxRecDepth 4000 in
theorem s_m_onward_47 {X : zX} {d : Nat} {rf mem : zF} {Q : Int → zF → Prop} (hR : zall rf zRK = true) {x3 : Int} {s0 : Int} {s1 : Int} (h : Ci X d 253 [(2, 261), (0, x3), (0, (s0 + s1))] rf mem (fun r5 mem6 => (inI r5) ∧ ((r5 = 0 → Q (-1) mem6) ∧ (¬ r5 = 0 → Q ((8 * (s0 + s1)) + x3) mem6)))) : L_m_onward_47 X d rf Q mem x3 s0 s1 := by
  intro z1 z2 z4
  refine zW.go 5 54 [(2, 261), z1, z2, (0, x3), (0, (s0 + s1))] [(0, (s0 + s1)), (0, x3), (2, 261)] _ rfl ?_
  refine w_calli (as := [(2, 261), (0, x3), (0, (s0 + s1))]) [] 57 rfl rfl rfl rfl (Nat.le_of_ble_eq_true rfl) (Nat.le_of_ble_eq_true rfl) (Nat.le_of_ble_eq_true rfl) (Or.inr rfl) (Ci.imp h (fun r5 mem6 h => ?_))
  refine w_if_eq rfl (by decide) (pc' := 60) rfl h.1 (fun c7 => ?_) (fun c7 => ?_)
  · have h := h.2.1 c7
    refine zW.go 1 71 [(2, 261), z1, z2, (0, x3), (0, (s0 + s1))] [(0, (-1))] _ rfl ?_
    exact w_reti rfl rfl h
  · have h := h.2.2 c7
    refine zW.go 6 71 [(2, 261), z1, z2, (0, x3), (0, (s0 + s1))] [(0, ((8 * (s0 + s1)) + x3))] _ rfl ?_
    exact w_reti rfl rfl h
set_option maxRecDepth 4000 in
theorem s_m_onward {X : zX} {d : Nat} {rf mem : zF} {Q : Int → zF → Prop} (hR : zall rf zRK = true) {x1 : Int} {x2 : Int} (h : (inI x1) ∧ ((inI x2) ∧ ((¬ x2 = 1 → (inI x2) ∧ ((¬ x2 = 3 → L_m_onward_23 X d rf Q mem x1 x2 (x1.tmod 8) 0) ∧ (x2 = 3 → L_m_onward_23 X d rf Q mem x1 x2 (x1.tmod 8) (-1)))) ∧ (x2 = 1 → L_m_onward_23 X d rf Q mem x1 x2 (x1.tmod 8) 1)))) : Ci X (d + 1) 255 [(2, 261), (0, x1), (0, x2)] rf mem Q := by
  show zW X (d + 1) 255 0 [(2, 261), (0, x1), (0, x2), (9, 0), (9, 0)] [] (zty, rf, mem) (qi rf Q)
  refine zW.go 2 3 [(2, 261), (0, x1), (0, x2), (9, 0), (9, 0)] [(0, 8), (0, x1)] _ rfl ?_
  obtain ⟨g, h⟩ := h
  refine w_irem rfl (by decide) (pc' := 4) rfl ⟨g, by decide, by decide⟩ ?_
  refine zW.go 2 6 [(2, 261), (0, x1), (0, x2), (9, 0), (9, 0)] [(0, 1), (0, x2), (0, (x1.tmod 8))] _ rfl ?_
  refine w_ic_ne rfl (by decide) (pc' := 9) rfl ⟨h.1, by decide⟩ (fun c1 => ?_) (fun c1 => ?_)
  · have h := h.2.1 c1
    refine zW.go 2 15 [(2, 261), (0, x1), (0, x2), (9, 0), (9, 0)] [(0, 3), (0, x2), (0, (x1.tmod 8))] _ rfl ?_
    refine w_ic_ne rfl (by decide) (pc' := 18) rfl ⟨h.1, by decide⟩ (fun c2 => ?_) (fun c2 => ?_)
    · have h := h.2.1 c2
      refine zW.go 1 23 [(2, 261), (0, x1), (0, x2), (9, 0), (9, 0)] [(0, 0), (0, (x1.tmod 8))] _ rfl ?_
      exact h (9, 0) (9, 0)
    · have h := h.2.2 c2
      refine zW.go 2 23 [(2, 261), (0, x1), (0, x2), (9, 0), (9, 0)] [(0, (-1)), (0, (x1.tmod 8))] _ rfl ?_
      exact h (9, 0) (9, 0)
  · have h := h.2.2 c1
    refine zW.go 2 23 [(2, 261), (0, x1), (0, x2), (9, 0), (9, 0)] [(0, 1), (0, (x1.tmod 8))] _ rfl ?_
    exact h (9, 0) (9, 0)
