theorem s_m_is {X : zX} {d : Nat} {rf mem : zF} {Q : Int → zF → Prop} (hR : zall rf zRL = true) {x0 : Int} {x1 : Int} {x2 : Int} (h : (inI x0 ∧ inI x1) ∧ ((x0 < x1 → Q 0 mem) ∧ (¬ x0 < x1 → (inI x0 ∧ inI x2) ∧ ((x2 < x0 → Q 0 mem) ∧ (¬ x2 < x0 → Q 1 mem))))) : Ci X d 194 [(0, x0), (0, x1), (0, x2)] rf mem Q := by
  show zW X d 194 0 [(0, x0), (0, x1), (0, x2)] [] (zty, rf, mem) (qi rf Q)
  refine zW.go 2 2 [(0, x0), (0, x1), (0, x2)] [(0, x1), (0, x0)] _ rfl ?_
  refine w_ic_lt rfl (by decide) (pc' := 5) rfl h.1 (fun c1 => ?_) (fun c1 => ?_)
  · have h := h.2.1 c1
    refine zW.go 1 15 [(0, x0), (0, x1), (0, x2)] [(0, 0)] _ rfl ?_
    exact w_retz rfl rfl (by decide) h
  · have h := h.2.2 c1
    refine zW.go 2 7 [(0, x0), (0, x1), (0, x2)] [(0, x2), (0, x0)] _ rfl ?_
    refine w_ic_gt rfl (by decide) (pc' := 10) rfl h.1 (fun c2 => ?_) (fun c2 => ?_)
    · have h := h.2.1 c2
      refine zW.go 1 15 [(0, x0), (0, x1), (0, x2)] [(0, 0)] _ rfl ?_
      exact w_retz rfl rfl (by decide) h
    · have h := h.2.2 c2
      refine zW.go 2 15 [(0, x0), (0, x1), (0, x2)] [(0, 1)] _ rfl ?_
      exact w_retz rfl rfl (by decide) h
def L_m_put_3 (X : zX) (d : Nat) (rf : zF) (Q : zF → Prop) (mem : zF) (x1 : Int) (x2 : Int) : Prop := zW X d 195 3 [(2, 261), (0, x1), (0, x2)] [] (zty, rf, mem) (qv rf Q)
theorem s_m_put_3 {X : zX} {d : Nat} {rf mem : zF} {Q : zF → Prop} (hR : zall rf zRL = true) {x1 : Int} {x2 : Int} (h : (inI x2) ∧ ((x2 < 0 → Q mem) ∧ (¬ x2 < 0 → (0 ≤ (mem 261 1) ∧ (mem 261 1) < 1800) ∧ (L_m_put_3 X d rf Q (zup (zup mem 262 ((mem 261 1)).toNat (zand (zshr x1 x2) 255)) 261 1 ((mem 261 1) + 1)) x1 (x2 + (-8)))))) : L_m_put_3 X d rf Q mem x1 x2 := by
  refine zW.go 1 4 [(2, 261), (0, x1), (0, x2)] [(0, x2)] _ rfl ?_
  refine w_if_lt rfl (by decide) (pc' := 7) rfl h.1 (fun c1 => ?_) (fun c1 => ?_)
  · have h := h.2.1 c1
    exact w_retv rfl rfl h
  · have h := h.2.2 c1
    refine zW.go 1 8 [(2, 261), (0, x1), (0, x2)] [(2, 261)] _ rfl ?_
    refine w_getL (q := 261) (v := 262) rfl (by decide) (pc' := 11) rfl ⟨by decide, rfl⟩ rfl rfl (zall_at hR (by decide)) ?_
    refine zW.go 1 12 [(2, 261), (0, x1), (0, x2)] [(2, 261), (2, 262)] _ rfl ?_
    refine w_getI (q := 261) rfl (by decide) (pc' := 15) rfl ⟨by decide, rfl⟩ rfl (by decide) ?_
    refine zW.go 5 22 [(2, 261), (0, x1), (0, x2)] [(0, (zand (zshr x1 x2) 255)), (0, (mem 261 1)), (2, 262)] _ rfl ?_
    obtain ⟨g, h⟩ := h
    refine w_iast (q := 262) rfl (by decide) (pc' := 23) rfl ⟨by decide, rfl⟩ rfl g rfl ?_
    refine zW.go 2 25 [(2, 261), (0, x1), (0, x2)] [(2, 261), (2, 261)] _ rfl ?_
    refine w_getI (q := 261) rfl (by decide) (pc' := 28) rfl ⟨by decide, rfl⟩ rfl (by decide) ?_
    refine zW.go 2 30 [(2, 261), (0, x1), (0, x2)] [(0, ((mem 261 1) + 1)), (2, 261)] _ rfl ?_
    refine w_putI (q := 261) rfl (by decide) (pc' := 33) rfl ⟨by decide, rfl⟩ rfl (by decide) ?_
    refine zW.go 2 3 [(2, 261), (0, x1), (0, (x2 + (-8)))] [] _ rfl ?_
    exact h
theorem s_m_put {X : zX} {d : Nat} {rf mem : zF} {Q : zF → Prop} (hR : zall rf zRL = true) {x1 : Int} (h : L_m_put_3 X d rf Q mem x1 24) : Cv X d 195 [(2, 261), (0, x1)] rf mem Q := by
  show zW X d 195 0 [(2, 261), (0, x1), (9, 0)] [] (zty, rf, mem) (qv rf Q)
  refine zW.go 2 3 [(2, 261), (0, x1), (0, 24)] [] _ rfl ?_
  exact h
theorem s_m_feed {X : zX} {d : Nat} {rf mem : zF} {Q : Int → zF → Prop} (hR : zall rf zRL = true) {x1 : Int} {x2 : Int} {x3 : Int} {x4 : Int} {x5 : Int} (h : (inI ((mem 261 1) + 20)) ∧ ((((mem 261 1) + 20) ≤ 1600 → Cv X d 195 [(2, 261), (0, x1)] rf mem (fun mem2 => Cv X d 195 [(2, 261), (0, x2)] rf mem2 (fun mem3 => Cv X d 195 [(2, 261), (0, x3)] rf mem3 (fun mem4 => Cv X d 195 [(2, 261), (0, x4)] rf mem4 (fun mem5 => Cv X d 195 [(2, 261), (0, x5)] rf mem5 (fun mem6 => Q (mem6 261 1) mem6)))))) ∧ (¬ ((mem 261 1) + 20) ≤ 1600 → Ci X d 240 [(2, 261), (0, 0)] rf mem (fun r7 mem8 => Q r7 mem8)))) : Ci X (d + 1) 196 [(2, 261), (0, x1), (0, x2), (0, x3), (0, x4), (0, x5)] rf mem Q := by
  show zW X (d + 1) 196 0 [(2, 261), (0, x1), (0, x2), (0, x3), (0, x4), (0, x5)] [] (zty, rf, mem) (qi rf Q)
  refine zW.go 1 1 [(2, 261), (0, x1), (0, x2), (0, x3), (0, x4), (0, x5)] [(2, 261)] _ rfl ?_
  refine w_getI (q := 261) rfl (by decide) (pc' := 4) rfl ⟨by decide, rfl⟩ rfl (by decide) ?_
  refine zW.go 3 10 [(2, 261), (0, x1), (0, x2), (0, x3), (0, x4), (0, x5)] [(0, 1600), (0, ((mem 261 1) + 20))] _ rfl ?_
  refine w_ic_le rfl (by decide) (pc' := 13) rfl ⟨h.1, by decide⟩ (fun c1 => ?_) (fun c1 => ?_)
  · have h := h.2.1 c1
    refine zW.go 2 21 [(2, 261), (0, x1), (0, x2), (0, x3), (0, x4), (0, x5)] [(0, x1), (2, 261)] _ rfl ?_
    refine w_callv (as := [(2, 261), (0, x1)]) [] 24 rfl rfl rfl rfl (Nat.le_of_ble_eq_true rfl) (Nat.le_of_ble_eq_true rfl) (Nat.le_of_ble_eq_true rfl) (Or.inr rfl) (Cv.imp h (fun mem2 h => ?_))
    refine zW.go 2 26 [(2, 261), (0, x1), (0, x2), (0, x3), (0, x4), (0, x5)] [(0, x2), (2, 261)] _ rfl ?_
    refine w_callv (as := [(2, 261), (0, x2)]) [] 29 rfl rfl rfl rfl (Nat.le_of_ble_eq_true rfl) (Nat.le_of_ble_eq_true rfl) (Nat.le_of_ble_eq_true rfl) (Or.inr rfl) (Cv.imp h (fun mem3 h => ?_))
    refine zW.go 2 31 [(2, 261), (0, x1), (0, x2), (0, x3), (0, x4), (0, x5)] [(0, x3), (2, 261)] _ rfl ?_
    refine w_callv (as := [(2, 261), (0, x3)]) [] 34 rfl rfl rfl rfl (Nat.le_of_ble_eq_true rfl) (Nat.le_of_ble_eq_true rfl) (Nat.le_of_ble_eq_true rfl) (Or.inr rfl) (Cv.imp h (fun mem4 h => ?_))
    refine zW.go 2 37 [(2, 261), (0, x1), (0, x2), (0, x3), (0, x4), (0, x5)] [(0, x4), (2, 261)] _ rfl ?_
    refine w_callv (as := [(2, 261), (0, x4)]) [] 40 rfl rfl rfl rfl (Nat.le_of_ble_eq_true rfl) (Nat.le_of_ble_eq_true rfl) (Nat.le_of_ble_eq_true rfl) (Or.inr rfl) (Cv.imp h (fun mem5 h => ?_))
    refine zW.go 2 43 [(2, 261), (0, x1), (0, x2), (0, x3), (0, x4), (0, x5)] [(0, x5), (2, 261)] _ rfl ?_
    refine w_callv (as := [(2, 261), (0, x5)]) [] 46 rfl rfl rfl rfl (Nat.le_of_ble_eq_true rfl) (Nat.le_of_ble_eq_true rfl) (Nat.le_of_ble_eq_true rfl) (Or.inr rfl) (Cv.imp h (fun mem6 h => ?_))
    refine zW.go 1 47 [(2, 261), (0, x1), (0, x2), (0, x3), (0, x4), (0, x5)] [(2, 261)] _ rfl ?_
    refine w_getI (q := 261) rfl (by decide) (pc' := 50) rfl ⟨by decide, rfl⟩ rfl (by decide) ?_
    exact w_reti rfl rfl h
  · have h := h.2.2 c1
    refine zW.go 2 15 [(2, 261), (0, x1), (0, x2), (0, x3), (0, x4), (0, x5)] [(0, 0), (2, 261)] _ rfl ?_
    refine w_calli (as := [(2, 261), (0, 0)]) [] 18 rfl rfl rfl rfl (Nat.le_of_ble_eq_true rfl) (Nat.le_of_ble_eq_true rfl) (Nat.le_of_ble_eq_true rfl) (Or.inr rfl) (Ci.imp h (fun r7 mem8 h => ?_))
    exact w_reti rfl rfl h
def L_m_end_12 (X : zX) (d : Nat) (rf : zF) (Q : Int → zF → Prop) (mem : zF) : Prop := ∀ z1 : zV, zW X (d + 1) 197 12 [(2, 261), z1] [] (zty, rf, mem) (qi rf Q)
theorem s_m_end_12 {X : zX} {d : Nat} {rf mem : zF} {Q : Int → zF → Prop} (hR : zall rf zRL = true) (h : Ci X d 240 [(2, 261), (0, 0)] rf mem (fun r3 mem4 => (inI r3) ∧ ((r3 < 0 → Q 0 mem4) ∧ (¬ r3 < 0 → Q 1 mem4)))) : L_m_end_12 X d rf Q mem := by
  intro z1
  refine zW.go 2 14 [(2, 261), z1] [(0, 0), (2, 261)] _ rfl ?_
  refine w_calli (as := [(2, 261), (0, 0)]) [] 17 rfl rfl rfl rfl (Nat.le_of_ble_eq_true rfl) (Nat.le_of_ble_eq_true rfl) (Nat.le_of_ble_eq_true rfl) (Or.inr rfl) (Ci.imp h (fun r3 mem4 h => ?_))
  refine w_if_lt rfl (by decide) (pc' := 20) rfl h.1 (fun c5 => ?_) (fun c5 => ?_)
  · have h := h.2.1 c5
    refine zW.go 1 25 [(2, 261), z1] [(0, 0)] _ rfl ?_
    exact w_retz rfl rfl (by decide) h
  · have h := h.2.2 c5
    refine zW.go 2 25 [(2, 261), z1] [(0, 1)] _ rfl ?_
    exact w_retz rfl rfl (by decide) h
theorem s_m_end {X : zX} {d : Nat} {rf mem : zF} {Q : Int → zF → Prop} (hR : zall rf zRL = true) {x1 : Int} (h : (inI x1) ∧ ((x1 < 0 → L_m_end_12 X d rf Q mem) ∧ (¬ x1 < 0 → (inI x1 ∧ inI (mem 261 1)) ∧ ((x1 ≤ (mem 261 1) → Q 1 (zup mem 261 1 x1)) ∧ (¬ x1 ≤ (mem 261 1) → L_m_end_12 X d rf Q mem))))) : Ci X (d + 1) 197 [(2, 261), (0, x1)] rf mem Q := by
  show zW X (d + 1) 197 0 [(2, 261), (0, x1)] [] (zty, rf, mem) (qi rf Q)
  refine zW.go 1 1 [(2, 261), (0, x1)] [(0, x1)] _ rfl ?_
  refine w_if_lt rfl (by decide) (pc' := 4) rfl h.1 (fun c1 => ?_) (fun c1 => ?_)
  · have h := h.2.1 c1
    exact h (0, x1)
  · have h := h.2.2 c1
    refine zW.go 2 6 [(2, 261), (0, x1)] [(2, 261), (0, x1)] _ rfl ?_
    refine w_getI (q := 261) rfl (by decide) (pc' := 9) rfl ⟨by decide, rfl⟩ rfl (by decide) ?_
    refine w_ic_le rfl (by decide) (pc' := 12) rfl h.1 (fun c2 => ?_) (fun c2 => ?_)
    · have h := h.2.1 c2
      refine zW.go 2 28 [(2, 261), (0, x1)] [(0, x1), (2, 261)] _ rfl ?_
      refine w_putI (q := 261) rfl (by decide) (pc' := 31) rfl ⟨by decide, rfl⟩ rfl (by decide) ?_
      refine zW.go 1 32 [(2, 261), (0, x1)] [(0, 1)] _ rfl ?_
      exact w_retz rfl rfl (by decide) h
    · have h := h.2.2 c2
      exact h (0, x1)
theorem s_m_blame {X : zX} {d : Nat} {rf mem : zF} {Q : zF → Prop} (hR : zall rf zRL = true) {x1 : Int} {x2 : Int} (h : (inI (mem 261 8)) ∧ (((mem 261 8) ≤ 0 → Q (zup (zup mem 261 8 x1) 261 9 x2)) ∧ (¬ (mem 261 8) ≤ 0 → Q mem))) : Cv X d 198 [(2, 261), (0, x1), (0, x2)] rf mem Q := by
  show zW X d 198 0 [(2, 261), (0, x1), (0, x2)] [] (zty, rf, mem) (qv rf Q)
  refine zW.go 1 1 [(2, 261), (0, x1), (0, x2)] [(2, 261)] _ rfl ?_
  refine w_getI (q := 261) rfl (by decide) (pc' := 4) rfl ⟨by decide, rfl⟩ rfl (by decide) ?_
  refine w_if_le rfl (by decide) (pc' := 7) rfl h.1 (fun c1 => ?_) (fun c1 => ?_)
  · have h := h.2.1 c1
    refine zW.go 2 10 [(2, 261), (0, x1), (0, x2)] [(0, x1), (2, 261)] _ rfl ?_
    refine w_putI (q := 261) rfl (by decide) (pc' := 13) rfl ⟨by decide, rfl⟩ rfl (by decide) ?_
    refine zW.go 2 15 [(2, 261), (0, x1), (0, x2)] [(0, x2), (2, 261)] _ rfl ?_
    refine w_putI (q := 261) rfl (by decide) (pc' := 18) rfl ⟨by decide, rfl⟩ rfl (by decide) ?_
    exact w_retv rfl rfl h
  · have h := h.2.2 c1
    exact w_retv rfl rfl h
theorem s_m_lex {X : zX} {d : Nat} {rf mem : zF} {Q : zF → Prop} (hR : zall rf zRL = true) (h : (inI (mem 261 12)) ∧ (((mem 261 12) = (-1) → Q mem) ∧ (¬ (mem 261 12) = (-1) → Cv X d 198 [(2, 261), (0, 1), (0, (mem 261 12))] rf mem (fun mem2 => Q mem2)))) : Cv X (d + 1) 201 [(2, 261)] rf mem Q := by
  show zW X (d + 1) 201 0 [(2, 261)] [] (zty, rf, mem) (qv rf Q)
  refine zW.go 1 1 [(2, 261)] [(2, 261)] _ rfl ?_
  refine w_getI (q := 261) rfl (by decide) (pc' := 4) rfl ⟨by decide, rfl⟩ rfl (by decide) ?_
  refine zW.go 1 5 [(2, 261)] [(0, (-1)), (0, (mem 261 12))] _ rfl ?_
  refine w_ic_eq rfl (by decide) (pc' := 8) rfl ⟨h.1, by decide⟩ (fun c1 => ?_) (fun c1 => ?_)
  · have h := h.2.1 c1
    exact w_retv rfl rfl h
  · have h := h.2.2 c1
    refine zW.go 3 11 [(2, 261)] [(2, 261), (0, 1), (2, 261)] _ rfl ?_
    refine w_getI (q := 261) rfl (by decide) (pc' := 14) rfl ⟨by decide, rfl⟩ rfl (by decide) ?_
    refine w_callv (as := [(2, 261), (0, 1), (0, (mem 261 12))]) [] 17 rfl rfl rfl rfl (Nat.le_of_ble_eq_true rfl) (Nat.le_of_ble_eq_true rfl) (Nat.le_of_ble_eq_true rfl) (Or.inr rfl) (Cv.imp h (fun mem2 h => ?_))
    exact w_retv rfl rfl h
theorem s_m_isSign {X : zX} {d : Nat} {rf mem : zF} {Q : Int → zF → Prop} (hR : zall rf zRL = true) {x1 : Int} (h : (inI (mem 261 3)) ∧ ((¬ (mem 261 3) = 3 → Q 0 mem) ∧ ((mem 261 3) = 3 → (inI (mem 261 6) ∧ inI x1) ∧ ((¬ (mem 261 6) = x1 → Q 0 mem) ∧ ((mem 261 6) = x1 → Q 1 mem))))) : Ci X d 203 [(2, 261), (0, x1)] rf mem Q := by
  show zW X d 203 0 [(2, 261), (0, x1)] [] (zty, rf, mem) (qi rf Q)
  refine zW.go 1 1 [(2, 261), (0, x1)] [(2, 261)] _ rfl ?_
  refine w_getI (q := 261) rfl (by decide) (pc' := 4) rfl ⟨by decide, rfl⟩ rfl (by decide) ?_
  refine zW.go 1 5 [(2, 261), (0, x1)] [(0, 3), (0, (mem 261 3))] _ rfl ?_
  refine w_ic_ne rfl (by decide) (pc' := 8) rfl ⟨h.1, by decide⟩ (fun c1 => ?_) (fun c1 => ?_)
  · have h := h.2.1 c1
    refine zW.go 1 21 [(2, 261), (0, x1)] [(0, 0)] _ rfl ?_
    exact w_retz rfl rfl (by decide) h
  · have h := h.2.2 c1
    refine zW.go 1 9 [(2, 261), (0, x1)] [(2, 261)] _ rfl ?_
    refine w_getI (q := 261) rfl (by decide) (pc' := 12) rfl ⟨by decide, rfl⟩ rfl (by decide) ?_
    refine zW.go 1 13 [(2, 261), (0, x1)] [(0, x1), (0, (mem 261 6))] _ rfl ?_
    refine w_ic_ne rfl (by decide) (pc' := 16) rfl h.1 (fun c2 => ?_) (fun c2 => ?_)
    · have h := h.2.1 c2
      refine zW.go 1 21 [(2, 261), (0, x1)] [(0, 0)] _ rfl ?_
      exact w_retz rfl rfl (by decide) h
    · have h := h.2.2 c2
      refine zW.go 2 21 [(2, 261), (0, x1)] [(0, 1)] _ rfl ?_
      exact w_retz rfl rfl (by decide) h
theorem s_m_manyOf {X : zX} {d : Nat} {rf mem : zF} {Q : Int → zF → Prop} (hR : zall rf zRL = true) {x1 : Int} {x2 : Int} (h : (inI x2) ∧ ((¬ x2 = 0 → (inI x2) ∧ ((¬ x2 = 1 → (0 ≤ x1 ∧ x1 < 2) ∧ (Q (mem 274 (x1).toNat) mem)) ∧ (x2 = 1 → (0 ≤ x1 ∧ x1 < 2) ∧ (Q (mem 271 (x1).toNat) mem)))) ∧ (x2 = 0 → (0 ≤ x1 ∧ x1 < 2) ∧ (Q (mem 266 (x1).toNat) mem)))) : Ci X d 207 [(2, 261), (0, x1), (0, x2)] rf mem Q := by
  show zW X d 207 0 [(2, 261), (0, x1), (0, x2)] [] (zty, rf, mem) (qi rf Q)
  refine zW.go 1 1 [(2, 261), (0, x1), (0, x2)] [(0, x2)] _ rfl ?_
  refine w_if_ne rfl (by decide) (pc' := 4) rfl h.1 (fun c1 => ?_) (fun c1 => ?_)
  · have h := h.2.1 c1
    refine zW.go 2 15 [(2, 261), (0, x1), (0, x2)] [(0, 1), (0, x2)] _ rfl ?_
    refine w_ic_ne rfl (by decide) (pc' := 18) rfl ⟨h.1, by decide⟩ (fun c2 => ?_) (fun c2 => ?_)
    · have h := h.2.1 c2
      refine zW.go 1 28 [(2, 261), (0, x1), (0, x2)] [(2, 261)] _ rfl ?_
      refine w_getL (q := 261) (v := 274) rfl (by decide) (pc' := 31) rfl ⟨by decide, rfl⟩ rfl rfl (zall_at hR (by decide)) ?_
      refine zW.go 1 32 [(2, 261), (0, x1), (0, x2)] [(0, x1), (2, 274)] _ rfl ?_
      obtain ⟨g, h⟩ := h
      refine w_iald (q := 274) rfl (by decide) (pc' := 33) rfl ⟨by decide, rfl⟩ rfl g rfl ?_
      exact w_reti rfl rfl h
    · have h := h.2.2 c2
      refine zW.go 1 19 [(2, 261), (0, x1), (0, x2)] [(2, 261)] _ rfl ?_
      refine w_getL (q := 261) (v := 271) rfl (by decide) (pc' := 22) rfl ⟨by decide, rfl⟩ rfl rfl (zall_at hR (by decide)) ?_
      refine zW.go 1 23 [(2, 261), (0, x1), (0, x2)] [(0, x1), (2, 271)] _ rfl ?_
      obtain ⟨g, h⟩ := h
      refine w_iald (q := 271) rfl (by decide) (pc' := 24) rfl ⟨by decide, rfl⟩ rfl g rfl ?_
      refine zW.go 1 33 [(2, 261), (0, x1), (0, x2)] [(0, (mem 271 (x1).toNat))] _ rfl ?_
      exact w_reti rfl rfl h
  · have h := h.2.2 c1
    refine zW.go 1 5 [(2, 261), (0, x1), (0, x2)] [(2, 261)] _ rfl ?_
    refine w_getL (q := 261) (v := 266) rfl (by decide) (pc' := 8) rfl ⟨by decide, rfl⟩ rfl rfl (zall_at hR (by decide)) ?_
    refine zW.go 1 9 [(2, 261), (0, x1), (0, x2)] [(0, x1), (2, 266)] _ rfl ?_
    obtain ⟨g, h⟩ := h
    refine w_iald (q := 266) rfl (by decide) (pc' := 10) rfl ⟨by decide, rfl⟩ rfl g rfl ?_
    refine zW.go 1 33 [(2, 261), (0, x1), (0, x2)] [(0, (mem 266 (x1).toNat))] _ rfl ?_
    exact w_reti rfl rfl h
theorem s_m_nameOf {X : zX} {d : Nat} {rf mem : zF} {Q : Int → zF → Prop} (hR : zall rf zRL = true) {x1 : Int} {x2 : Int} {x3 : Int} (h : (inI x2) ∧ ((¬ x2 = 0 → (inI x2) ∧ ((¬ x2 = 1 → (0 ≤ ((6 * x1) + x3) ∧ ((6 * x1) + x3) < 12) ∧ (Q (mem 285 (((6 * x1) + x3)).toNat) mem)) ∧ (x2 = 1 → (0 ≤ ((6 * x1) + x3) ∧ ((6 * x1) + x3) < 12) ∧ (Q (mem 284 (((6 * x1) + x3)).toNat) mem)))) ∧ (x2 = 0 → (0 ≤ ((6 * x1) + x3) ∧ ((6 * x1) + x3) < 12) ∧ (Q (mem 283 (((6 * x1) + x3)).toNat) mem)))) : Cl X d 208 [(2, 261), (0, x1), (0, x2), (0, x3)] rf mem Q := by
  show zW X d 208 0 [(2, 261), (0, x1), (0, x2), (0, x3)] [] (zty, rf, mem) (ql rf Q)
  refine zW.go 1 1 [(2, 261), (0, x1), (0, x2), (0, x3)] [(0, x2)] _ rfl ?_
  refine w_if_ne rfl (by decide) (pc' := 4) rfl h.1 (fun c1 => ?_) (fun c1 => ?_)
  · have h := h.2.1 c1
    refine zW.go 2 20 [(2, 261), (0, x1), (0, x2), (0, x3)] [(0, 1), (0, x2)] _ rfl ?_
    refine w_ic_ne rfl (by decide) (pc' := 23) rfl ⟨h.1, by decide⟩ (fun c2 => ?_) (fun c2 => ?_)
    · have h := h.2.1 c2
      refine zW.go 1 38 [(2, 261), (0, x1), (0, x2), (0, x3)] [(2, 261)] _ rfl ?_
      refine w_getL (q := 261) (v := 285) rfl (by decide) (pc' := 41) rfl ⟨by decide, rfl⟩ rfl rfl (zall_at hR (by decide)) ?_
      refine zW.go 5 47 [(2, 261), (0, x1), (0, x2), (0, x3)] [(0, ((6 * x1) + x3)), (2, 285)] _ rfl ?_
      obtain ⟨g, h⟩ := h
      refine w_lald (q := 285) rfl (by decide) (pc' := 48) rfl ⟨by decide, rfl⟩ rfl g rfl ?_
      exact w_retl rfl rfl h
    · have h := h.2.2 c2
      refine zW.go 1 24 [(2, 261), (0, x1), (0, x2), (0, x3)] [(2, 261)] _ rfl ?_
      refine w_getL (q := 261) (v := 284) rfl (by decide) (pc' := 27) rfl ⟨by decide, rfl⟩ rfl rfl (zall_at hR (by decide)) ?_
      refine zW.go 5 33 [(2, 261), (0, x1), (0, x2), (0, x3)] [(0, ((6 * x1) + x3)), (2, 284)] _ rfl ?_
      obtain ⟨g, h⟩ := h
      refine w_lald (q := 284) rfl (by decide) (pc' := 34) rfl ⟨by decide, rfl⟩ rfl g rfl ?_
      refine zW.go 1 48 [(2, 261), (0, x1), (0, x2), (0, x3)] [(1, (mem 284 (((6 * x1) + x3)).toNat))] _ rfl ?_
      exact w_retl rfl rfl h
  · have h := h.2.2 c1
    refine zW.go 1 5 [(2, 261), (0, x1), (0, x2), (0, x3)] [(2, 261)] _ rfl ?_
    refine w_getL (q := 261) (v := 283) rfl (by decide) (pc' := 8) rfl ⟨by decide, rfl⟩ rfl rfl (zall_at hR (by decide)) ?_
    refine zW.go 5 14 [(2, 261), (0, x1), (0, x2), (0, x3)] [(0, ((6 * x1) + x3)), (2, 283)] _ rfl ?_
    obtain ⟨g, h⟩ := h
    refine w_lald (q := 283) rfl (by decide) (pc' := 15) rfl ⟨by decide, rfl⟩ rfl g rfl ?_
    refine zW.go 1 48 [(2, 261), (0, x1), (0, x2), (0, x3)] [(1, (mem 283 (((6 * x1) + x3)).toNat))] _ rfl ?_
    exact w_retl rfl rfl h
def L_m_named_3 (X : zX) (d : Nat) (rf : zF) (Q : Int → zF → Prop) (mem : zF) (x1 : Int) (x2 : Int) (x4 : Int) : Prop := zW X (d + 1) 209 3 [(2, 261), (0, x1), (1, x2), (9, 0), (0, x4)] [] (zty, rf, mem) (qi rf Q)
theorem s_m_named_3 {X : zX} {d : Nat} {rf mem : zF} {Q : Int → zF → Prop} (hR : zall rf zRL = true) {x1 : Int} {x2 : Int} {x4 : Int} (h : Ci X d 207 [(2, 261), (0, (mem 261 38)), (0, x1)] rf mem (fun r1 mem2 => (inI x4 ∧ inI r1) ∧ ((r1 ≤ x4 → Q (-1) mem2) ∧ (¬ r1 ≤ x4 → Cl X d 208 [(2, 261), (0, (mem2 261 38)), (0, x1), (0, x4)] rf mem2 (fun r4 mem5 => (inL r4 ∧ inL x2) ∧ ((inI (if r4 < x2 then -1 else if r4 = x2 then 0 else 1)) ∧ ((¬ (if r4 < x2 then -1 else if r4 = x2 then 0 else 1) = 0 → L_m_named_3 X d rf Q mem5 x1 x2 (x4 + 1)) ∧ ((if r4 < x2 then -1 else if r4 = x2 then 0 else 1) = 0 → Q x4 mem5)))))))) : L_m_named_3 X d rf Q mem x1 x2 x4 := by
  refine zW.go 3 7 [(2, 261), (0, x1), (1, x2), (9, 0), (0, x4)] [(2, 261), (2, 261), (0, x4)] _ rfl ?_
  refine w_getI (q := 261) rfl (by decide) (pc' := 10) rfl ⟨by decide, rfl⟩ rfl (by decide) ?_
  refine zW.go 1 11 [(2, 261), (0, x1), (1, x2), (9, 0), (0, x4)] [(0, x1), (0, (mem 261 38)), (2, 261), (0, x4)] _ rfl ?_
  refine w_calli (as := [(2, 261), (0, (mem 261 38)), (0, x1)]) [(0, x4)] 14 rfl rfl rfl rfl (Nat.le_of_ble_eq_true rfl) (Nat.le_of_ble_eq_true rfl) (Nat.le_of_ble_eq_true rfl) (Or.inr rfl) (Ci.imp h (fun r1 mem2 h => ?_))
  refine w_ic_ge rfl (by decide) (pc' := 17) rfl h.1 (fun c3 => ?_) (fun c3 => ?_)
  · have h := h.2.1 c3
    refine zW.go 1 43 [(2, 261), (0, x1), (1, x2), (9, 0), (0, x4)] [(0, (-1))] _ rfl ?_
    exact w_reti rfl rfl h
  · have h := h.2.2 c3
    refine zW.go 2 19 [(2, 261), (0, x1), (1, x2), (9, 0), (0, x4)] [(2, 261), (2, 261)] _ rfl ?_
    refine w_getI (q := 261) rfl (by decide) (pc' := 22) rfl ⟨by decide, rfl⟩ rfl (by decide) ?_
    refine zW.go 2 25 [(2, 261), (0, x1), (1, x2), (9, 0), (0, x4)] [(0, x4), (0, x1), (0, (mem2 261 38)), (2, 261)] _ rfl ?_
    refine w_calll (as := [(2, 261), (0, (mem2 261 38)), (0, x1), (0, x4)]) [] 28 rfl rfl rfl rfl (Nat.le_of_ble_eq_true rfl) (Nat.le_of_ble_eq_true rfl) (Nat.le_of_ble_eq_true rfl) (Or.inr rfl) (Cl.imp h (fun r4 mem5 h => ?_))
    refine zW.go 1 29 [(2, 261), (0, x1), (1, x2), (9, 0), (0, x4)] [(1, x2), (1, r4)] _ rfl ?_
    obtain ⟨g, h⟩ := h
    refine w_lcmp rfl (by decide) (pc' := 30) rfl g ?_
    refine w_if_ne rfl (by decide) (pc' := 33) rfl h.1 (fun c6 => ?_) (fun c6 => ?_)
    · have h := h.2.1 c6
      refine zW.go 2 3 [(2, 261), (0, x1), (1, x2), (9, 0), (0, (x4 + 1))] [] _ rfl ?_
      exact h
    · have h := h.2.2 c6
      refine zW.go 1 35 [(2, 261), (0, x1), (1, x2), (9, 0), (0, x4)] [(0, x4)] _ rfl ?_
      exact w_reti rfl rfl h
theorem s_m_named {X : zX} {d : Nat} {rf mem : zF} {Q : Int → zF → Prop} (hR : zall rf zRL = true) {x1 : Int} {x2 : Int} (h : L_m_named_3 X d rf Q mem x1 x2 0) : Ci X (d + 1) 209 [(2, 261), (0, x1), (1, x2)] rf mem Q := by
  show zW X (d + 1) 209 0 [(2, 261), (0, x1), (1, x2), (9, 0), (9, 0)] [] (zty, rf, mem) (qi rf Q)
  refine zW.go 2 3 [(2, 261), (0, x1), (1, x2), (9, 0), (0, 0)] [] _ rfl ?_
  exact h
theorem s_m_fault {X : zX} {d : Nat} {rf mem : zF} {Q : Int → zF → Prop} (hR : zall rf zRL = true) {x1 : Int} (h : (inI x1) ∧ ((¬ x1 = 0 → (inI x1) ∧ ((¬ x1 = 1 → Q (-1) mem) ∧ (x1 = 1 → Q (mem 261 11) mem))) ∧ (x1 = 0 → Q (mem 261 10) mem))) : Ci X d 239 [(2, 261), (0, x1)] rf mem Q := by
  show zW X d 239 0 [(2, 261), (0, x1)] [] (zty, rf, mem) (qi rf Q)
  refine zW.go 1 1 [(2, 261), (0, x1)] [(0, x1)] _ rfl ?_
  refine w_if_ne rfl (by decide) (pc' := 4) rfl h.1 (fun c1 => ?_) (fun c1 => ?_)
  · have h := h.2.1 c1
    refine zW.go 2 13 [(2, 261), (0, x1)] [(0, 1), (0, x1)] _ rfl ?_
    refine w_ic_ne rfl (by decide) (pc' := 16) rfl ⟨h.1, by decide⟩ (fun c2 => ?_) (fun c2 => ?_)
    · have h := h.2.1 c2
      refine zW.go 1 24 [(2, 261), (0, x1)] [(0, (-1))] _ rfl ?_
      exact w_reti rfl rfl h
    · have h := h.2.2 c2
      refine zW.go 1 17 [(2, 261), (0, x1)] [(2, 261)] _ rfl ?_
      refine w_getI (q := 261) rfl (by decide) (pc' := 20) rfl ⟨by decide, rfl⟩ rfl (by decide) ?_
      refine zW.go 1 24 [(2, 261), (0, x1)] [(0, (mem 261 11))] _ rfl ?_
      exact w_reti rfl rfl h
  · have h := h.2.2 c1
    refine zW.go 1 5 [(2, 261), (0, x1)] [(2, 261)] _ rfl ?_
    refine w_getI (q := 261) rfl (by decide) (pc' := 8) rfl ⟨by decide, rfl⟩ rfl (by decide) ?_
    refine zW.go 1 24 [(2, 261), (0, x1)] [(0, (mem 261 10))] _ rfl ?_
    exact w_reti rfl rfl h
theorem s_m_refuses {X : zX} {d : Nat} {rf mem : zF} {Q : Int → zF → Prop} (hR : zall rf zRL = true) {x1 : Int} (h : (0 ≤ x1 ∧ x1 < 6) ∧ ((0 ≤ x1 ∧ x1 < 6) ∧ (Q (-1) (zup mem 292 (x1).toNat ((mem 292 (x1).toNat) + 1))))) : Ci X d 240 [(2, 261), (0, x1)] rf mem Q := by
  show zW X d 240 0 [(2, 261), (0, x1)] [] (zty, rf, mem) (qi rf Q)
  refine zW.go 1 1 [(2, 261), (0, x1)] [(2, 261)] _ rfl ?_
  refine w_getL (q := 261) (v := 292) rfl (by decide) (pc' := 4) rfl ⟨by decide, rfl⟩ rfl rfl (zall_at hR (by decide)) ?_
  refine zW.go 2 6 [(2, 261), (0, x1)] [(0, x1), (2, 292), (0, x1), (2, 292)] _ rfl ?_
  obtain ⟨g, h⟩ := h
  refine w_iald (q := 292) rfl (by decide) (pc' := 7) rfl ⟨by decide, rfl⟩ rfl g rfl ?_
  refine zW.go 2 9 [(2, 261), (0, x1)] [(0, ((mem 292 (x1).toNat) + 1)), (0, x1), (2, 292)] _ rfl ?_
  obtain ⟨g, h⟩ := h
  refine w_iast (q := 292) rfl (by decide) (pc' := 10) rfl ⟨by decide, rfl⟩ rfl g rfl ?_
  refine zW.go 1 11 [(2, 261), (0, x1)] [(0, (-1))] _ rfl ?_
  exact w_reti rfl rfl h
def L_m_copies_38 (X : zX) (d : Nat) (rf : zF) (Q : zF → Prop) (mem : zF) (x1 : Int) (x2 : Int) (x3 : Int) : Prop := ∀ z4 : zV, ∀ z5 : zV, zW X d 242 38 [(2, 261), (0, x1), (0, x2), (0, x3), z4, z5] [] (zty, rf, mem) (qv rf Q)
def L_m_copies_178 (X : zX) (d : Nat) (rf : zF) (Q : zF → Prop) (mem : zF) (x1 : Int) (x2 : Int) (x3 : Int) : Prop := ∀ z4 : zV, ∀ z5 : zV, zW X d 242 178 [(2, 261), (0, x1), (0, x2), (0, x3), z4, z5] [] (zty, rf, mem) (qv rf Q)
theorem s_m_copies_38 {X : zX} {d : Nat} {rf mem : zF} {Q : zF → Prop} (hR : zall rf zRL = true) {x1 : Int} {x2 : Int} {x3 : Int} (h : (inI x3) ∧ ((6 ≤ x3 → (0 ≤ x2 ∧ x2 < 22) ∧ ((0 ≤ x1 ∧ x1 < 22) ∧ (L_m_copies_178 X d rf Q (zup mem 303 (x1).toNat (mem 303 (x2).toNat)) x1 x2 0))) ∧ (¬ 6 ≤ x3 → (0 ≤ ((6 * x2) + x3) ∧ ((6 * x2) + x3) < 132) ∧ ((0 ≤ ((6 * x1) + x3) ∧ ((6 * x1) + x3) < 132) ∧ ((0 ≤ ((6 * x2) + x3) ∧ ((6 * x2) + x3) < 132) ∧ ((0 ≤ ((6 * x1) + x3) ∧ ((6 * x1) + x3) < 132) ∧ ((0 ≤ ((6 * x2) + x3) ∧ ((6 * x2) + x3) < 132) ∧ ((0 ≤ ((6 * x1) + x3) ∧ ((6 * x1) + x3) < 132) ∧ ((0 ≤ ((6 * x2) + x3) ∧ ((6 * x2) + x3) < 132) ∧ ((0 ≤ ((6 * x1) + x3) ∧ ((6 * x1) + x3) < 132) ∧ ((0 ≤ ((6 * x2) + x3) ∧ ((6 * x2) + x3) < 132) ∧ ((0 ≤ ((6 * x1) + x3) ∧ ((6 * x1) + x3) < 132) ∧ ((0 ≤ ((6 * x2) + x3) ∧ ((6 * x2) + x3) < 132) ∧ ((0 ≤ ((6 * x1) + x3) ∧ ((6 * x1) + x3) < 132) ∧ ((0 ≤ ((6 * x2) + x3) ∧ ((6 * x2) + x3) < 132) ∧ ((0 ≤ ((6 * x1) + x3) ∧ ((6 * x1) + x3) < 132) ∧ (L_m_copies_38 X d rf Q (zup (zup (zup (zup (zup (zup (zup mem 296 (((6 * x1) + x3)).toNat (mem 296 (((6 * x2) + x3)).toNat)) 297 (((6 * x1) + x3)).toNat (mem 297 (((6 * x2) + x3)).toNat)) 298 (((6 * x1) + x3)).toNat (mem 298 (((6 * x2) + x3)).toNat)) 299 (((6 * x1) + x3)).toNat (mem 299 (((6 * x2) + x3)).toNat)) 300 (((6 * x1) + x3)).toNat (mem 300 (((6 * x2) + x3)).toNat)) 301 (((6 * x1) + x3)).toNat (mem 301 (((6 * x2) + x3)).toNat)) 302 (((6 * x1) + x3)).toNat (mem 302 (((6 * x2) + x3)).toNat)) x1 x2 (x3 + 1)))))))))))))))))) : L_m_copies_38 X d rf Q mem x1 x2 x3 := by
  intro z4 z5
  refine zW.go 2 41 [(2, 261), (0, x1), (0, x2), (0, x3), z4, z5] [(0, 6), (0, x3)] _ rfl ?_
  refine w_ic_ge rfl (by decide) (pc' := 44) rfl ⟨h.1, by decide⟩ (fun c1 => ?_) (fun c1 => ?_)
  · have h := h.2.1 c1
    refine zW.go 1 165 [(2, 261), (0, x1), (0, x2), (0, x3), z4, z5] [(2, 261)] _ rfl ?_
    refine w_getL (q := 261) (v := 303) rfl (by decide) (pc' := 168) rfl ⟨by decide, rfl⟩ rfl rfl (zall_at hR (by decide)) ?_
    refine zW.go 2 170 [(2, 261), (0, x1), (0, x2), (0, x3), z4, z5] [(2, 261), (0, x1), (2, 303)] _ rfl ?_
    refine w_getL (q := 261) (v := 303) rfl (by decide) (pc' := 173) rfl ⟨by decide, rfl⟩ rfl rfl (zall_at hR (by decide)) ?_
    refine zW.go 1 174 [(2, 261), (0, x1), (0, x2), (0, x3), z4, z5] [(0, x2), (2, 303), (0, x1), (2, 303)] _ rfl ?_
    obtain ⟨g, h⟩ := h
    refine w_iald (q := 303) rfl (by decide) (pc' := 175) rfl ⟨by decide, rfl⟩ rfl g rfl ?_
    obtain ⟨g, h⟩ := h
    refine w_iast (q := 303) rfl (by decide) (pc' := 176) rfl ⟨by decide, rfl⟩ rfl g rfl ?_
    refine zW.go 2 178 [(2, 261), (0, x1), (0, x2), (0, 0), z4, z5] [] _ rfl ?_
    exact h z4 z5
  · have h := h.2.2 c1
    refine zW.go 13 61 [(2, 261), (0, x1), (0, x2), (0, x3), (0, ((6 * x1) + x3)), (0, ((6 * x2) + x3))] [(2, 261)] _ rfl ?_
    refine w_getL (q := 261) (v := 296) rfl (by decide) (pc' := 64) rfl ⟨by decide, rfl⟩ rfl rfl (zall_at hR (by decide)) ?_
    refine zW.go 2 67 [(2, 261), (0, x1), (0, x2), (0, x3), (0, ((6 * x1) + x3)), (0, ((6 * x2) + x3))] [(2, 261), (0, ((6 * x1) + x3)), (2, 296)] _ rfl ?_
    refine w_getL (q := 261) (v := 296) rfl (by decide) (pc' := 70) rfl ⟨by decide, rfl⟩ rfl rfl (zall_at hR (by decide)) ?_
    refine zW.go 1 72 [(2, 261), (0, x1), (0, x2), (0, x3), (0, ((6 * x1) + x3)), (0, ((6 * x2) + x3))] [(0, ((6 * x2) + x3)), (2, 296), (0, ((6 * x1) + x3)), (2, 296)] _ rfl ?_
    obtain ⟨g, h⟩ := h
    refine w_iald (q := 296) rfl (by decide) (pc' := 73) rfl ⟨by decide, rfl⟩ rfl g rfl ?_
    obtain ⟨g, h⟩ := h
    refine w_iast (q := 296) rfl (by decide) (pc' := 74) rfl ⟨by decide, rfl⟩ rfl g rfl ?_
    refine zW.go 1 75 [(2, 261), (0, x1), (0, x2), (0, x3), (0, ((6 * x1) + x3)), (0, ((6 * x2) + x3))] [(2, 261)] _ rfl ?_
    refine w_getL (q := 261) (v := 297) rfl (by decide) (pc' := 78) rfl ⟨by decide, rfl⟩ rfl rfl (zall_at hR (by decide)) ?_
    refine zW.go 2 81 [(2, 261), (0, x1), (0, x2), (0, x3), (0, ((6 * x1) + x3)), (0, ((6 * x2) + x3))] [(2, 261), (0, ((6 * x1) + x3)), (2, 297)] _ rfl ?_
    refine w_getL (q := 261) (v := 297) rfl (by decide) (pc' := 84) rfl ⟨by decide, rfl⟩ rfl rfl (zall_at hR (by decide)) ?_
    refine zW.go 1 86 [(2, 261), (0, x1), (0, x2), (0, x3), (0, ((6 * x1) + x3)), (0, ((6 * x2) + x3))] [(0, ((6 * x2) + x3)), (2, 297), (0, ((6 * x1) + x3)), (2, 297)] _ rfl ?_
    obtain ⟨g, h⟩ := h
    refine w_iald (q := 297) rfl (by decide) (pc' := 87) rfl ⟨by decide, rfl⟩ rfl g rfl ?_
    obtain ⟨g, h⟩ := h
    refine w_iast (q := 297) rfl (by decide) (pc' := 88) rfl ⟨by decide, rfl⟩ rfl g rfl ?_
    refine zW.go 1 89 [(2, 261), (0, x1), (0, x2), (0, x3), (0, ((6 * x1) + x3)), (0, ((6 * x2) + x3))] [(2, 261)] _ rfl ?_
    refine w_getL (q := 261) (v := 298) rfl (by decide) (pc' := 92) rfl ⟨by decide, rfl⟩ rfl rfl (zall_at hR (by decide)) ?_
    refine zW.go 2 95 [(2, 261), (0, x1), (0, x2), (0, x3), (0, ((6 * x1) + x3)), (0, ((6 * x2) + x3))] [(2, 261), (0, ((6 * x1) + x3)), (2, 298)] _ rfl ?_
    refine w_getL (q := 261) (v := 298) rfl (by decide) (pc' := 98) rfl ⟨by decide, rfl⟩ rfl rfl (zall_at hR (by decide)) ?_
    refine zW.go 1 100 [(2, 261), (0, x1), (0, x2), (0, x3), (0, ((6 * x1) + x3)), (0, ((6 * x2) + x3))] [(0, ((6 * x2) + x3)), (2, 298), (0, ((6 * x1) + x3)), (2, 298)] _ rfl ?_
    obtain ⟨g, h⟩ := h
    refine w_iald (q := 298) rfl (by decide) (pc' := 101) rfl ⟨by decide, rfl⟩ rfl g rfl ?_
    obtain ⟨g, h⟩ := h
    refine w_iast (q := 298) rfl (by decide) (pc' := 102) rfl ⟨by decide, rfl⟩ rfl g rfl ?_
    refine zW.go 1 103 [(2, 261), (0, x1), (0, x2), (0, x3), (0, ((6 * x1) + x3)), (0, ((6 * x2) + x3))] [(2, 261)] _ rfl ?_
    refine w_getL (q := 261) (v := 299) rfl (by decide) (pc' := 106) rfl ⟨by decide, rfl⟩ rfl rfl (zall_at hR (by decide)) ?_
    refine zW.go 2 109 [(2, 261), (0, x1), (0, x2), (0, x3), (0, ((6 * x1) + x3)), (0, ((6 * x2) + x3))] [(2, 261), (0, ((6 * x1) + x3)), (2, 299)] _ rfl ?_
    refine w_getL (q := 261) (v := 299) rfl (by decide) (pc' := 112) rfl ⟨by decide, rfl⟩ rfl rfl (zall_at hR (by decide)) ?_
    refine zW.go 1 114 [(2, 261), (0, x1), (0, x2), (0, x3), (0, ((6 * x1) + x3)), (0, ((6 * x2) + x3))] [(0, ((6 * x2) + x3)), (2, 299), (0, ((6 * x1) + x3)), (2, 299)] _ rfl ?_
    obtain ⟨g, h⟩ := h
    refine w_iald (q := 299) rfl (by decide) (pc' := 115) rfl ⟨by decide, rfl⟩ rfl g rfl ?_
    obtain ⟨g, h⟩ := h
    refine w_iast (q := 299) rfl (by decide) (pc' := 116) rfl ⟨by decide, rfl⟩ rfl g rfl ?_
    refine zW.go 1 117 [(2, 261), (0, x1), (0, x2), (0, x3), (0, ((6 * x1) + x3)), (0, ((6 * x2) + x3))] [(2, 261)] _ rfl ?_
    refine w_getL (q := 261) (v := 300) rfl (by decide) (pc' := 120) rfl ⟨by decide, rfl⟩ rfl rfl (zall_at hR (by decide)) ?_
    refine zW.go 2 123 [(2, 261), (0, x1), (0, x2), (0, x3), (0, ((6 * x1) + x3)), (0, ((6 * x2) + x3))] [(2, 261), (0, ((6 * x1) + x3)), (2, 300)] _ rfl ?_
    refine w_getL (q := 261) (v := 300) rfl (by decide) (pc' := 126) rfl ⟨by decide, rfl⟩ rfl rfl (zall_at hR (by decide)) ?_
    refine zW.go 1 128 [(2, 261), (0, x1), (0, x2), (0, x3), (0, ((6 * x1) + x3)), (0, ((6 * x2) + x3))] [(0, ((6 * x2) + x3)), (2, 300), (0, ((6 * x1) + x3)), (2, 300)] _ rfl ?_
    obtain ⟨g, h⟩ := h
    refine w_iald (q := 300) rfl (by decide) (pc' := 129) rfl ⟨by decide, rfl⟩ rfl g rfl ?_
    obtain ⟨g, h⟩ := h
    refine w_iast (q := 300) rfl (by decide) (pc' := 130) rfl ⟨by decide, rfl⟩ rfl g rfl ?_
    refine zW.go 1 131 [(2, 261), (0, x1), (0, x2), (0, x3), (0, ((6 * x1) + x3)), (0, ((6 * x2) + x3))] [(2, 261)] _ rfl ?_
    refine w_getL (q := 261) (v := 301) rfl (by decide) (pc' := 134) rfl ⟨by decide, rfl⟩ rfl rfl (zall_at hR (by decide)) ?_
    refine zW.go 2 137 [(2, 261), (0, x1), (0, x2), (0, x3), (0, ((6 * x1) + x3)), (0, ((6 * x2) + x3))] [(2, 261), (0, ((6 * x1) + x3)), (2, 301)] _ rfl ?_
    refine w_getL (q := 261) (v := 301) rfl (by decide) (pc' := 140) rfl ⟨by decide, rfl⟩ rfl rfl (zall_at hR (by decide)) ?_
    refine zW.go 1 142 [(2, 261), (0, x1), (0, x2), (0, x3), (0, ((6 * x1) + x3)), (0, ((6 * x2) + x3))] [(0, ((6 * x2) + x3)), (2, 301), (0, ((6 * x1) + x3)), (2, 301)] _ rfl ?_
    obtain ⟨g, h⟩ := h
    refine w_iald (q := 301) rfl (by decide) (pc' := 143) rfl ⟨by decide, rfl⟩ rfl g rfl ?_
    obtain ⟨g, h⟩ := h
    refine w_iast (q := 301) rfl (by decide) (pc' := 144) rfl ⟨by decide, rfl⟩ rfl g rfl ?_
    refine zW.go 1 145 [(2, 261), (0, x1), (0, x2), (0, x3), (0, ((6 * x1) + x3)), (0, ((6 * x2) + x3))] [(2, 261)] _ rfl ?_
    refine w_getL (q := 261) (v := 302) rfl (by decide) (pc' := 148) rfl ⟨by decide, rfl⟩ rfl rfl (zall_at hR (by decide)) ?_
    refine zW.go 2 151 [(2, 261), (0, x1), (0, x2), (0, x3), (0, ((6 * x1) + x3)), (0, ((6 * x2) + x3))] [(2, 261), (0, ((6 * x1) + x3)), (2, 302)] _ rfl ?_
    refine w_getL (q := 261) (v := 302) rfl (by decide) (pc' := 154) rfl ⟨by decide, rfl⟩ rfl rfl (zall_at hR (by decide)) ?_
    refine zW.go 1 156 [(2, 261), (0, x1), (0, x2), (0, x3), (0, ((6 * x1) + x3)), (0, ((6 * x2) + x3))] [(0, ((6 * x2) + x3)), (2, 302), (0, ((6 * x1) + x3)), (2, 302)] _ rfl ?_
    obtain ⟨g, h⟩ := h
    refine w_iald (q := 302) rfl (by decide) (pc' := 157) rfl ⟨by decide, rfl⟩ rfl g rfl ?_
    obtain ⟨g, h⟩ := h
    refine w_iast (q := 302) rfl (by decide) (pc' := 158) rfl ⟨by decide, rfl⟩ rfl g rfl ?_
    refine zW.go 2 38 [(2, 261), (0, x1), (0, x2), (0, (x3 + 1)), (0, ((6 * x1) + x3)), (0, ((6 * x2) + x3))] [] _ rfl ?_
    exact h (0, ((6 * x1) + x3)) (0, ((6 * x2) + x3))
theorem s_m_copies_178 {X : zX} {d : Nat} {rf mem : zF} {Q : zF → Prop} (hR : zall rf zRL = true) {x1 : Int} {x2 : Int} {x3 : Int} (h : (0 ≤ x2 ∧ x2 < 22) ∧ ((inI x3 ∧ inI (4 * (mem 303 (x2).toNat))) ∧ (((4 * (mem 303 (x2).toNat)) ≤ x3 → Q mem) ∧ (¬ (4 * (mem 303 (x2).toNat)) ≤ x3 → (0 ≤ ((160 * x2) + x3) ∧ ((160 * x2) + x3) < 3520) ∧ ((0 ≤ ((160 * x1) + x3) ∧ ((160 * x1) + x3) < 3520) ∧ (L_m_copies_178 X d rf Q (zup mem 304 (((160 * x1) + x3)).toNat (mem 304 (((160 * x2) + x3)).toNat)) x1 x2 (x3 + 1))))))) : L_m_copies_178 X d rf Q mem x1 x2 x3 := by
  intro z4 z5
  refine zW.go 3 181 [(2, 261), (0, x1), (0, x2), (0, x3), z4, z5] [(2, 261), (0, 4), (0, x3)] _ rfl ?_
  refine w_getL (q := 261) (v := 303) rfl (by decide) (pc' := 184) rfl ⟨by decide, rfl⟩ rfl rfl (zall_at hR (by decide)) ?_
  refine zW.go 1 185 [(2, 261), (0, x1), (0, x2), (0, x3), z4, z5] [(0, x2), (2, 303), (0, 4), (0, x3)] _ rfl ?_
  obtain ⟨g, h⟩ := h
  refine w_iald (q := 303) rfl (by decide) (pc' := 186) rfl ⟨by decide, rfl⟩ rfl g rfl ?_
  refine zW.go 1 187 [(2, 261), (0, x1), (0, x2), (0, x3), z4, z5] [(0, (4 * (mem 303 (x2).toNat))), (0, x3)] _ rfl ?_
  refine w_ic_ge rfl (by decide) (pc' := 190) rfl h.1 (fun c2 => ?_) (fun c2 => ?_)
  · have h := h.2.1 c2
    exact w_retv rfl rfl h
  · have h := h.2.2 c2
    refine zW.go 1 191 [(2, 261), (0, x1), (0, x2), (0, x3), z4, z5] [(2, 261)] _ rfl ?_
    refine w_getL (q := 261) (v := 304) rfl (by decide) (pc' := 194) rfl ⟨by decide, rfl⟩ rfl rfl (zall_at hR (by decide)) ?_
    refine zW.go 6 202 [(2, 261), (0, x1), (0, x2), (0, x3), z4, z5] [(2, 261), (0, ((160 * x1) + x3)), (2, 304)] _ rfl ?_
    refine w_getL (q := 261) (v := 304) rfl (by decide) (pc' := 205) rfl ⟨by decide, rfl⟩ rfl rfl (zall_at hR (by decide)) ?_
    refine zW.go 5 212 [(2, 261), (0, x1), (0, x2), (0, x3), z4, z5] [(0, ((160 * x2) + x3)), (2, 304), (0, ((160 * x1) + x3)), (2, 304)] _ rfl ?_
    obtain ⟨g, h⟩ := h
    refine w_iald (q := 304) rfl (by decide) (pc' := 213) rfl ⟨by decide, rfl⟩ rfl g rfl ?_
    obtain ⟨g, h⟩ := h
    refine w_iast (q := 304) rfl (by decide) (pc' := 214) rfl ⟨by decide, rfl⟩ rfl g rfl ?_
    refine zW.go 2 178 [(2, 261), (0, x1), (0, x2), (0, (x3 + 1)), z4, z5] [] _ rfl ?_
    exact h z4 z5
theorem s_m_copies {X : zX} {d : Nat} {rf mem : zF} {Q : zF → Prop} (hR : zall rf zRL = true) {x1 : Int} {x2 : Int} (h : (0 ≤ x2 ∧ x2 < 22) ∧ ((0 ≤ x1 ∧ x1 < 22) ∧ ((0 ≤ x2 ∧ x2 < 22) ∧ ((0 ≤ x1 ∧ x1 < 22) ∧ ((0 ≤ x2 ∧ x2 < 22) ∧ ((0 ≤ x1 ∧ x1 < 22) ∧ (L_m_copies_38 X d rf Q (zup (zup (zup mem 293 (x1).toNat (mem 293 (x2).toNat)) 294 (x1).toNat (mem 294 (x2).toNat)) 295 (x1).toNat (mem 295 (x2).toNat)) x1 x2 0))))))) : Cv X d 242 [(2, 261), (0, x1), (0, x2)] rf mem Q := by
  show zW X d 242 0 [(2, 261), (0, x1), (0, x2), (9, 0), (9, 0), (9, 0)] [] (zty, rf, mem) (qv rf Q)
  refine zW.go 1 1 [(2, 261), (0, x1), (0, x2), (9, 0), (9, 0), (9, 0)] [(2, 261)] _ rfl ?_
  refine w_getL (q := 261) (v := 293) rfl (by decide) (pc' := 4) rfl ⟨by decide, rfl⟩ rfl rfl (zall_at hR (by decide)) ?_
  refine zW.go 2 6 [(2, 261), (0, x1), (0, x2), (9, 0), (9, 0), (9, 0)] [(2, 261), (0, x1), (2, 293)] _ rfl ?_
  refine w_getL (q := 261) (v := 293) rfl (by decide) (pc' := 9) rfl ⟨by decide, rfl⟩ rfl rfl (zall_at hR (by decide)) ?_
  refine zW.go 1 10 [(2, 261), (0, x1), (0, x2), (9, 0), (9, 0), (9, 0)] [(0, x2), (2, 293), (0, x1), (2, 293)] _ rfl ?_
  obtain ⟨g, h⟩ := h
  refine w_iald (q := 293) rfl (by decide) (pc' := 11) rfl ⟨by decide, rfl⟩ rfl g rfl ?_
  obtain ⟨g, h⟩ := h
  refine w_iast (q := 293) rfl (by decide) (pc' := 12) rfl ⟨by decide, rfl⟩ rfl g rfl ?_
  refine zW.go 1 13 [(2, 261), (0, x1), (0, x2), (9, 0), (9, 0), (9, 0)] [(2, 261)] _ rfl ?_
  refine w_getL (q := 261) (v := 294) rfl (by decide) (pc' := 16) rfl ⟨by decide, rfl⟩ rfl rfl (zall_at hR (by decide)) ?_
  refine zW.go 2 18 [(2, 261), (0, x1), (0, x2), (9, 0), (9, 0), (9, 0)] [(2, 261), (0, x1), (2, 294)] _ rfl ?_
  refine w_getL (q := 261) (v := 294) rfl (by decide) (pc' := 21) rfl ⟨by decide, rfl⟩ rfl rfl (zall_at hR (by decide)) ?_
  refine zW.go 1 22 [(2, 261), (0, x1), (0, x2), (9, 0), (9, 0), (9, 0)] [(0, x2), (2, 294), (0, x1), (2, 294)] _ rfl ?_
  obtain ⟨g, h⟩ := h
  refine w_iald (q := 294) rfl (by decide) (pc' := 23) rfl ⟨by decide, rfl⟩ rfl g rfl ?_
  obtain ⟨g, h⟩ := h
  refine w_iast (q := 294) rfl (by decide) (pc' := 24) rfl ⟨by decide, rfl⟩ rfl g rfl ?_
  refine zW.go 1 25 [(2, 261), (0, x1), (0, x2), (9, 0), (9, 0), (9, 0)] [(2, 261)] _ rfl ?_
  refine w_getL (q := 261) (v := 295) rfl (by decide) (pc' := 28) rfl ⟨by decide, rfl⟩ rfl rfl (zall_at hR (by decide)) ?_
  refine zW.go 2 30 [(2, 261), (0, x1), (0, x2), (9, 0), (9, 0), (9, 0)] [(2, 261), (0, x1), (2, 295)] _ rfl ?_
  refine w_getL (q := 261) (v := 295) rfl (by decide) (pc' := 33) rfl ⟨by decide, rfl⟩ rfl rfl (zall_at hR (by decide)) ?_
  refine zW.go 1 34 [(2, 261), (0, x1), (0, x2), (9, 0), (9, 0), (9, 0)] [(0, x2), (2, 295), (0, x1), (2, 295)] _ rfl ?_
  obtain ⟨g, h⟩ := h
  refine w_iald (q := 295) rfl (by decide) (pc' := 35) rfl ⟨by decide, rfl⟩ rfl g rfl ?_
  obtain ⟨g, h⟩ := h
  refine w_iast (q := 295) rfl (by decide) (pc' := 36) rfl ⟨by decide, rfl⟩ rfl g rfl ?_
  refine zW.go 2 38 [(2, 261), (0, x1), (0, x2), (0, 0), (9, 0), (9, 0)] [] _ rfl ?_
  exact h (9, 0) (9, 0)
theorem s_m_slot {X : zX} {d : Nat} {rf mem : zF} {Q : Int → zF → Prop} (hR : zall rf zRL = true) {x1 : Int} (h : (inI ((mem 261 64) + x1)) ∧ (Q (2 + (((mem 261 64) + x1).tmod 20)) mem)) : Ci X d 244 [(2, 261), (0, x1)] rf mem Q := by
  show zW X d 244 0 [(2, 261), (0, x1)] [] (zty, rf, mem) (qi rf Q)
  refine zW.go 2 2 [(2, 261), (0, x1)] [(2, 261), (0, 2)] _ rfl ?_
  refine w_getI (q := 261) rfl (by decide) (pc' := 5) rfl ⟨by decide, rfl⟩ rfl (by decide) ?_
  refine zW.go 3 9 [(2, 261), (0, x1)] [(0, 20), (0, ((mem 261 64) + x1)), (0, 2)] _ rfl ?_
  obtain ⟨g, h⟩ := h
  refine w_irem rfl (by decide) (pc' := 10) rfl ⟨g, by decide, by decide⟩ ?_
  refine zW.go 1 11 [(2, 261), (0, x1)] [(0, (2 + (((mem 261 64) + x1).tmod 20)))] _ rfl ?_
  exact w_reti rfl rfl h
def L_m_keeps_32 (X : zX) (d : Nat) (rf : zF) (Q : zF → Prop) (mem : zF) : Prop := zW X (d + 1) 245 32 [(2, 261)] [] (zty, rf, mem) (qv rf Q)
theorem s_m_keeps_32 {X : zX} {d : Nat} {rf mem : zF} {Q : zF → Prop} (hR : zall rf zRL = true) (h : Ci X d 244 [(2, 261), (0, (mem 261 65))] rf mem (fun r2 mem3 => Cv X d 242 [(2, 261), (0, r2), (0, 0)] rf mem3 (fun mem4 => Q (zup mem4 261 65 ((mem4 261 65) + 1))))) : L_m_keeps_32 X d rf Q mem := by
  refine zW.go 3 35 [(2, 261)] [(2, 261), (2, 261), (2, 261)] _ rfl ?_
  refine w_getI (q := 261) rfl (by decide) (pc' := 38) rfl ⟨by decide, rfl⟩ rfl (by decide) ?_
  refine w_calli (as := [(2, 261), (0, (mem 261 65))]) [(2, 261)] 41 rfl rfl rfl rfl (Nat.le_of_ble_eq_true rfl) (Nat.le_of_ble_eq_true rfl) (Nat.le_of_ble_eq_true rfl) (Or.inr rfl) (Ci.imp h (fun r2 mem3 h => ?_))
  refine zW.go 1 42 [(2, 261)] [(0, 0), (0, r2), (2, 261)] _ rfl ?_
  refine w_callv (as := [(2, 261), (0, r2), (0, 0)]) [] 45 rfl rfl rfl rfl (Nat.le_of_ble_eq_true rfl) (Nat.le_of_ble_eq_true rfl) (Nat.le_of_ble_eq_true rfl) (Or.inr rfl) (Cv.imp h (fun mem4 h => ?_))
  refine zW.go 2 47 [(2, 261)] [(2, 261), (2, 261)] _ rfl ?_
  refine w_getI (q := 261) rfl (by decide) (pc' := 50) rfl ⟨by decide, rfl⟩ rfl (by decide) ?_
  refine zW.go 2 52 [(2, 261)] [(0, ((mem4 261 65) + 1)), (2, 261)] _ rfl ?_
  refine w_putI (q := 261) rfl (by decide) (pc' := 55) rfl ⟨by decide, rfl⟩ rfl (by decide) ?_
  exact w_retv rfl rfl h
theorem s_m_keeps {X : zX} {d : Nat} {rf mem : zF} {Q : zF → Prop} (hR : zall rf zRL = true) (h : (inI (mem 261 65)) ∧ ((¬ (mem 261 65) = 20 → L_m_keeps_32 X d rf Q mem) ∧ ((mem 261 65) = 20 → (inI ((mem 261 64) + 1)) ∧ (L_m_keeps_32 X d rf Q (zup (zup mem 261 64 (((mem 261 64) + 1).tmod 20)) 261 65 ((mem 261 65) - 1)))))) : Cv X (d + 1) 245 [(2, 261)] rf mem Q := by
  show zW X (d + 1) 245 0 [(2, 261)] [] (zty, rf, mem) (qv rf Q)
  refine zW.go 1 1 [(2, 261)] [(2, 261)] _ rfl ?_
  refine w_getI (q := 261) rfl (by decide) (pc' := 4) rfl ⟨by decide, rfl⟩ rfl (by decide) ?_
  refine zW.go 1 6 [(2, 261)] [(0, 20), (0, (mem 261 65))] _ rfl ?_
  refine w_ic_ne rfl (by decide) (pc' := 9) rfl ⟨h.1, by decide⟩ (fun c1 => ?_) (fun c1 => ?_)
  · have h := h.2.1 c1
    exact h
  · have h := h.2.2 c1
    refine zW.go 2 11 [(2, 261)] [(2, 261), (2, 261)] _ rfl ?_
    refine w_getI (q := 261) rfl (by decide) (pc' := 14) rfl ⟨by decide, rfl⟩ rfl (by decide) ?_
    refine zW.go 3 18 [(2, 261)] [(0, 20), (0, ((mem 261 64) + 1)), (2, 261)] _ rfl ?_
    obtain ⟨g, h⟩ := h
    refine w_irem rfl (by decide) (pc' := 19) rfl ⟨g, by decide, by decide⟩ ?_
    refine w_putI (q := 261) rfl (by decide) (pc' := 22) rfl ⟨by decide, rfl⟩ rfl (by decide) ?_
    refine zW.go 2 24 [(2, 261)] [(2, 261), (2, 261)] _ rfl ?_
    refine w_getI (q := 261) rfl (by decide) (pc' := 27) rfl ⟨by decide, rfl⟩ rfl (by decide) ?_
    refine zW.go 2 29 [(2, 261)] [(0, ((mem 261 65) - 1)), (2, 261)] _ rfl ?_
    refine w_putI (q := 261) rfl (by decide) (pc' := 32) rfl ⟨by decide, rfl⟩ rfl (by decide) ?_
    exact h
def L_m_floor_32 (X : zX) (d : Nat) (rf : zF) (Q : Int → zF → Prop) (mem : zF) (x2 : Int) (x4 : Int) (s0 : Int) : Prop := ∀ z0 : zV, ∀ z1 : zV, zW X d 248 32 [z0, z1, (1, x2), (9, 0), (1, x4), (9, 0)] [(0, s0)] (zty, rf, mem) (ql rf Q)
def L_m_floor_43 (X : zX) (d : Nat) (rf : zF) (Q : Int → zF → Prop) (mem : zF) (x4 : Int) (s0 : Int) (s1 : Int) : Prop := ∀ z0 : zV, ∀ z1 : zV, ∀ z2 : zV, ∀ z3 : zV, zW X d 248 43 [z0, z1, z2, z3, (1, x4), (9, 0)] [(0, s1), (0, s0)] (zty, rf, mem) (ql rf Q)
theorem s_m_floor_32 {X : zX} {d : Nat} {rf mem : zF} {Q : Int → zF → Prop} (hR : zall rf zRL = true) {x2 : Int} {x4 : Int} {s0 : Int} (h : (inL x2 ∧ inL 0) ∧ ((inI (if x2 < 0 then -1 else if x2 = 0 then 0 else 1)) ∧ ((0 ≤ (if x2 < 0 then -1 else if x2 = 0 then 0 else 1) → L_m_floor_43 X d rf Q mem x4 s0 0) ∧ (¬ 0 ≤ (if x2 < 0 then -1 else if x2 = 0 then 0 else 1) → L_m_floor_43 X d rf Q mem x4 s0 1)))) : L_m_floor_32 X d rf Q mem x2 x4 s0 := by
  intro z0 z1
  refine zW.go 2 34 [z0, z1, (1, x2), (9, 0), (1, x4), (9, 0)] [(1, 0), (1, x2), (0, s0)] _ rfl ?_
  obtain ⟨g, h⟩ := h
  refine w_lcmp rfl (by decide) (pc' := 35) rfl g ?_
  refine w_if_ge rfl (by decide) (pc' := 38) rfl h.1 (fun c4 => ?_) (fun c4 => ?_)
  · have h := h.2.1 c4
    refine zW.go 1 43 [z0, z1, (1, x2), (9, 0), (1, x4), (9, 0)] [(0, 0), (0, s0)] _ rfl ?_
    exact h z0 z1 (1, x2) (9, 0)
  · have h := h.2.2 c4
    refine zW.go 2 43 [z0, z1, (1, x2), (9, 0), (1, x4), (9, 0)] [(0, 1), (0, s0)] _ rfl ?_
    exact h z0 z1 (1, x2) (9, 0)
theorem s_m_floor_43 {X : zX} {d : Nat} {rf mem : zF} {Q : Int → zF → Prop} (hR : zall rf zRL = true) {x4 : Int} {s0 : Int} {s1 : Int} (h : (inI s0 ∧ inI s1) ∧ ((s0 = s1 → Q x4 mem) ∧ (¬ s0 = s1 → Q (x4 - 1) mem))) : L_m_floor_43 X d rf Q mem x4 s0 s1 := by
  intro z0 z1 z2 z3
  refine w_ic_eq rfl (by decide) (pc' := 46) rfl h.1 (fun c5 => ?_) (fun c5 => ?_)
  · have h := h.2.1 c5
    refine zW.go 1 55 [z0, z1, z2, z3, (1, x4), (9, 0)] [(1, x4)] _ rfl ?_
    exact w_retl rfl rfl h
  · have h := h.2.2 c5
    refine zW.go 4 55 [z0, z1, z2, z3, (1, x4), (9, 0)] [(1, (x4 - 1))] _ rfl ?_
    exact w_retl rfl rfl h
theorem s_m_floor {X : zX} {d : Nat} {rf mem : zF} {Q : Int → zF → Prop} (hR : zall rf zRL = true) {x0 : Int} {x2 : Int} (h : (inL x2 ∧ inL 0) ∧ ((inI (if x2 < 0 then -1 else if x2 = 0 then 0 else 1)) ∧ ((¬ (if x2 < 0 then -1 else if x2 = 0 then 0 else 1) = 0 → (inL x0 ∧ inL x2 ∧ x2 ≠ 0) ∧ ((inL x0 ∧ inL x2 ∧ x2 ≠ 0) ∧ ((inL (x0.tmod x2) ∧ inL 0) ∧ ((inI (if (x0.tmod x2) < 0 then -1 else if (x0.tmod x2) = 0 then 0 else 1)) ∧ (((if (x0.tmod x2) < 0 then -1 else if (x0.tmod x2) = 0 then 0 else 1) = 0 → Q (x0.tdiv x2) mem) ∧ (¬ (if (x0.tmod x2) < 0 then -1 else if (x0.tmod x2) = 0 then 0 else 1) = 0 → (inL x0 ∧ inL 0) ∧ ((inI (if x0 < 0 then -1 else if x0 = 0 then 0 else 1)) ∧ ((0 ≤ (if x0 < 0 then -1 else if x0 = 0 then 0 else 1) → L_m_floor_32 X d rf Q mem x2 (x0.tdiv x2) 0) ∧ (¬ 0 ≤ (if x0 < 0 then -1 else if x0 = 0 then 0 else 1) → L_m_floor_32 X d rf Q mem x2 (x0.tdiv x2) 1))))))))) ∧ ((if x2 < 0 then -1 else if x2 = 0 then 0 else 1) = 0 → Q 0 mem)))) : Cl X d 248 [(1, x0), (1, x2)] rf mem Q := by
  show zW X d 248 0 [(1, x0), (9, 0), (1, x2), (9, 0), (9, 0), (9, 0)] [] (zty, rf, mem) (ql rf Q)
  refine zW.go 2 2 [(1, x0), (9, 0), (1, x2), (9, 0), (9, 0), (9, 0)] [(1, 0), (1, x2)] _ rfl ?_
  obtain ⟨g, h⟩ := h
  refine w_lcmp rfl (by decide) (pc' := 3) rfl g ?_
  refine w_if_ne rfl (by decide) (pc' := 6) rfl h.1 (fun c1 => ?_) (fun c1 => ?_)
  · have h := h.2.1 c1
    refine zW.go 2 10 [(1, x0), (9, 0), (1, x2), (9, 0), (9, 0), (9, 0)] [(1, x2), (1, x0)] _ rfl ?_
    obtain ⟨g, h⟩ := h
    refine w_ldiv rfl (by decide) (pc' := 11) rfl g ?_
    refine zW.go 3 15 [(1, x0), (9, 0), (1, x2), (9, 0), (1, (x0.tdiv x2)), (9, 0)] [(1, x2), (1, x0)] _ rfl ?_
    obtain ⟨g, h⟩ := h
    refine w_lrem rfl (by decide) (pc' := 16) rfl g ?_
    refine zW.go 1 17 [(1, x0), (9, 0), (1, x2), (9, 0), (1, (x0.tdiv x2)), (9, 0)] [(1, 0), (1, (x0.tmod x2))] _ rfl ?_
    obtain ⟨g, h⟩ := h
    refine w_lcmp rfl (by decide) (pc' := 18) rfl g ?_
    refine w_if_eq rfl (by decide) (pc' := 21) rfl h.1 (fun c2 => ?_) (fun c2 => ?_)
    · have h := h.2.1 c2
      refine zW.go 1 55 [(1, x0), (9, 0), (1, x2), (9, 0), (1, (x0.tdiv x2)), (9, 0)] [(1, (x0.tdiv x2))] _ rfl ?_
      exact w_retl rfl rfl h
    · have h := h.2.2 c2
      refine zW.go 2 23 [(1, x0), (9, 0), (1, x2), (9, 0), (1, (x0.tdiv x2)), (9, 0)] [(1, 0), (1, x0)] _ rfl ?_
      obtain ⟨g, h⟩ := h
      refine w_lcmp rfl (by decide) (pc' := 24) rfl g ?_
      refine w_if_ge rfl (by decide) (pc' := 27) rfl h.1 (fun c3 => ?_) (fun c3 => ?_)
      · have h := h.2.1 c3
        refine zW.go 1 32 [(1, x0), (9, 0), (1, x2), (9, 0), (1, (x0.tdiv x2)), (9, 0)] [(0, 0)] _ rfl ?_
        exact h (1, x0) (9, 0)
      · have h := h.2.2 c3
        refine zW.go 2 32 [(1, x0), (9, 0), (1, x2), (9, 0), (1, (x0.tdiv x2)), (9, 0)] [(0, 1)] _ rfl ?_
        exact h (1, x0) (9, 0)
  · have h := h.2.2 c1
    refine zW.go 1 7 [(1, x0), (9, 0), (1, x2), (9, 0), (9, 0), (9, 0)] [(1, 0)] _ rfl ?_
    exact w_retl rfl rfl h
theorem s_m_two {X : zX} {d : Nat} {rf mem : zF} {Q : Int → zF → Prop} (hR : zall rf zRL = true) {x0 : Int} {x1 : Int} {x3 : Int} (h : (inI x0) ∧ ((x0 = 31 → Cl X d 247 [(1, (x1 + x3))] rf mem (fun r1 mem2 => Q r1 mem2)) ∧ (x0 = 32 → Cl X d 247 [(1, (x1 - x3))] rf mem (fun r3 mem4 => Q r3 mem4)) ∧ (x0 = 33 → Cl X d 247 [(1, (x1 * x3))] rf mem (fun r5 mem6 => Q r5 mem6)) ∧ (x0 = 34 → Cl X d 248 [(1, x1), (1, x3)] rf mem (fun r7 mem8 => Cl X d 247 [(1, r7)] rf mem8 (fun r9 mem10 => Q r9 mem10))) ∧ (x0 = 35 → (inL x3 ∧ inL 0) ∧ ((inI (if x3 < 0 then -1 else if x3 = 0 then 0 else 1)) ∧ ((¬ (if x3 < 0 then -1 else if x3 = 0 then 0 else 1) = 0 → Cl X d 248 [(1, x1), (1, x3)] rf mem (fun r12 mem13 => Cl X d 247 [(1, (x1 - (x3 * r12)))] rf mem13 (fun r14 mem15 => Q r14 mem15))) ∧ ((if x3 < 0 then -1 else if x3 = 0 then 0 else 1) = 0 → Q 0 mem)))) ∧ (x0 = 36 → (inL x1 ∧ inL x3) ∧ ((inI (if x1 < x3 then -1 else if x1 = x3 then 0 else 1)) ∧ ((0 ≤ (if x1 < x3 then -1 else if x1 = x3 then 0 else 1) → Q x3 mem) ∧ (¬ 0 ≤ (if x1 < x3 then -1 else if x1 = x3 then 0 else 1) → Q x1 mem)))) ∧ (x0 = 37 → (inL x1 ∧ inL x3) ∧ ((inI (if x1 < x3 then -1 else if x1 = x3 then 0 else 1)) ∧ (((if x1 < x3 then -1 else if x1 = x3 then 0 else 1) ≤ 0 → Q x3 mem) ∧ (¬ (if x1 < x3 then -1 else if x1 = x3 then 0 else 1) ≤ 0 → Q x1 mem)))) ∧ (x0 = 38 → (inL x1 ∧ inL x3) ∧ ((inI (if x1 < x3 then -1 else if x1 = x3 then 0 else 1)) ∧ ((0 ≤ (if x1 < x3 then -1 else if x1 = x3 then 0 else 1) → Q 0 mem) ∧ (¬ 0 ≤ (if x1 < x3 then -1 else if x1 = x3 then 0 else 1) → Q 1 mem)))) ∧ (x0 = 39 → (inL x1 ∧ inL x3) ∧ ((inI (if x1 < x3 then -1 else if x1 = x3 then 0 else 1)) ∧ (((if x1 < x3 then -1 else if x1 = x3 then 0 else 1) ≤ 0 → Q 0 mem) ∧ (¬ (if x1 < x3 then -1 else if x1 = x3 then 0 else 1) ≤ 0 → Q 1 mem)))) ∧ (x0 = 40 → (inL x1 ∧ inL x3) ∧ ((inI (if x1 < x3 then -1 else if x1 = x3 then 0 else 1)) ∧ ((¬ (if x1 < x3 then -1 else if x1 = x3 then 0 else 1) = 0 → Q 0 mem) ∧ ((if x1 < x3 then -1 else if x1 = x3 then 0 else 1) = 0 → Q 1 mem)))) ∧ (x0 = 41 → Q (zlan x1 x3) mem) ∧ ((x0 ≠ 31 ∧ x0 ≠ 32 ∧ x0 ≠ 33 ∧ x0 ≠ 34 ∧ x0 ≠ 35 ∧ x0 ≠ 36 ∧ x0 ≠ 37 ∧ x0 ≠ 38 ∧ x0 ≠ 39 ∧ x0 ≠ 40 ∧ x0 ≠ 41) → Q (zlor x1 x3) mem))) : Cl X (d + 1) 249 [(0, x0), (1, x1), (1, x3)] rf mem Q := by
  show zW X (d + 1) 249 0 [(0, x0), (1, x1), (9, 0), (1, x3), (9, 0)] [] (zty, rf, mem) (ql rf Q)
  refine zW.go 1 1 [(0, x0), (1, x1), (9, 0), (1, x3), (9, 0)] [(0, x0)] _ rfl ?_
  obtain ⟨g, h⟩ := h
  by_cases e0 : x0 = 31
  · refine w_tabIn 60 rfl (by decide) g (by omega) (by rw [e0]; rfl) rfl ?_
    have h := h.1 e0
    refine zW.go 3 63 [(0, x0), (1, x1), (9, 0), (1, x3), (9, 0)] [(1, (x1 + x3))] _ rfl ?_
    refine w_calll (as := [(1, (x1 + x3))]) [] 66 rfl rfl rfl rfl (Nat.le_of_ble_eq_true rfl) (Nat.le_of_ble_eq_true rfl) (Nat.le_of_ble_eq_true rfl) (Or.inl rfl) (Cl.imp h (fun r1 mem2 h => ?_))
    exact w_retl rfl rfl h
  · by_cases e1 : x0 = 32
    · refine w_tabIn 67 rfl (by decide) g (by omega) (by rw [e1]; rfl) rfl ?_
      have h := h.2.1 e1
      refine zW.go 3 70 [(0, x0), (1, x1), (9, 0), (1, x3), (9, 0)] [(1, (x1 - x3))] _ rfl ?_
      refine w_calll (as := [(1, (x1 - x3))]) [] 73 rfl rfl rfl rfl (Nat.le_of_ble_eq_true rfl) (Nat.le_of_ble_eq_true rfl) (Nat.le_of_ble_eq_true rfl) (Or.inl rfl) (Cl.imp h (fun r3 mem4 h => ?_))
      exact w_retl rfl rfl h
    · by_cases e2 : x0 = 33
      · refine w_tabIn 74 rfl (by decide) g (by omega) (by rw [e2]; rfl) rfl ?_
        have h := h.2.2.1 e2
        refine zW.go 3 77 [(0, x0), (1, x1), (9, 0), (1, x3), (9, 0)] [(1, (x1 * x3))] _ rfl ?_
        refine w_calll (as := [(1, (x1 * x3))]) [] 80 rfl rfl rfl rfl (Nat.le_of_ble_eq_true rfl) (Nat.le_of_ble_eq_true rfl) (Nat.le_of_ble_eq_true rfl) (Or.inl rfl) (Cl.imp h (fun r5 mem6 h => ?_))
        exact w_retl rfl rfl h
      · by_cases e3 : x0 = 34
        · refine w_tabIn 81 rfl (by decide) g (by omega) (by rw [e3]; rfl) rfl ?_
          have h := h.2.2.2.1 e3
          refine zW.go 2 83 [(0, x0), (1, x1), (9, 0), (1, x3), (9, 0)] [(1, x3), (1, x1)] _ rfl ?_
          refine w_calll (as := [(1, x1), (1, x3)]) [] 86 rfl rfl rfl rfl (Nat.le_of_ble_eq_true rfl) (Nat.le_of_ble_eq_true rfl) (Nat.le_of_ble_eq_true rfl) (Or.inl rfl) (Cl.imp h (fun r7 mem8 h => ?_))
          refine w_calll (as := [(1, r7)]) [] 89 rfl rfl rfl rfl (Nat.le_of_ble_eq_true rfl) (Nat.le_of_ble_eq_true rfl) (Nat.le_of_ble_eq_true rfl) (Or.inl rfl) (Cl.imp h (fun r9 mem10 h => ?_))
          exact w_retl rfl rfl h
        · by_cases e4 : x0 = 35
          · refine w_tabIn 90 rfl (by decide) g (by omega) (by rw [e4]; rfl) rfl ?_
            have h := h.2.2.2.2.1 e4
            refine zW.go 2 92 [(0, x0), (1, x1), (9, 0), (1, x3), (9, 0)] [(1, 0), (1, x3)] _ rfl ?_
            obtain ⟨g, h⟩ := h
            refine w_lcmp rfl (by decide) (pc' := 93) rfl g ?_
            refine w_if_ne rfl (by decide) (pc' := 96) rfl h.1 (fun c11 => ?_) (fun c11 => ?_)
            · have h := h.2.1 c11
              refine zW.go 4 104 [(0, x0), (1, x1), (9, 0), (1, x3), (9, 0)] [(1, x3), (1, x1), (1, x3), (1, x1)] _ rfl ?_
              refine w_calll (as := [(1, x1), (1, x3)]) [(1, x3), (1, x1)] 107 rfl rfl rfl rfl (Nat.le_of_ble_eq_true rfl) (Nat.le_of_ble_eq_true rfl) (Nat.le_of_ble_eq_true rfl) (Or.inl rfl) (Cl.imp h (fun r12 mem13 h => ?_))
              refine zW.go 2 109 [(0, x0), (1, x1), (9, 0), (1, x3), (9, 0)] [(1, (x1 - (x3 * r12)))] _ rfl ?_
              refine w_calll (as := [(1, (x1 - (x3 * r12)))]) [] 112 rfl rfl rfl rfl (Nat.le_of_ble_eq_true rfl) (Nat.le_of_ble_eq_true rfl) (Nat.le_of_ble_eq_true rfl) (Or.inl rfl) (Cl.imp h (fun r14 mem15 h => ?_))
              exact w_retl rfl rfl h
            · have h := h.2.2 c11
              refine zW.go 2 112 [(0, x0), (1, x1), (9, 0), (1, x3), (9, 0)] [(1, 0)] _ rfl ?_
              exact w_retl rfl rfl h
          · by_cases e5 : x0 = 36
            · refine w_tabIn 113 rfl (by decide) g (by omega) (by rw [e5]; rfl) rfl ?_
              have h := h.2.2.2.2.2.1 e5
              refine zW.go 2 115 [(0, x0), (1, x1), (9, 0), (1, x3), (9, 0)] [(1, x3), (1, x1)] _ rfl ?_
              obtain ⟨g, h⟩ := h
              refine w_lcmp rfl (by decide) (pc' := 116) rfl g ?_
              refine w_if_ge rfl (by decide) (pc' := 119) rfl h.1 (fun c16 => ?_) (fun c16 => ?_)
              · have h := h.2.1 c16
                refine zW.go 1 124 [(0, x0), (1, x1), (9, 0), (1, x3), (9, 0)] [(1, x3)] _ rfl ?_
                exact w_retl rfl rfl h
              · have h := h.2.2 c16
                refine zW.go 2 124 [(0, x0), (1, x1), (9, 0), (1, x3), (9, 0)] [(1, x1)] _ rfl ?_
                exact w_retl rfl rfl h
            · by_cases e6 : x0 = 37
              · refine w_tabIn 125 rfl (by decide) g (by omega) (by rw [e6]; rfl) rfl ?_
                have h := h.2.2.2.2.2.2.1 e6
                refine zW.go 2 127 [(0, x0), (1, x1), (9, 0), (1, x3), (9, 0)] [(1, x3), (1, x1)] _ rfl ?_
                obtain ⟨g, h⟩ := h
                refine w_lcmp rfl (by decide) (pc' := 128) rfl g ?_
                refine w_if_le rfl (by decide) (pc' := 131) rfl h.1 (fun c17 => ?_) (fun c17 => ?_)
                · have h := h.2.1 c17
                  refine zW.go 1 136 [(0, x0), (1, x1), (9, 0), (1, x3), (9, 0)] [(1, x3)] _ rfl ?_
                  exact w_retl rfl rfl h
                · have h := h.2.2 c17
                  refine zW.go 2 136 [(0, x0), (1, x1), (9, 0), (1, x3), (9, 0)] [(1, x1)] _ rfl ?_
                  exact w_retl rfl rfl h
              · by_cases e7 : x0 = 38
                · refine w_tabIn 137 rfl (by decide) g (by omega) (by rw [e7]; rfl) rfl ?_
                  have h := h.2.2.2.2.2.2.2.1 e7
                  refine zW.go 2 139 [(0, x0), (1, x1), (9, 0), (1, x3), (9, 0)] [(1, x3), (1, x1)] _ rfl ?_
                  obtain ⟨g, h⟩ := h
                  refine w_lcmp rfl (by decide) (pc' := 140) rfl g ?_
                  refine w_if_ge rfl (by decide) (pc' := 143) rfl h.1 (fun c18 => ?_) (fun c18 => ?_)
                  · have h := h.2.1 c18
                    refine zW.go 1 148 [(0, x0), (1, x1), (9, 0), (1, x3), (9, 0)] [(1, 0)] _ rfl ?_
                    exact w_retl rfl rfl h
                  · have h := h.2.2 c18
                    refine zW.go 2 148 [(0, x0), (1, x1), (9, 0), (1, x3), (9, 0)] [(1, 1)] _ rfl ?_
                    exact w_retl rfl rfl h
                · by_cases e8 : x0 = 39
                  · refine w_tabIn 149 rfl (by decide) g (by omega) (by rw [e8]; rfl) rfl ?_
                    have h := h.2.2.2.2.2.2.2.2.1 e8
                    refine zW.go 2 151 [(0, x0), (1, x1), (9, 0), (1, x3), (9, 0)] [(1, x3), (1, x1)] _ rfl ?_
                    obtain ⟨g, h⟩ := h
                    refine w_lcmp rfl (by decide) (pc' := 152) rfl g ?_
                    refine w_if_le rfl (by decide) (pc' := 155) rfl h.1 (fun c19 => ?_) (fun c19 => ?_)
                    · have h := h.2.1 c19
                      refine zW.go 1 160 [(0, x0), (1, x1), (9, 0), (1, x3), (9, 0)] [(1, 0)] _ rfl ?_
                      exact w_retl rfl rfl h
                    · have h := h.2.2 c19
                      refine zW.go 2 160 [(0, x0), (1, x1), (9, 0), (1, x3), (9, 0)] [(1, 1)] _ rfl ?_
                      exact w_retl rfl rfl h
                  · by_cases e9 : x0 = 40
                    · refine w_tabIn 161 rfl (by decide) g (by omega) (by rw [e9]; rfl) rfl ?_
                      have h := h.2.2.2.2.2.2.2.2.2.1 e9
                      refine zW.go 2 163 [(0, x0), (1, x1), (9, 0), (1, x3), (9, 0)] [(1, x3), (1, x1)] _ rfl ?_
                      obtain ⟨g, h⟩ := h
                      refine w_lcmp rfl (by decide) (pc' := 164) rfl g ?_
                      refine w_if_ne rfl (by decide) (pc' := 167) rfl h.1 (fun c20 => ?_) (fun c20 => ?_)
                      · have h := h.2.1 c20
                        refine zW.go 1 172 [(0, x0), (1, x1), (9, 0), (1, x3), (9, 0)] [(1, 0)] _ rfl ?_
                        exact w_retl rfl rfl h
                      · have h := h.2.2 c20
                        refine zW.go 2 172 [(0, x0), (1, x1), (9, 0), (1, x3), (9, 0)] [(1, 1)] _ rfl ?_
                        exact w_retl rfl rfl h
                    · by_cases e10 : x0 = 41
                      · refine w_tabIn 173 rfl (by decide) g (by omega) (by rw [e10]; rfl) rfl ?_
                        have h := h.2.2.2.2.2.2.2.2.2.2.1 e10
                        refine zW.go 3 176 [(0, x0), (1, x1), (9, 0), (1, x3), (9, 0)] [(1, (zlan x1 x3))] _ rfl ?_
                        exact w_retl rfl rfl h
                      · refine w_tabOut 177 rfl (by decide) g (by omega) rfl ?_
                        have h := h.2.2.2.2.2.2.2.2.2.2.2 ⟨e0, e1, e2, e3, e4, e5, e6, e7, e8, e9, e10⟩
                        refine zW.go 3 176 [(0, x0), (1, x1), (9, 0), (1, x3), (9, 0)] [(1, (zlan x1 x3))] _ rfl ?_
                        exact w_retl rfl rfl h
theorem s_m_cut {X : zX} {d : Nat} {rf mem : zF} {Q : Int → zF → Prop} (hR : zall rf zRL = true) {x0 : Int} {x2 : Int} (h : (inL x0 ∧ inL 0) ∧ ((inI (if x0 < 0 then -1 else if x0 = 0 then 0 else 1)) ∧ ((0 ≤ (if x0 < 0 then -1 else if x0 = 0 then 0 else 1) → (inI x2) ∧ ((inL x0 ∧ inL x2) ∧ ((inI (if x0 < x2 then -1 else if x0 = x2 then 0 else 1)) ∧ (((if x0 < x2 then -1 else if x0 = x2 then 0 else 1) ≤ 0 → Q x0 mem) ∧ (¬ (if x0 < x2 then -1 else if x0 = x2 then 0 else 1) ≤ 0 → Q x2 mem))))) ∧ (¬ 0 ≤ (if x0 < 0 then -1 else if x0 = 0 then 0 else 1) → Q 0 mem)))) : Ci X d 252 [(1, x0), (0, x2)] rf mem Q := by
  show zW X d 252 0 [(1, x0), (9, 0), (0, x2)] [] (zty, rf, mem) (qi rf Q)
  refine zW.go 2 2 [(1, x0), (9, 0), (0, x2)] [(1, 0), (1, x0)] _ rfl ?_
  obtain ⟨g, h⟩ := h
  refine w_lcmp rfl (by decide) (pc' := 3) rfl g ?_
  refine w_if_ge rfl (by decide) (pc' := 6) rfl h.1 (fun c1 => ?_) (fun c1 => ?_)
  · have h := h.2.1 c1
    refine zW.go 2 12 [(1, x0), (9, 0), (0, x2)] [(0, x2), (1, x0)] _ rfl ?_
    obtain ⟨g, h⟩ := h
    refine w_i2l rfl (by decide) (pc' := 13) rfl g ?_
    obtain ⟨g, h⟩ := h
    refine w_lcmp rfl (by decide) (pc' := 14) rfl g ?_
    refine w_if_le rfl (by decide) (pc' := 17) rfl h.1 (fun c2 => ?_) (fun c2 => ?_)
    · have h := h.2.1 c2
      refine zW.go 2 23 [(1, x0), (9, 0), (0, x2)] [(0, x0)] _ rfl ?_
      exact w_reti rfl rfl h
    · have h := h.2.2 c2
      refine zW.go 2 23 [(1, x0), (9, 0), (0, x2)] [(0, x2)] _ rfl ?_
      exact w_reti rfl rfl h
  · have h := h.2.2 c1
    refine zW.go 2 23 [(1, x0), (9, 0), (0, x2)] [(0, 0)] _ rfl ?_
    exact w_reti rfl rfl h
def L_m_heirIn_2 (X : zX) (d : Nat) (rf : zF) (Q : Int → zF → Prop) (mem : zF) (x1 : Int) (x2 : Int) (x3 : Int) : Prop := zW X d 259 2 [(2, 261), (0, x1), (0, x2), (0, x3)] [] (zty, rf, mem) (qi rf Q)
theorem s_m_heirIn_2 {X : zX} {d : Nat} {rf mem : zF} {Q : Int → zF → Prop} (hR : zall rf zRL = true) {x1 : Int} {x2 : Int} {x3 : Int} (h : (0 ≤ (mem 261 13) ∧ (mem 261 13) < 2) ∧ ((inI x3 ∧ inI (mem 271 ((mem 261 13)).toNat)) ∧ (((mem 271 ((mem 261 13)).toNat) ≤ x3 → Q (-1) mem) ∧ (¬ (mem 271 ((mem 261 13)).toNat) ≤ x3 → (0 ≤ ((6 * x1) + x3) ∧ ((6 * x1) + x3) < 132) ∧ ((inI (mem 296 (((6 * x1) + x3)).toNat) ∧ inI x2) ∧ ((¬ (mem 296 (((6 * x1) + x3)).toNat) = x2 → L_m_heirIn_2 X d rf Q mem x1 x2 (x3 + 1)) ∧ ((mem 296 (((6 * x1) + x3)).toNat) = x2 → Q x3 mem))))))) : L_m_heirIn_2 X d rf Q mem x1 x2 x3 := by
  refine zW.go 2 4 [(2, 261), (0, x1), (0, x2), (0, x3)] [(2, 261), (0, x3)] _ rfl ?_
  refine w_getL (q := 261) (v := 271) rfl (by decide) (pc' := 7) rfl ⟨by decide, rfl⟩ rfl rfl (zall_at hR (by decide)) ?_
  refine zW.go 1 8 [(2, 261), (0, x1), (0, x2), (0, x3)] [(2, 261), (2, 271), (0, x3)] _ rfl ?_
  refine w_getI (q := 261) rfl (by decide) (pc' := 11) rfl ⟨by decide, rfl⟩ rfl (by decide) ?_
  obtain ⟨g, h⟩ := h
  refine w_iald (q := 271) rfl (by decide) (pc' := 12) rfl ⟨by decide, rfl⟩ rfl g rfl ?_
  refine w_ic_ge rfl (by decide) (pc' := 15) rfl h.1 (fun c1 => ?_) (fun c1 => ?_)
  · have h := h.2.1 c1
    refine zW.go 1 39 [(2, 261), (0, x1), (0, x2), (0, x3)] [(0, (-1))] _ rfl ?_
    exact w_reti rfl rfl h
  · have h := h.2.2 c1
    refine zW.go 1 16 [(2, 261), (0, x1), (0, x2), (0, x3)] [(2, 261)] _ rfl ?_
    refine w_getL (q := 261) (v := 296) rfl (by decide) (pc' := 19) rfl ⟨by decide, rfl⟩ rfl rfl (zall_at hR (by decide)) ?_
    refine zW.go 5 25 [(2, 261), (0, x1), (0, x2), (0, x3)] [(0, ((6 * x1) + x3)), (2, 296)] _ rfl ?_
    obtain ⟨g, h⟩ := h
    refine w_iald (q := 296) rfl (by decide) (pc' := 26) rfl ⟨by decide, rfl⟩ rfl g rfl ?_
    refine zW.go 1 27 [(2, 261), (0, x1), (0, x2), (0, x3)] [(0, x2), (0, (mem 296 (((6 * x1) + x3)).toNat))] _ rfl ?_
    refine w_ic_ne rfl (by decide) (pc' := 30) rfl h.1 (fun c2 => ?_) (fun c2 => ?_)
    · have h := h.2.1 c2
      refine zW.go 2 2 [(2, 261), (0, x1), (0, x2), (0, (x3 + 1))] [] _ rfl ?_
      exact h
    · have h := h.2.2 c2
      refine zW.go 1 31 [(2, 261), (0, x1), (0, x2), (0, x3)] [(0, x3)] _ rfl ?_
      exact w_reti rfl rfl h
theorem s_m_heirIn {X : zX} {d : Nat} {rf mem : zF} {Q : Int → zF → Prop} (hR : zall rf zRL = true) {x1 : Int} {x2 : Int} (h : L_m_heirIn_2 X d rf Q mem x1 x2 0) : Ci X d 259 [(2, 261), (0, x1), (0, x2)] rf mem Q := by
  show zW X d 259 0 [(2, 261), (0, x1), (0, x2), (9, 0)] [] (zty, rf, mem) (qi rf Q)
  refine zW.go 2 2 [(2, 261), (0, x1), (0, x2), (0, 0)] [] _ rfl ?_
  exact h
theorem s_m_goesOut {X : zX} {d : Nat} {rf mem : zF} {Q : zF → Prop} (hR : zall rf zRL = true) {x1 : Int} {x2 : Int} (h : (0 ≤ ((6 * x1) + x2) ∧ ((6 * x1) + x2) < 132) ∧ ((0 ≤ ((6 * x1) + x2) ∧ ((6 * x1) + x2) < 132) ∧ ((0 ≤ ((6 * x1) + x2) ∧ ((6 * x1) + x2) < 132) ∧ ((0 ≤ ((6 * x1) + x2) ∧ ((6 * x1) + x2) < 132) ∧ (Q (zup (zup (zup (zup mem 297 (((6 * x1) + x2)).toNat (-1)) 298 (((6 * x1) + x2)).toNat 0) 299 (((6 * x1) + x2)).toNat 0) 300 (((6 * x1) + x2)).toNat 0)))))) : Cv X d 261 [(2, 261), (0, x1), (0, x2)] rf mem Q := by
  show zW X d 261 0 [(2, 261), (0, x1), (0, x2)] [] (zty, rf, mem) (qv rf Q)
  refine zW.go 1 1 [(2, 261), (0, x1), (0, x2)] [(2, 261)] _ rfl ?_
  refine w_getL (q := 261) (v := 297) rfl (by decide) (pc' := 4) rfl ⟨by decide, rfl⟩ rfl rfl (zall_at hR (by decide)) ?_
  refine zW.go 6 11 [(2, 261), (0, x1), (0, x2)] [(0, (-1)), (0, ((6 * x1) + x2)), (2, 297)] _ rfl ?_
  obtain ⟨g, h⟩ := h
  refine w_iast (q := 297) rfl (by decide) (pc' := 12) rfl ⟨by decide, rfl⟩ rfl g rfl ?_
  refine zW.go 1 13 [(2, 261), (0, x1), (0, x2)] [(2, 261)] _ rfl ?_
  refine w_getL (q := 261) (v := 298) rfl (by decide) (pc' := 16) rfl ⟨by decide, rfl⟩ rfl rfl (zall_at hR (by decide)) ?_
  refine zW.go 6 23 [(2, 261), (0, x1), (0, x2)] [(0, 0), (0, ((6 * x1) + x2)), (2, 298)] _ rfl ?_
  obtain ⟨g, h⟩ := h
  refine w_iast (q := 298) rfl (by decide) (pc' := 24) rfl ⟨by decide, rfl⟩ rfl g rfl ?_
  refine zW.go 1 25 [(2, 261), (0, x1), (0, x2)] [(2, 261)] _ rfl ?_
  refine w_getL (q := 261) (v := 299) rfl (by decide) (pc' := 28) rfl ⟨by decide, rfl⟩ rfl rfl (zall_at hR (by decide)) ?_
  refine zW.go 6 35 [(2, 261), (0, x1), (0, x2)] [(0, 0), (0, ((6 * x1) + x2)), (2, 299)] _ rfl ?_
  obtain ⟨g, h⟩ := h
  refine w_iast (q := 299) rfl (by decide) (pc' := 36) rfl ⟨by decide, rfl⟩ rfl g rfl ?_
  refine zW.go 1 37 [(2, 261), (0, x1), (0, x2)] [(2, 261)] _ rfl ?_
  refine w_getL (q := 261) (v := 300) rfl (by decide) (pc' := 40) rfl ⟨by decide, rfl⟩ rfl rfl (zall_at hR (by decide)) ?_
  refine zW.go 6 47 [(2, 261), (0, x1), (0, x2)] [(0, 0), (0, ((6 * x1) + x2)), (2, 300)] _ rfl ?_
  obtain ⟨g, h⟩ := h
  refine w_iast (q := 300) rfl (by decide) (pc' := 48) rfl ⟨by decide, rfl⟩ rfl g rfl ?_
  exact w_retv rfl rfl h
def L_m_bits_4 (X : zX) (d : Nat) (rf : zF) (Q : Int → zF → Prop) (mem : zF) (x1 : Int) (x2 : Int) : Prop := ∀ z0 : zV, z0.1 ≠ 1 → zW X d 264 4 [z0, (0, x1), (0, x2)] [] (zty, rf, mem) (qi rf Q)
theorem s_m_bits_4 {X : zX} {d : Nat} {rf mem : zF} {Q : Int → zF → Prop} (hR : zall rf zRL = true) {x1 : Int} {x2 : Int} (h : (inI x2) ∧ ((x2 = 0 → Q x1 mem) ∧ (¬ x2 = 0 → L_m_bits_4 X d rf Q mem (x1 + 1) (zand x2 (x2 - 1))))) : L_m_bits_4 X d rf Q mem x1 x2 := by
  intro z0 hz0
  refine zW.go 1 5 [z0, (0, x1), (0, x2)] [(0, x2)] _ rfl ?_
  refine w_if_eq rfl (by decide) (pc' := 8) rfl h.1 (fun c1 => ?_) (fun c1 => ?_)
  · have h := h.2.1 c1
    refine zW.go 1 21 [z0, (0, x1), (0, x2)] [(0, x1)] _ rfl ?_
    exact w_reti rfl rfl h
  · have h := h.2.2 c1
    refine zW.step 11 [z0, (0, (x1 + 1)), (0, x2)] [] _ rfl (by decide) (by decide) (by show some (_, zst1 [z0, (0, x1), (0, x2)] 1 _, _, _) = _; rw [zst1_z (ls := [z0, (0, x1), (0, x2)]) (i := 1) hz0]; rfl) ?_
    refine zW.go 7 4 [z0, (0, (x1 + 1)), (0, (zand x2 (x2 - 1)))] [] _ rfl ?_
    exact h z0 hz0
theorem s_m_bits {X : zX} {d : Nat} {rf mem : zF} {Q : Int → zF → Prop} (hR : zall rf zRL = true) {x0 : Int} (h : L_m_bits_4 X d rf Q mem 0 x0) : Ci X d 264 [(0, x0)] rf mem Q := by
  show zW X d 264 0 [(0, x0), (9, 0), (9, 0)] [] (zty, rf, mem) (qi rf Q)
  refine zW.go 4 4 [(0, x0), (0, 0), (0, x0)] [] _ rfl ?_
  exact h (0, x0) (by show (0 : Nat) ≠ 1; decide)
def L_m_has_127 (X : zX) (d : Nat) (rf : zF) (Q : Int → zF → Prop) (mem : zF) (x2 : Int) (x3 : Int) : Prop := ∀ z1 : zV, z1.1 ≠ 1 → zW X (d + 1) 273 127 [(2, 261), z1, (0, x2), (0, x3)] [] (zty, rf, mem) (qi rf Q)
def L_m_has_167 (X : zX) (d : Nat) (rf : zF) (Q : Int → zF → Prop) (mem : zF) (x2 : Int) (x3 : Int) : Prop := ∀ z1 : zV, z1.1 ≠ 1 → zW X (d + 1) 273 167 [(2, 261), z1, (0, x2), (0, x3)] [] (zty, rf, mem) (qi rf Q)
def L_m_has_208 (X : zX) (d : Nat) (rf : zF) (Q : Int → zF → Prop) (mem : zF) (x2 : Int) (x3 : Int) : Prop := ∀ z1 : zV, z1.1 ≠ 1 → zW X (d + 1) 273 208 [(2, 261), z1, (0, x2), (0, x3)] [] (zty, rf, mem) (qi rf Q)
theorem s_m_has_127 {X : zX} {d : Nat} {rf mem : zF} {Q : Int → zF → Prop} (hR : zall rf zRL = true) {x2 : Int} {x3 : Int} (h : (0 ≤ (mem 261 13) ∧ (mem 261 13) < 2) ∧ ((inI x3 ∧ inI (mem 274 ((mem 261 13)).toNat)) ∧ (((mem 274 ((mem 261 13)).toNat) ≤ x3 → Q x2 mem) ∧ (¬ (mem 274 ((mem 261 13)).toNat) ≤ x3 → Ci X d 258 [(2, 261), (0, 0), (0, x3)] rf mem (fun r2 mem3 => (inI r2) ∧ ((r2 = 0 → L_m_has_127 X d rf Q mem3 (x2 + 0) (x3 + 1)) ∧ (¬ r2 = 0 → L_m_has_127 X d rf Q mem3 (x2 + 1) (x3 + 1)))))))) : L_m_has_127 X d rf Q mem x2 x3 := by
  intro z1 hz1
  refine zW.go 2 129 [(2, 261), z1, (0, x2), (0, x3)] [(2, 261), (0, x3)] _ rfl ?_
  refine w_getL (q := 261) (v := 274) rfl (by decide) (pc' := 132) rfl ⟨by decide, rfl⟩ rfl rfl (zall_at hR (by decide)) ?_
  refine zW.go 1 133 [(2, 261), z1, (0, x2), (0, x3)] [(2, 261), (2, 274), (0, x3)] _ rfl ?_
  refine w_getI (q := 261) rfl (by decide) (pc' := 136) rfl ⟨by decide, rfl⟩ rfl (by decide) ?_
  obtain ⟨g, h⟩ := h
  refine w_iald (q := 274) rfl (by decide) (pc' := 137) rfl ⟨by decide, rfl⟩ rfl g rfl ?_
  refine w_ic_ge rfl (by decide) (pc' := 140) rfl h.1 (fun c1 => ?_) (fun c1 => ?_)
  · have h := h.2.1 c1
    refine zW.go 1 164 [(2, 261), z1, (0, x2), (0, x3)] [(0, x2)] _ rfl ?_
    exact w_reti rfl rfl h
  · have h := h.2.2 c1
    refine zW.go 4 144 [(2, 261), z1, (0, x2), (0, x3)] [(0, x3), (0, 0), (2, 261), (0, x2)] _ rfl ?_
    refine w_calli (as := [(2, 261), (0, 0), (0, x3)]) [(0, x2)] 147 rfl rfl rfl rfl (Nat.le_of_ble_eq_true rfl) (Nat.le_of_ble_eq_true rfl) (Nat.le_of_ble_eq_true rfl) (Or.inr rfl) (Ci.imp h (fun r2 mem3 h => ?_))
    refine w_if_eq rfl (by decide) (pc' := 150) rfl h.1 (fun c4 => ?_) (fun c4 => ?_)
    · have h := h.2.1 c4
      refine zW.go 2 156 [(2, 261), z1, (0, x2), (0, x3)] [(0, (x2 + 0))] _ rfl ?_
      refine zW.step 157 [(2, 261), z1, (0, (x2 + 0)), (0, x3)] [] _ rfl (by decide) (by decide) (by show some (_, zst1 [(2, 261), z1, (0, x2), (0, x3)] 2 _, _, _) = _; rw [zst1_z (ls := [(2, 261), z1, (0, x2), (0, x3)]) (i := 2) hz1]; rfl) ?_
      refine zW.go 2 127 [(2, 261), z1, (0, (x2 + 0)), (0, (x3 + 1))] [] _ rfl ?_
      exact h z1 hz1
    · have h := h.2.2 c4
      refine zW.go 3 156 [(2, 261), z1, (0, x2), (0, x3)] [(0, (x2 + 1))] _ rfl ?_
      refine zW.step 157 [(2, 261), z1, (0, (x2 + 1)), (0, x3)] [] _ rfl (by decide) (by decide) (by show some (_, zst1 [(2, 261), z1, (0, x2), (0, x3)] 2 _, _, _) = _; rw [zst1_z (ls := [(2, 261), z1, (0, x2), (0, x3)]) (i := 2) hz1]; rfl) ?_
      refine zW.go 2 127 [(2, 261), z1, (0, (x2 + 1)), (0, (x3 + 1))] [] _ rfl ?_
      exact h z1 hz1
theorem s_m_has_167 {X : zX} {d : Nat} {rf mem : zF} {Q : Int → zF → Prop} (hR : zall rf zRL = true) {x2 : Int} {x3 : Int} (h : (0 ≤ (mem 261 13) ∧ (mem 261 13) < 2) ∧ ((inI x3 ∧ inI (mem 274 ((mem 261 13)).toNat)) ∧ (((mem 274 ((mem 261 13)).toNat) ≤ x3 → Q x2 mem) ∧ (¬ (mem 274 ((mem 261 13)).toNat) ≤ x3 → (0 ≤ x3 ∧ x3 < 132) ∧ ((inI (mem 301 (x3).toNat)) ∧ ((¬ (mem 301 (x3).toNat) = (-1) → L_m_has_167 X d rf Q mem (x2 + 1) (x3 + 1)) ∧ ((mem 301 (x3).toNat) = (-1) → L_m_has_167 X d rf Q mem (x2 + 0) (x3 + 1)))))))) : L_m_has_167 X d rf Q mem x2 x3 := by
  intro z1 hz1
  refine zW.go 2 169 [(2, 261), z1, (0, x2), (0, x3)] [(2, 261), (0, x3)] _ rfl ?_
  refine w_getL (q := 261) (v := 274) rfl (by decide) (pc' := 172) rfl ⟨by decide, rfl⟩ rfl rfl (zall_at hR (by decide)) ?_
  refine zW.go 1 173 [(2, 261), z1, (0, x2), (0, x3)] [(2, 261), (2, 274), (0, x3)] _ rfl ?_
  refine w_getI (q := 261) rfl (by decide) (pc' := 176) rfl ⟨by decide, rfl⟩ rfl (by decide) ?_
  obtain ⟨g, h⟩ := h
  refine w_iald (q := 274) rfl (by decide) (pc' := 177) rfl ⟨by decide, rfl⟩ rfl g rfl ?_
  refine w_ic_ge rfl (by decide) (pc' := 180) rfl h.1 (fun c5 => ?_) (fun c5 => ?_)
  · have h := h.2.1 c5
    refine zW.go 1 205 [(2, 261), z1, (0, x2), (0, x3)] [(0, x2)] _ rfl ?_
    exact w_reti rfl rfl h
  · have h := h.2.2 c5
    refine zW.go 2 182 [(2, 261), z1, (0, x2), (0, x3)] [(2, 261), (0, x2)] _ rfl ?_
    refine w_getL (q := 261) (v := 301) rfl (by decide) (pc' := 185) rfl ⟨by decide, rfl⟩ rfl rfl (zall_at hR (by decide)) ?_
    refine zW.go 1 186 [(2, 261), z1, (0, x2), (0, x3)] [(0, x3), (2, 301), (0, x2)] _ rfl ?_
    obtain ⟨g, h⟩ := h
    refine w_iald (q := 301) rfl (by decide) (pc' := 187) rfl ⟨by decide, rfl⟩ rfl g rfl ?_
    refine zW.go 1 188 [(2, 261), z1, (0, x2), (0, x3)] [(0, (-1)), (0, (mem 301 (x3).toNat)), (0, x2)] _ rfl ?_
    refine w_ic_ne rfl (by decide) (pc' := 191) rfl ⟨h.1, by decide⟩ (fun c6 => ?_) (fun c6 => ?_)
    · have h := h.2.1 c6
      refine zW.go 2 197 [(2, 261), z1, (0, x2), (0, x3)] [(0, (x2 + 1))] _ rfl ?_
      refine zW.step 198 [(2, 261), z1, (0, (x2 + 1)), (0, x3)] [] _ rfl (by decide) (by decide) (by show some (_, zst1 [(2, 261), z1, (0, x2), (0, x3)] 2 _, _, _) = _; rw [zst1_z (ls := [(2, 261), z1, (0, x2), (0, x3)]) (i := 2) hz1]; rfl) ?_
      refine zW.go 2 167 [(2, 261), z1, (0, (x2 + 1)), (0, (x3 + 1))] [] _ rfl ?_
      exact h z1 hz1
    · have h := h.2.2 c6
      refine zW.go 3 197 [(2, 261), z1, (0, x2), (0, x3)] [(0, (x2 + 0))] _ rfl ?_
      refine zW.step 198 [(2, 261), z1, (0, (x2 + 0)), (0, x3)] [] _ rfl (by decide) (by decide) (by show some (_, zst1 [(2, 261), z1, (0, x2), (0, x3)] 2 _, _, _) = _; rw [zst1_z (ls := [(2, 261), z1, (0, x2), (0, x3)]) (i := 2) hz1]; rfl) ?_
      refine zW.go 2 167 [(2, 261), z1, (0, (x2 + 0)), (0, (x3 + 1))] [] _ rfl ?_
      exact h z1 hz1
theorem s_m_has_208 {X : zX} {d : Nat} {rf mem : zF} {Q : Int → zF → Prop} (hR : zall rf zRL = true) {x2 : Int} {x3 : Int} (h : (0 ≤ (mem 261 13) ∧ (mem 261 13) < 2) ∧ ((inI x3 ∧ inI (mem 274 ((mem 261 13)).toNat)) ∧ (((mem 274 ((mem 261 13)).toNat) ≤ x3 → Q x2 mem) ∧ (¬ (mem 274 ((mem 261 13)).toNat) ≤ x3 → (0 ≤ x3 ∧ x3 < 132) ∧ ((inI (mem 301 (x3).toNat)) ∧ ((¬ (mem 301 (x3).toNat) = (-1) → L_m_has_208 X d rf Q mem (x2 + 0) (x3 + 1)) ∧ ((mem 301 (x3).toNat) = (-1) → Ci X d 272 [(2, 261), (0, x3)] rf mem (fun r9 mem10 => (inI r9) ∧ ((¬ r9 = (-1) → L_m_has_208 X d rf Q mem10 (x2 + 0) (x3 + 1)) ∧ (r9 = (-1) → L_m_has_208 X d rf Q mem10 (x2 + 1) (x3 + 1))))))))))) : L_m_has_208 X d rf Q mem x2 x3 := by
  intro z1 hz1
  refine zW.go 2 210 [(2, 261), z1, (0, x2), (0, x3)] [(2, 261), (0, x3)] _ rfl ?_
  refine w_getL (q := 261) (v := 274) rfl (by decide) (pc' := 213) rfl ⟨by decide, rfl⟩ rfl rfl (zall_at hR (by decide)) ?_
  refine zW.go 1 214 [(2, 261), z1, (0, x2), (0, x3)] [(2, 261), (2, 274), (0, x3)] _ rfl ?_
  refine w_getI (q := 261) rfl (by decide) (pc' := 217) rfl ⟨by decide, rfl⟩ rfl (by decide) ?_
  obtain ⟨g, h⟩ := h
  refine w_iald (q := 274) rfl (by decide) (pc' := 218) rfl ⟨by decide, rfl⟩ rfl g rfl ?_
  refine w_ic_ge rfl (by decide) (pc' := 221) rfl h.1 (fun c7 => ?_) (fun c7 => ?_)
  · have h := h.2.1 c7
    refine zW.go 1 255 [(2, 261), z1, (0, x2), (0, x3)] [(0, x2)] _ rfl ?_
    exact w_reti rfl rfl h
  · have h := h.2.2 c7
    refine zW.go 2 223 [(2, 261), z1, (0, x2), (0, x3)] [(2, 261), (0, x2)] _ rfl ?_
    refine w_getL (q := 261) (v := 301) rfl (by decide) (pc' := 226) rfl ⟨by decide, rfl⟩ rfl rfl (zall_at hR (by decide)) ?_
    refine zW.go 1 227 [(2, 261), z1, (0, x2), (0, x3)] [(0, x3), (2, 301), (0, x2)] _ rfl ?_
    obtain ⟨g, h⟩ := h
    refine w_iald (q := 301) rfl (by decide) (pc' := 228) rfl ⟨by decide, rfl⟩ rfl g rfl ?_
    refine zW.go 1 229 [(2, 261), z1, (0, x2), (0, x3)] [(0, (-1)), (0, (mem 301 (x3).toNat)), (0, x2)] _ rfl ?_
    refine w_ic_ne rfl (by decide) (pc' := 232) rfl ⟨h.1, by decide⟩ (fun c8 => ?_) (fun c8 => ?_)
    · have h := h.2.1 c8
      refine zW.go 2 247 [(2, 261), z1, (0, x2), (0, x3)] [(0, (x2 + 0))] _ rfl ?_
      refine zW.step 248 [(2, 261), z1, (0, (x2 + 0)), (0, x3)] [] _ rfl (by decide) (by decide) (by show some (_, zst1 [(2, 261), z1, (0, x2), (0, x3)] 2 _, _, _) = _; rw [zst1_z (ls := [(2, 261), z1, (0, x2), (0, x3)]) (i := 2) hz1]; rfl) ?_
      refine zW.go 2 208 [(2, 261), z1, (0, (x2 + 0)), (0, (x3 + 1))] [] _ rfl ?_
      exact h z1 hz1
    · have h := h.2.2 c8
      refine zW.go 2 234 [(2, 261), z1, (0, x2), (0, x3)] [(0, x3), (2, 261), (0, x2)] _ rfl ?_
      refine w_calli (as := [(2, 261), (0, x3)]) [(0, x2)] 237 rfl rfl rfl rfl (Nat.le_of_ble_eq_true rfl) (Nat.le_of_ble_eq_true rfl) (Nat.le_of_ble_eq_true rfl) (Or.inr rfl) (Ci.imp h (fun r9 mem10 h => ?_))
      refine zW.go 1 238 [(2, 261), z1, (0, x2), (0, x3)] [(0, (-1)), (0, r9), (0, x2)] _ rfl ?_
      refine w_ic_ne rfl (by decide) (pc' := 241) rfl ⟨h.1, by decide⟩ (fun c11 => ?_) (fun c11 => ?_)
      · have h := h.2.1 c11
        refine zW.go 2 247 [(2, 261), z1, (0, x2), (0, x3)] [(0, (x2 + 0))] _ rfl ?_
        refine zW.step 248 [(2, 261), z1, (0, (x2 + 0)), (0, x3)] [] _ rfl (by decide) (by decide) (by show some (_, zst1 [(2, 261), z1, (0, x2), (0, x3)] 2 _, _, _) = _; rw [zst1_z (ls := [(2, 261), z1, (0, x2), (0, x3)]) (i := 2) hz1]; rfl) ?_
        refine zW.go 2 208 [(2, 261), z1, (0, (x2 + 0)), (0, (x3 + 1))] [] _ rfl ?_
        exact h z1 hz1
      · have h := h.2.2 c11
        refine zW.go 3 247 [(2, 261), z1, (0, x2), (0, x3)] [(0, (x2 + 1))] _ rfl ?_
        refine zW.step 248 [(2, 261), z1, (0, (x2 + 1)), (0, x3)] [] _ rfl (by decide) (by decide) (by show some (_, zst1 [(2, 261), z1, (0, x2), (0, x3)] 2 _, _, _) = _; rw [zst1_z (ls := [(2, 261), z1, (0, x2), (0, x3)]) (i := 2) hz1]; rfl) ?_
        refine zW.go 2 208 [(2, 261), z1, (0, (x2 + 1)), (0, (x3 + 1))] [] _ rfl ?_
        exact h z1 hz1
theorem s_m_has {X : zX} {d : Nat} {rf mem : zF} {Q : Int → zF → Prop} (hR : zall rf zRL = true) {x1 : Int} (h : (inI x1) ∧ ((x1 = 0 → (0 ≤ (mem 261 13) ∧ (mem 261 13) < 2) ∧ (Q (mem 263 ((mem 261 13)).toNat) mem)) ∧ (x1 = 1 → (0 ≤ (mem 261 13) ∧ (mem 261 13) < 2) ∧ (Q (mem 264 ((mem 261 13)).toNat) mem)) ∧ (x1 = 2 → (0 ≤ (mem 261 13) ∧ (mem 261 13) < 2) ∧ (Q (mem 266 ((mem 261 13)).toNat) mem)) ∧ (x1 = 3 → (0 ≤ (mem 261 13) ∧ (mem 261 13) < 2) ∧ (Q (mem 271 ((mem 261 13)).toNat) mem)) ∧ (x1 = 4 → (0 ≤ (mem 261 13) ∧ (mem 261 13) < 2) ∧ (Q (mem 274 ((mem 261 13)).toNat) mem)) ∧ (x1 = 5 → Q (mem 293 0) mem) ∧ (x1 = 6 → L_m_has_127 X d rf Q mem 0 0) ∧ (x1 = 7 → L_m_has_167 X d rf Q mem 0 0) ∧ (x1 = 8 → L_m_has_208 X d rf Q mem 0 0) ∧ (x1 = 9 → Q (mem 303 0) mem) ∧ (x1 = 10 → Q (mem 261 70) mem) ∧ (x1 = 11 → Q (mem 261 65) mem) ∧ (x1 = 12 → Q (mem 261 66) mem) ∧ ((x1 ≠ 0 ∧ x1 ≠ 1 ∧ x1 ≠ 2 ∧ x1 ≠ 3 ∧ x1 ≠ 4 ∧ x1 ≠ 5 ∧ x1 ≠ 6 ∧ x1 ≠ 7 ∧ x1 ≠ 8 ∧ x1 ≠ 9 ∧ x1 ≠ 10 ∧ x1 ≠ 11 ∧ x1 ≠ 12) → Q (-1) mem))) : Ci X (d + 1) 273 [(2, 261), (0, x1)] rf mem Q := by
  show zW X (d + 1) 273 0 [(2, 261), (0, x1), (9, 0), (9, 0)] [] (zty, rf, mem) (qi rf Q)
  refine zW.go 3 3 [(2, 261), (0, x1), (0, 0), (9, 0)] [(0, x1)] _ rfl ?_
  obtain ⟨g, h⟩ := h
  by_cases e0 : x1 = 0
  · refine w_tabIn 68 rfl (by decide) g (by omega) (by rw [e0]; rfl) rfl ?_
    have h := h.1 e0
    refine zW.go 1 69 [(2, 261), (0, x1), (0, 0), (9, 0)] [(2, 261)] _ rfl ?_
    refine w_getL (q := 261) (v := 263) rfl (by decide) (pc' := 72) rfl ⟨by decide, rfl⟩ rfl rfl (zall_at hR (by decide)) ?_
    refine zW.go 1 73 [(2, 261), (0, x1), (0, 0), (9, 0)] [(2, 261), (2, 263)] _ rfl ?_
    refine w_getI (q := 261) rfl (by decide) (pc' := 76) rfl ⟨by decide, rfl⟩ rfl (by decide) ?_
    obtain ⟨g, h⟩ := h
    refine w_iald (q := 263) rfl (by decide) (pc' := 77) rfl ⟨by decide, rfl⟩ rfl g rfl ?_
    exact w_reti rfl rfl h
  · by_cases e1 : x1 = 1
    · refine w_tabIn 78 rfl (by decide) g (by omega) (by rw [e1]; rfl) rfl ?_
      have h := h.2.1 e1
      refine zW.go 1 79 [(2, 261), (0, x1), (0, 0), (9, 0)] [(2, 261)] _ rfl ?_
      refine w_getL (q := 261) (v := 264) rfl (by decide) (pc' := 82) rfl ⟨by decide, rfl⟩ rfl rfl (zall_at hR (by decide)) ?_
      refine zW.go 1 83 [(2, 261), (0, x1), (0, 0), (9, 0)] [(2, 261), (2, 264)] _ rfl ?_
      refine w_getI (q := 261) rfl (by decide) (pc' := 86) rfl ⟨by decide, rfl⟩ rfl (by decide) ?_
      obtain ⟨g, h⟩ := h
      refine w_iald (q := 264) rfl (by decide) (pc' := 87) rfl ⟨by decide, rfl⟩ rfl g rfl ?_
      exact w_reti rfl rfl h
    · by_cases e2 : x1 = 2
      · refine w_tabIn 88 rfl (by decide) g (by omega) (by rw [e2]; rfl) rfl ?_
        have h := h.2.2.1 e2
        refine zW.go 1 89 [(2, 261), (0, x1), (0, 0), (9, 0)] [(2, 261)] _ rfl ?_
        refine w_getL (q := 261) (v := 266) rfl (by decide) (pc' := 92) rfl ⟨by decide, rfl⟩ rfl rfl (zall_at hR (by decide)) ?_
        refine zW.go 1 93 [(2, 261), (0, x1), (0, 0), (9, 0)] [(2, 261), (2, 266)] _ rfl ?_
        refine w_getI (q := 261) rfl (by decide) (pc' := 96) rfl ⟨by decide, rfl⟩ rfl (by decide) ?_
        obtain ⟨g, h⟩ := h
        refine w_iald (q := 266) rfl (by decide) (pc' := 97) rfl ⟨by decide, rfl⟩ rfl g rfl ?_
        exact w_reti rfl rfl h
      · by_cases e3 : x1 = 3
        · refine w_tabIn 98 rfl (by decide) g (by omega) (by rw [e3]; rfl) rfl ?_
          have h := h.2.2.2.1 e3
          refine zW.go 1 99 [(2, 261), (0, x1), (0, 0), (9, 0)] [(2, 261)] _ rfl ?_
          refine w_getL (q := 261) (v := 271) rfl (by decide) (pc' := 102) rfl ⟨by decide, rfl⟩ rfl rfl (zall_at hR (by decide)) ?_
          refine zW.go 1 103 [(2, 261), (0, x1), (0, 0), (9, 0)] [(2, 261), (2, 271)] _ rfl ?_
          refine w_getI (q := 261) rfl (by decide) (pc' := 106) rfl ⟨by decide, rfl⟩ rfl (by decide) ?_
          obtain ⟨g, h⟩ := h
          refine w_iald (q := 271) rfl (by decide) (pc' := 107) rfl ⟨by decide, rfl⟩ rfl g rfl ?_
          exact w_reti rfl rfl h
        · by_cases e4 : x1 = 4
          · refine w_tabIn 108 rfl (by decide) g (by omega) (by rw [e4]; rfl) rfl ?_
            have h := h.2.2.2.2.1 e4
            refine zW.go 1 109 [(2, 261), (0, x1), (0, 0), (9, 0)] [(2, 261)] _ rfl ?_
            refine w_getL (q := 261) (v := 274) rfl (by decide) (pc' := 112) rfl ⟨by decide, rfl⟩ rfl rfl (zall_at hR (by decide)) ?_
            refine zW.go 1 113 [(2, 261), (0, x1), (0, 0), (9, 0)] [(2, 261), (2, 274)] _ rfl ?_
            refine w_getI (q := 261) rfl (by decide) (pc' := 116) rfl ⟨by decide, rfl⟩ rfl (by decide) ?_
            obtain ⟨g, h⟩ := h
            refine w_iald (q := 274) rfl (by decide) (pc' := 117) rfl ⟨by decide, rfl⟩ rfl g rfl ?_
            exact w_reti rfl rfl h
          · by_cases e5 : x1 = 5
            · refine w_tabIn 118 rfl (by decide) g (by omega) (by rw [e5]; rfl) rfl ?_
              have h := h.2.2.2.2.2.1 e5
              refine zW.go 1 119 [(2, 261), (0, x1), (0, 0), (9, 0)] [(2, 261)] _ rfl ?_
              refine w_getL (q := 261) (v := 293) rfl (by decide) (pc' := 122) rfl ⟨by decide, rfl⟩ rfl rfl (zall_at hR (by decide)) ?_
              refine zW.go 1 123 [(2, 261), (0, x1), (0, 0), (9, 0)] [(0, 0), (2, 293)] _ rfl ?_
              refine w_iald (q := 293) rfl (by decide) (pc' := 124) rfl ⟨by decide, rfl⟩ rfl (by decide) rfl ?_
              exact w_reti rfl rfl h
            · by_cases e6 : x1 = 6
              · refine w_tabIn 125 rfl (by decide) g (by omega) (by rw [e6]; rfl) rfl ?_
                have h := h.2.2.2.2.2.2.1 e6
                refine zW.go 2 127 [(2, 261), (0, x1), (0, 0), (0, 0)] [] _ rfl ?_
                exact h (0, x1) (by show (0 : Nat) ≠ 1; decide)
              · by_cases e7 : x1 = 7
                · refine w_tabIn 165 rfl (by decide) g (by omega) (by rw [e7]; rfl) rfl ?_
                  have h := h.2.2.2.2.2.2.2.1 e7
                  refine zW.go 2 167 [(2, 261), (0, x1), (0, 0), (0, 0)] [] _ rfl ?_
                  exact h (0, x1) (by show (0 : Nat) ≠ 1; decide)
                · by_cases e8 : x1 = 8
                  · refine w_tabIn 206 rfl (by decide) g (by omega) (by rw [e8]; rfl) rfl ?_
                    have h := h.2.2.2.2.2.2.2.2.1 e8
                    refine zW.go 2 208 [(2, 261), (0, x1), (0, 0), (0, 0)] [] _ rfl ?_
                    exact h (0, x1) (by show (0 : Nat) ≠ 1; decide)
                  · by_cases e9 : x1 = 9
                    · refine w_tabIn 256 rfl (by decide) g (by omega) (by rw [e9]; rfl) rfl ?_
                      have h := h.2.2.2.2.2.2.2.2.2.1 e9
                      refine zW.go 1 257 [(2, 261), (0, x1), (0, 0), (9, 0)] [(2, 261)] _ rfl ?_
                      refine w_getL (q := 261) (v := 303) rfl (by decide) (pc' := 260) rfl ⟨by decide, rfl⟩ rfl rfl (zall_at hR (by decide)) ?_
                      refine zW.go 1 261 [(2, 261), (0, x1), (0, 0), (9, 0)] [(0, 0), (2, 303)] _ rfl ?_
                      refine w_iald (q := 303) rfl (by decide) (pc' := 262) rfl ⟨by decide, rfl⟩ rfl (by decide) rfl ?_
                      exact w_reti rfl rfl h
                    · by_cases e10 : x1 = 10
                      · refine w_tabIn 263 rfl (by decide) g (by omega) (by rw [e10]; rfl) rfl ?_
                        have h := h.2.2.2.2.2.2.2.2.2.2.1 e10
                        refine zW.go 1 264 [(2, 261), (0, x1), (0, 0), (9, 0)] [(2, 261)] _ rfl ?_
                        refine w_getI (q := 261) rfl (by decide) (pc' := 267) rfl ⟨by decide, rfl⟩ rfl (by decide) ?_
                        exact w_reti rfl rfl h
                      · by_cases e11 : x1 = 11
                        · refine w_tabIn 268 rfl (by decide) g (by omega) (by rw [e11]; rfl) rfl ?_
                          have h := h.2.2.2.2.2.2.2.2.2.2.2.1 e11
                          refine zW.go 1 269 [(2, 261), (0, x1), (0, 0), (9, 0)] [(2, 261)] _ rfl ?_
                          refine w_getI (q := 261) rfl (by decide) (pc' := 272) rfl ⟨by decide, rfl⟩ rfl (by decide) ?_
                          exact w_reti rfl rfl h
                        · by_cases e12 : x1 = 12
                          · refine w_tabIn 273 rfl (by decide) g (by omega) (by rw [e12]; rfl) rfl ?_
                            have h := h.2.2.2.2.2.2.2.2.2.2.2.2.1 e12
                            refine zW.go 1 274 [(2, 261), (0, x1), (0, 0), (9, 0)] [(2, 261)] _ rfl ?_
                            refine w_getJ (q := 261) rfl (by decide) (pc' := 277) rfl ⟨by decide, rfl⟩ rfl (by decide) ?_
                            refine zW.go 1 278 [(2, 261), (0, x1), (0, 0), (9, 0)] [(0, (mem 261 66))] _ rfl ?_
                            exact w_reti rfl rfl h
                          · refine w_tabOut 279 rfl (by decide) g (by omega) rfl ?_
                            have h := h.2.2.2.2.2.2.2.2.2.2.2.2.2 ⟨e0, e1, e2, e3, e4, e5, e6, e7, e8, e9, e10, e11, e12⟩
                            refine zW.go 1 274 [(2, 261), (0, x1), (0, 0), (9, 0)] [(2, 261)] _ rfl ?_
                            refine w_getJ (q := 261) rfl (by decide) (pc' := 277) rfl ⟨by decide, rfl⟩ rfl (by decide) ?_
                            refine zW.go 1 278 [(2, 261), (0, x1), (0, 0), (9, 0)] [(0, (mem 261 66))] _ rfl ?_
                            exact w_reti rfl rfl h
def L_m_letter_58 (X : zX) (d : Nat) (rf : zF) (Q : Int → zF → Prop) (mem : zF) (x3 : Int) (x4 : Int) (x6 : Int) (x7 : Int) : Prop := ∀ z0 : zV, ∀ z1 : zV, ∀ z2 : zV, zW X (d + 1) 274 58 [z0, z1, z2, (0, x3), (1, x4), (9, 0), (0, x6), (1, x7), (9, 0)] [] (zty, rf, mem) (qi rf Q)
theorem s_m_letter_58 {X : zX} {d : Nat} {rf mem : zF} {Q : Int → zF → Prop} (hR : zall rf zRL = true) {x3 : Int} {x4 : Int} {x6 : Int} {x7 : Int} (h : (inL x7 ∧ inL 0) ∧ ((inI (if x7 < 0 then -1 else if x7 = 0 then 0 else 1)) ∧ (((if x7 < 0 then -1 else if x7 = 0 then 0 else 1) ≤ 0 → (inI x3 ∧ inI x6) ∧ ((x3 < x6 → Q (((zlan (zlsr x4 (8 * ((x6 - 1) - x3))) 255) - 97) + 1) mem) ∧ (¬ x3 < x6 → Q 0 mem))) ∧ (¬ (if x7 < 0 then -1 else if x7 = 0 then 0 else 1) ≤ 0 → L_m_letter_58 X d rf Q mem x3 x4 (x6 + 1) (zlsr x7 8))))) : L_m_letter_58 X d rf Q mem x3 x4 x6 x7 := by
  intro z0 z1 z2
  refine zW.go 2 61 [z0, z1, z2, (0, x3), (1, x4), (9, 0), (0, x6), (1, x7), (9, 0)] [(1, 0), (1, x7)] _ rfl ?_
  obtain ⟨g, h⟩ := h
  refine w_lcmp rfl (by decide) (pc' := 62) rfl g ?_
  refine w_if_le rfl (by decide) (pc' := 65) rfl h.1 (fun c14 => ?_) (fun c14 => ?_)
  · have h := h.2.1 c14
    refine zW.go 2 81 [z0, z1, z2, (0, x3), (1, x4), (9, 0), (0, x6), (1, x7), (9, 0)] [(0, x6), (0, x3)] _ rfl ?_
    refine w_ic_lt rfl (by decide) (pc' := 84) rfl h.1 (fun c15 => ?_) (fun c15 => ?_)
    · have h := h.2.1 c15
      refine zW.go 16 110 [z0, z1, z2, (0, x3), (1, x4), (9, 0), (0, x6), (1, x7), (9, 0)] [(0, (((zlan (zlsr x4 (8 * ((x6 - 1) - x3))) 255) - 97) + 1))] _ rfl ?_
      exact w_reti rfl rfl h
    · have h := h.2.2 c15
      refine zW.go 2 110 [z0, z1, z2, (0, x3), (1, x4), (9, 0), (0, x6), (1, x7), (9, 0)] [(0, 0)] _ rfl ?_
      exact w_reti rfl rfl h
  · have h := h.2.2 c14
    refine zW.go 6 58 [z0, z1, z2, (0, x3), (1, x4), (9, 0), (0, (x6 + 1)), (1, (zlsr x7 8)), (9, 0)] [] _ rfl ?_
    exact h z0 z1 z2
theorem s_m_letter {X : zX} {d : Nat} {rf mem : zF} {Q : Int → zF → Prop} (hR : zall rf zRL = true) {x1 : Int} {x2 : Int} {x3 : Int} (h : Ci X d 194 [(0, x1), (0, 0), (0, 2)] rf mem (fun r1 mem2 => (inI r1) ∧ ((r1 = 0 → Q (-1) mem2) ∧ (¬ r1 = 0 → Ci X d 207 [(2, 261), (0, (mem2 261 13)), (0, x1)] rf mem2 (fun r4 mem5 => Ci X d 194 [(0, x2), (0, 0), (0, (r4 - 1))] rf mem5 (fun r6 mem7 => (inI r6) ∧ ((r6 = 0 → Q (-1) mem7) ∧ (¬ r6 = 0 → Ci X d 194 [(0, x3), (0, 0), (0, 5)] rf mem7 (fun r9 mem10 => (inI r9) ∧ ((¬ r9 = 0 → Cl X d 208 [(2, 261), (0, (mem10 261 13)), (0, x1), (0, x2)] rf mem10 (fun r12 mem13 => L_m_letter_58 X d rf Q mem13 x3 r12 0 r12)) ∧ (r9 = 0 → Q (-1) mem10))))))))))) : Ci X (d + 1) 274 [(2, 261), (0, x1), (0, x2), (0, x3)] rf mem Q := by
  show zW X (d + 1) 274 0 [(2, 261), (0, x1), (0, x2), (0, x3), (9, 0), (9, 0), (9, 0), (9, 0), (9, 0)] [] (zty, rf, mem) (qi rf Q)
  refine zW.go 3 3 [(2, 261), (0, x1), (0, x2), (0, x3), (9, 0), (9, 0), (9, 0), (9, 0), (9, 0)] [(0, 2), (0, 0), (0, x1)] _ rfl ?_
  refine w_calli (as := [(0, x1), (0, 0), (0, 2)]) [] 6 rfl rfl rfl rfl (Nat.le_of_ble_eq_true rfl) (Nat.le_of_ble_eq_true rfl) (Nat.le_of_ble_eq_true rfl) (Or.inl rfl) (Ci.imp h (fun r1 mem2 h => ?_))
  refine w_if_eq rfl (by decide) (pc' := 9) rfl h.1 (fun c3 => ?_) (fun c3 => ?_)
  · have h := h.2.1 c3
    refine zW.go 1 38 [(2, 261), (0, x1), (0, x2), (0, x3), (9, 0), (9, 0), (9, 0), (9, 0), (9, 0)] [(0, (-1))] _ rfl ?_
    exact w_reti rfl rfl h
  · have h := h.2.2 c3
    refine zW.go 4 13 [(2, 261), (0, x1), (0, x2), (0, x3), (9, 0), (9, 0), (9, 0), (9, 0), (9, 0)] [(2, 261), (2, 261), (0, 0), (0, x2)] _ rfl ?_
    refine w_getI (q := 261) rfl (by decide) (pc' := 16) rfl ⟨by decide, rfl⟩ rfl (by decide) ?_
    refine zW.go 1 17 [(2, 261), (0, x1), (0, x2), (0, x3), (9, 0), (9, 0), (9, 0), (9, 0), (9, 0)] [(0, x1), (0, (mem2 261 13)), (2, 261), (0, 0), (0, x2)] _ rfl ?_
    refine w_calli (as := [(2, 261), (0, (mem2 261 13)), (0, x1)]) [(0, 0), (0, x2)] 20 rfl rfl rfl rfl (Nat.le_of_ble_eq_true rfl) (Nat.le_of_ble_eq_true rfl) (Nat.le_of_ble_eq_true rfl) (Or.inr rfl) (Ci.imp h (fun r4 mem5 h => ?_))
    refine zW.go 2 22 [(2, 261), (0, x1), (0, x2), (0, x3), (9, 0), (9, 0), (9, 0), (9, 0), (9, 0)] [(0, (r4 - 1)), (0, 0), (0, x2)] _ rfl ?_
    refine w_calli (as := [(0, x2), (0, 0), (0, (r4 - 1))]) [] 25 rfl rfl rfl rfl (Nat.le_of_ble_eq_true rfl) (Nat.le_of_ble_eq_true rfl) (Nat.le_of_ble_eq_true rfl) (Or.inl rfl) (Ci.imp h (fun r6 mem7 h => ?_))
    refine w_if_eq rfl (by decide) (pc' := 28) rfl h.1 (fun c8 => ?_) (fun c8 => ?_)
    · have h := h.2.1 c8
      refine zW.go 1 38 [(2, 261), (0, x1), (0, x2), (0, x3), (9, 0), (9, 0), (9, 0), (9, 0), (9, 0)] [(0, (-1))] _ rfl ?_
      exact w_reti rfl rfl h
    · have h := h.2.2 c8
      refine zW.go 3 31 [(2, 261), (0, x1), (0, x2), (0, x3), (9, 0), (9, 0), (9, 0), (9, 0), (9, 0)] [(0, 5), (0, 0), (0, x3)] _ rfl ?_
      refine w_calli (as := [(0, x3), (0, 0), (0, 5)]) [] 34 rfl rfl rfl rfl (Nat.le_of_ble_eq_true rfl) (Nat.le_of_ble_eq_true rfl) (Nat.le_of_ble_eq_true rfl) (Or.inl rfl) (Ci.imp h (fun r9 mem10 h => ?_))
      refine w_if_ne rfl (by decide) (pc' := 37) rfl h.1 (fun c11 => ?_) (fun c11 => ?_)
      · have h := h.2.1 c11
        refine zW.go 2 41 [(2, 261), (0, x1), (0, x2), (0, x3), (9, 0), (9, 0), (9, 0), (9, 0), (9, 0)] [(2, 261), (2, 261)] _ rfl ?_
        refine w_getI (q := 261) rfl (by decide) (pc' := 44) rfl ⟨by decide, rfl⟩ rfl (by decide) ?_
        refine zW.go 2 46 [(2, 261), (0, x1), (0, x2), (0, x3), (9, 0), (9, 0), (9, 0), (9, 0), (9, 0)] [(0, x2), (0, x1), (0, (mem10 261 13)), (2, 261)] _ rfl ?_
        refine w_calll (as := [(2, 261), (0, (mem10 261 13)), (0, x1), (0, x2)]) [] 49 rfl rfl rfl rfl (Nat.le_of_ble_eq_true rfl) (Nat.le_of_ble_eq_true rfl) (Nat.le_of_ble_eq_true rfl) (Or.inr rfl) (Cl.imp h (fun r12 mem13 h => ?_))
        refine zW.go 5 58 [(2, 261), (0, x1), (0, x2), (0, x3), (1, r12), (9, 0), (0, 0), (1, r12), (9, 0)] [] _ rfl ?_
        exact h (2, 261) (0, x1) (0, x2)
      · have h := h.2.2 c11
        refine zW.go 1 38 [(2, 261), (0, x1), (0, x2), (0, x3), (9, 0), (9, 0), (9, 0), (9, 0), (9, 0)] [(0, (-1))] _ rfl ?_
        exact w_reti rfl rfl h
