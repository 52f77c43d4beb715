set_option maxRecDepth 4000 in
theorem s_m_is {X : zX} {d : Nat} {rf mem : zF} {Q : Int → zF → Prop} (hR : zall rf zRK = true) {x0 : Int} {x1 : Int} {x2 : Int} (h : (inI x0 ∧ inI x1) ∧ ((x0 < x1 → Q 0 mem) ∧ (¬ x0 < x1 → (inI x0 ∧ inI x2) ∧ ((x2 < x0 → Q 0 mem) ∧ (¬ x2 < x0 → Q 1 mem))))) : Ci X d 194 [(0, x0), (0, x1), (0, x2)] rf mem Q := by
  show zW X d 194 0 [(0, x0), (0, x1), (0, x2)] [] (zty, rf, mem) (qi rf Q)
  refine zW.go 2 2 [(0, x0), (0, x1), (0, x2)] [(0, x1), (0, x0)] _ rfl ?_
  refine w_ic_lt rfl (by decide) (pc' := 5) rfl h.1 (fun c1 => ?_) (fun c1 => ?_)
  · have h := h.2.1 c1
    refine zW.go 1 15 [(0, x0), (0, x1), (0, x2)] [(0, 0)] _ rfl ?_
    exact w_retz rfl rfl (by decide) h
  · have h := h.2.2 c1
    refine zW.go 2 7 [(0, x0), (0, x1), (0, x2)] [(0, x2), (0, x0)] _ rfl ?_
    refine w_ic_gt rfl (by decide) (pc' := 10) rfl h.1 (fun c2 => ?_) (fun c2 => ?_)
    · have h := h.2.1 c2
      refine zW.go 1 15 [(0, x0), (0, x1), (0, x2)] [(0, 0)] _ rfl ?_
      exact w_retz rfl rfl (by decide) h
    · have h := h.2.2 c2
      refine zW.go 2 15 [(0, x0), (0, x1), (0, x2)] [(0, 1)] _ rfl ?_
      exact w_retz rfl rfl (by decide) h
def L_m_put_3 (X : zX) (d : Nat) (rf : zF) (Q : zF → Prop) (mem : zF) (x1 : Int) (x2 : Int) : Prop := zW X d 195 3 [(2, 261), (0, x1), (0, x2)] [] (zty, rf, mem) (qv rf Q)
set_option maxRecDepth 4000 in
theorem s_m_put_3 {X : zX} {d : Nat} {rf mem : zF} {Q : zF → Prop} (hR : zall rf zRK = true) {x1 : Int} {x2 : Int} (h : (inI x2) ∧ ((x2 < 0 → Q mem) ∧ (¬ x2 < 0 → (0 ≤ (mem 261 1) ∧ (mem 261 1) < 1800) ∧ (L_m_put_3 X d rf Q (zup (zup mem 262 ((mem 261 1)).toNat (zand (zshr x1 x2) 255)) 261 1 ((mem 261 1) + 1)) x1 (x2 + (-8)))))) : L_m_put_3 X d rf Q mem x1 x2 := by
  refine zW.go 1 4 [(2, 261), (0, x1), (0, x2)] [(0, x2)] _ rfl ?_
  refine w_if_lt rfl (by decide) (pc' := 7) rfl h.1 (fun c1 => ?_) (fun c1 => ?_)
  · have h := h.2.1 c1
    exact w_retv rfl rfl h
  · have h := h.2.2 c1
    refine zW.go 1 8 [(2, 261), (0, x1), (0, x2)] [(2, 261)] _ rfl ?_
    refine w_getL (q := 261) (v := 262) rfl (by decide) (pc' := 11) rfl ⟨by decide, rfl⟩ rfl rfl (zall_at hR (by decide)) ?_
    refine zW.go 1 12 [(2, 261), (0, x1), (0, x2)] [(2, 261), (2, 262)] _ rfl ?_
    refine w_getI (q := 261) rfl (by decide) (pc' := 15) rfl ⟨by decide, rfl⟩ rfl (by decide) ?_
    refine zW.go 5 22 [(2, 261), (0, x1), (0, x2)] [(0, (zand (zshr x1 x2) 255)), (0, (mem 261 1)), (2, 262)] _ rfl ?_
    obtain ⟨g, h⟩ := h
    refine w_iast (q := 262) rfl (by decide) (pc' := 23) rfl ⟨by decide, rfl⟩ rfl g rfl ?_
    refine zW.go 2 25 [(2, 261), (0, x1), (0, x2)] [(2, 261), (2, 261)] _ rfl ?_
    refine w_getI (q := 261) rfl (by decide) (pc' := 28) rfl ⟨by decide, rfl⟩ rfl (by decide) ?_
    refine zW.go 2 30 [(2, 261), (0, x1), (0, x2)] [(0, ((mem 261 1) + 1)), (2, 261)] _ rfl ?_
    refine w_putI (q := 261) rfl (by decide) (pc' := 33) rfl ⟨by decide, rfl⟩ rfl (by decide) ?_
    refine zW.go 2 3 [(2, 261), (0, x1), (0, (x2 + (-8)))] [] _ rfl ?_
    exact h
set_option maxRecDepth 4000 in
theorem s_m_put {X : zX} {d : Nat} {rf mem : zF} {Q : zF → Prop} (hR : zall rf zRK = true) {x1 : Int} (h : L_m_put_3 X d rf Q mem x1 24) : Cv X d 195 [(2, 261), (0, x1)] rf mem Q := by
  show zW X d 195 0 [(2, 261), (0, x1), (9, 0)] [] (zty, rf, mem) (qv rf Q)
  refine zW.go 2 3 [(2, 261), (0, x1), (0, 24)] [] _ rfl ?_
  exact h
set_option maxRecDepth 4000 in
theorem s_m_feed {X : zX} {d : Nat} {rf mem : zF} {Q : Int → zF → Prop} (hR : zall rf zRK = true) {x1 : Int} {x2 : Int} {x3 : Int} {x4 : Int} {x5 : Int} (h : (inI ((mem 261 1) + 20)) ∧ ((((mem 261 1) + 20) ≤ 1600 → Cv X d 195 [(2, 261), (0, x1)] rf mem (fun mem2 => Cv X d 195 [(2, 261), (0, x2)] rf mem2 (fun mem3 => Cv X d 195 [(2, 261), (0, x3)] rf mem3 (fun mem4 => Cv X d 195 [(2, 261), (0, x4)] rf mem4 (fun mem5 => Cv X d 195 [(2, 261), (0, x5)] rf mem5 (fun mem6 => Q (mem6 261 1) mem6)))))) ∧ (¬ ((mem 261 1) + 20) ≤ 1600 → Ci X d 240 [(2, 261), (0, 0)] rf mem (fun r7 mem8 => Q r7 mem8)))) : Ci X (d + 1) 196 [(2, 261), (0, x1), (0, x2), (0, x3), (0, x4), (0, x5)] rf mem Q := by
  show zW X (d + 1) 196 0 [(2, 261), (0, x1), (0, x2), (0, x3), (0, x4), (0, x5)] [] (zty, rf, mem) (qi rf Q)
  refine zW.go 1 1 [(2, 261), (0, x1), (0, x2), (0, x3), (0, x4), (0, x5)] [(2, 261)] _ rfl ?_
  refine w_getI (q := 261) rfl (by decide) (pc' := 4) rfl ⟨by decide, rfl⟩ rfl (by decide) ?_
  refine zW.go 3 10 [(2, 261), (0, x1), (0, x2), (0, x3), (0, x4), (0, x5)] [(0, 1600), (0, ((mem 261 1) + 20))] _ rfl ?_
  refine w_ic_le rfl (by decide) (pc' := 13) rfl ⟨h.1, by decide⟩ (fun c1 => ?_) (fun c1 => ?_)
  · have h := h.2.1 c1
    refine zW.go 2 21 [(2, 261), (0, x1), (0, x2), (0, x3), (0, x4), (0, x5)] [(0, x1), (2, 261)] _ rfl ?_
    refine w_callv (as := [(2, 261), (0, x1)]) [] 24 rfl rfl rfl rfl (Nat.le_of_ble_eq_true rfl) (Nat.le_of_ble_eq_true rfl) (Nat.le_of_ble_eq_true rfl) (Or.inr rfl) (Cv.imp h (fun mem2 h => ?_))
    refine zW.go 2 26 [(2, 261), (0, x1), (0, x2), (0, x3), (0, x4), (0, x5)] [(0, x2), (2, 261)] _ rfl ?_
    refine w_callv (as := [(2, 261), (0, x2)]) [] 29 rfl rfl rfl rfl (Nat.le_of_ble_eq_true rfl) (Nat.le_of_ble_eq_true rfl) (Nat.le_of_ble_eq_true rfl) (Or.inr rfl) (Cv.imp h (fun mem3 h => ?_))
    refine zW.go 2 31 [(2, 261), (0, x1), (0, x2), (0, x3), (0, x4), (0, x5)] [(0, x3), (2, 261)] _ rfl ?_
    refine w_callv (as := [(2, 261), (0, x3)]) [] 34 rfl rfl rfl rfl (Nat.le_of_ble_eq_true rfl) (Nat.le_of_ble_eq_true rfl) (Nat.le_of_ble_eq_true rfl) (Or.inr rfl) (Cv.imp h (fun mem4 h => ?_))
    refine zW.go 2 37 [(2, 261), (0, x1), (0, x2), (0, x3), (0, x4), (0, x5)] [(0, x4), (2, 261)] _ rfl ?_
    refine w_callv (as := [(2, 261), (0, x4)]) [] 40 rfl rfl rfl rfl (Nat.le_of_ble_eq_true rfl) (Nat.le_of_ble_eq_true rfl) (Nat.le_of_ble_eq_true rfl) (Or.inr rfl) (Cv.imp h (fun mem5 h => ?_))
    refine zW.go 2 43 [(2, 261), (0, x1), (0, x2), (0, x3), (0, x4), (0, x5)] [(0, x5), (2, 261)] _ rfl ?_
    refine w_callv (as := [(2, 261), (0, x5)]) [] 46 rfl rfl rfl rfl (Nat.le_of_ble_eq_true rfl) (Nat.le_of_ble_eq_true rfl) (Nat.le_of_ble_eq_true rfl) (Or.inr rfl) (Cv.imp h (fun mem6 h => ?_))
    refine zW.go 1 47 [(2, 261), (0, x1), (0, x2), (0, x3), (0, x4), (0, x5)] [(2, 261)] _ rfl ?_
    refine w_getI (q := 261) rfl (by decide) (pc' := 50) rfl ⟨by decide, rfl⟩ rfl (by decide) ?_
    exact w_reti rfl rfl h
  · have h := h.2.2 c1
    refine zW.go 2 15 [(2, 261), (0, x1), (0, x2), (0, x3), (0, x4), (0, x5)] [(0, 0), (2, 261)] _ rfl ?_
    refine w_calli (as := [(2, 261), (0, 0)]) [] 18 rfl rfl rfl rfl (Nat.le_of_ble_eq_true rfl) (Nat.le_of_ble_eq_true rfl) (Nat.le_of_ble_eq_true rfl) (Or.inr rfl) (Ci.imp h (fun r7 mem8 h => ?_))
    exact w_reti rfl rfl h
def L_m_end_12 (X : zX) (d : Nat) (rf : zF) (Q : Int → zF → Prop) (mem : zF) : Prop := ∀ z1 : zV, zW X (d + 1) 197 12 [(2, 261), z1] [] (zty, rf, mem) (qi rf Q)
set_option maxRecDepth 4000 in
theorem s_m_end_12 {X : zX} {d : Nat} {rf mem : zF} {Q : Int → zF → Prop} (hR : zall rf zRK = true) (h : Ci X d 240 [(2, 261), (0, 0)] rf mem (fun r3 mem4 => (inI r3) ∧ ((r3 < 0 → Q 0 mem4) ∧ (¬ r3 < 0 → Q 1 mem4)))) : L_m_end_12 X d rf Q mem := by
  intro z1
  refine zW.go 2 14 [(2, 261), z1] [(0, 0), (2, 261)] _ rfl ?_
  refine w_calli (as := [(2, 261), (0, 0)]) [] 17 rfl rfl rfl rfl (Nat.le_of_ble_eq_true rfl) (Nat.le_of_ble_eq_true rfl) (Nat.le_of_ble_eq_true rfl) (Or.inr rfl) (Ci.imp h (fun r3 mem4 h => ?_))
  refine w_if_lt rfl (by decide) (pc' := 20) rfl h.1 (fun c5 => ?_) (fun c5 => ?_)
  · have h := h.2.1 c5
    refine zW.go 1 25 [(2, 261), z1] [(0, 0)] _ rfl ?_
    exact w_retz rfl rfl (by decide) h
  · have h := h.2.2 c5
    refine zW.go 2 25 [(2, 261), z1] [(0, 1)] _ rfl ?_
    exact w_retz rfl rfl (by decide) h
set_option maxRecDepth 4000 in
theorem s_m_end {X : zX} {d : Nat} {rf mem : zF} {Q : Int → zF → Prop} (hR : zall rf zRK = true) {x1 : Int} (h : (inI x1) ∧ ((x1 < 0 → L_m_end_12 X d rf Q mem) ∧ (¬ x1 < 0 → (inI x1 ∧ inI (mem 261 1)) ∧ ((x1 ≤ (mem 261 1) → Q 1 (zup mem 261 1 x1)) ∧ (¬ x1 ≤ (mem 261 1) → L_m_end_12 X d rf Q mem))))) : Ci X (d + 1) 197 [(2, 261), (0, x1)] rf mem Q := by
  show zW X (d + 1) 197 0 [(2, 261), (0, x1)] [] (zty, rf, mem) (qi rf Q)
  refine zW.go 1 1 [(2, 261), (0, x1)] [(0, x1)] _ rfl ?_
  refine w_if_lt rfl (by decide) (pc' := 4) rfl h.1 (fun c1 => ?_) (fun c1 => ?_)
  · have h := h.2.1 c1
    exact h (0, x1)
  · have h := h.2.2 c1
    refine zW.go 2 6 [(2, 261), (0, x1)] [(2, 261), (0, x1)] _ rfl ?_
    refine w_getI (q := 261) rfl (by decide) (pc' := 9) rfl ⟨by decide, rfl⟩ rfl (by decide) ?_
    refine w_ic_le rfl (by decide) (pc' := 12) rfl h.1 (fun c2 => ?_) (fun c2 => ?_)
    · have h := h.2.1 c2
      refine zW.go 2 28 [(2, 261), (0, x1)] [(0, x1), (2, 261)] _ rfl ?_
      refine w_putI (q := 261) rfl (by decide) (pc' := 31) rfl ⟨by decide, rfl⟩ rfl (by decide) ?_
      refine zW.go 1 32 [(2, 261), (0, x1)] [(0, 1)] _ rfl ?_
      exact w_retz rfl rfl (by decide) h
    · have h := h.2.2 c2
      exact h (0, x1)
set_option maxRecDepth 4000 in
theorem s_m_blame {X : zX} {d : Nat} {rf mem : zF} {Q : zF → Prop} (hR : zall rf zRK = true) {x1 : Int} {x2 : Int} (h : (inI (mem 261 8)) ∧ (((mem 261 8) ≤ 0 → Q (zup (zup mem 261 8 x1) 261 9 x2)) ∧ (¬ (mem 261 8) ≤ 0 → Q mem))) : Cv X d 198 [(2, 261), (0, x1), (0, x2)] rf mem Q := by
  show zW X d 198 0 [(2, 261), (0, x1), (0, x2)] [] (zty, rf, mem) (qv rf Q)
  refine zW.go 1 1 [(2, 261), (0, x1), (0, x2)] [(2, 261)] _ rfl ?_
  refine w_getI (q := 261) rfl (by decide) (pc' := 4) rfl ⟨by decide, rfl⟩ rfl (by decide) ?_
  refine w_if_le rfl (by decide) (pc' := 7) rfl h.1 (fun c1 => ?_) (fun c1 => ?_)
  · have h := h.2.1 c1
    refine zW.go 2 10 [(2, 261), (0, x1), (0, x2)] [(0, x1), (2, 261)] _ rfl ?_
    refine w_putI (q := 261) rfl (by decide) (pc' := 13) rfl ⟨by decide, rfl⟩ rfl (by decide) ?_
    refine zW.go 2 15 [(2, 261), (0, x1), (0, x2)] [(0, x2), (2, 261)] _ rfl ?_
    refine w_putI (q := 261) rfl (by decide) (pc' := 18) rfl ⟨by decide, rfl⟩ rfl (by decide) ?_
    exact w_retv rfl rfl h
  · have h := h.2.2 c1
    exact w_retv rfl rfl h
set_option maxRecDepth 4000 in
theorem s_m_isLetter {X : zX} {d : Nat} {rf mem : zF} {Q : Int → zF → Prop} (hR : zall rf zRK = true) {x0 : Int} (h : (inI x0) ∧ ((x0 < 97 → Q 0 mem) ∧ (¬ x0 < 97 → (inI x0) ∧ ((122 < x0 → Q 0 mem) ∧ (¬ 122 < x0 → Q 1 mem))))) : Ci X d 199 [(0, x0)] rf mem Q := by
  show zW X d 199 0 [(0, x0)] [] (zty, rf, mem) (qi rf Q)
  refine zW.go 2 3 [(0, x0)] [(0, 97), (0, x0)] _ rfl ?_
  refine w_ic_lt rfl (by decide) (pc' := 6) rfl ⟨h.1, by decide⟩ (fun c1 => ?_) (fun c1 => ?_)
  · have h := h.2.1 c1
    refine zW.go 1 17 [(0, x0)] [(0, 0)] _ rfl ?_
    exact w_retz rfl rfl (by decide) h
  · have h := h.2.2 c1
    refine zW.go 2 9 [(0, x0)] [(0, 122), (0, x0)] _ rfl ?_
    refine w_ic_gt rfl (by decide) (pc' := 12) rfl ⟨h.1, by decide⟩ (fun c2 => ?_) (fun c2 => ?_)
    · have h := h.2.1 c2
      refine zW.go 1 17 [(0, x0)] [(0, 0)] _ rfl ?_
      exact w_retz rfl rfl (by decide) h
    · have h := h.2.2 c2
      refine zW.go 2 17 [(0, x0)] [(0, 1)] _ rfl ?_
      exact w_retz rfl rfl (by decide) h
set_option maxRecDepth 4000 in
theorem s_m_isDigit {X : zX} {d : Nat} {rf mem : zF} {Q : Int → zF → Prop} (hR : zall rf zRK = true) {x0 : Int} (h : (inI x0) ∧ ((x0 < 48 → Q 0 mem) ∧ (¬ x0 < 48 → (inI x0) ∧ ((57 < x0 → Q 0 mem) ∧ (¬ 57 < x0 → Q 1 mem))))) : Ci X d 200 [(0, x0)] rf mem Q := by
  show zW X d 200 0 [(0, x0)] [] (zty, rf, mem) (qi rf Q)
  refine zW.go 2 3 [(0, x0)] [(0, 48), (0, x0)] _ rfl ?_
  refine w_ic_lt rfl (by decide) (pc' := 6) rfl ⟨h.1, by decide⟩ (fun c1 => ?_) (fun c1 => ?_)
  · have h := h.2.1 c1
    refine zW.go 1 17 [(0, x0)] [(0, 0)] _ rfl ?_
    exact w_retz rfl rfl (by decide) h
  · have h := h.2.2 c1
    refine zW.go 2 9 [(0, x0)] [(0, 57), (0, x0)] _ rfl ?_
    refine w_ic_gt rfl (by decide) (pc' := 12) rfl ⟨h.1, by decide⟩ (fun c2 => ?_) (fun c2 => ?_)
    · have h := h.2.1 c2
      refine zW.go 1 17 [(0, x0)] [(0, 0)] _ rfl ?_
      exact w_retz rfl rfl (by decide) h
    · have h := h.2.2 c2
      refine zW.go 2 17 [(0, x0)] [(0, 1)] _ rfl ?_
      exact w_retz rfl rfl (by decide) h
set_option maxRecDepth 4000 in
theorem s_m_lex {X : zX} {d : Nat} {rf mem : zF} {Q : zF → Prop} (hR : zall rf zRK = true) (h : (inI (mem 261 12)) ∧ (((mem 261 12) = (-1) → Q mem) ∧ (¬ (mem 261 12) = (-1) → Cv X d 198 [(2, 261), (0, 1), (0, (mem 261 12))] rf mem (fun mem2 => Q mem2)))) : Cv X (d + 1) 201 [(2, 261)] rf mem Q := by
  show zW X (d + 1) 201 0 [(2, 261)] [] (zty, rf, mem) (qv rf Q)
  refine zW.go 1 1 [(2, 261)] [(2, 261)] _ rfl ?_
  refine w_getI (q := 261) rfl (by decide) (pc' := 4) rfl ⟨by decide, rfl⟩ rfl (by decide) ?_
  refine zW.go 1 5 [(2, 261)] [(0, (-1)), (0, (mem 261 12))] _ rfl ?_
  refine w_ic_eq rfl (by decide) (pc' := 8) rfl ⟨h.1, by decide⟩ (fun c1 => ?_) (fun c1 => ?_)
  · have h := h.2.1 c1
    exact w_retv rfl rfl h
  · have h := h.2.2 c1
    refine zW.go 3 11 [(2, 261)] [(2, 261), (0, 1), (2, 261)] _ rfl ?_
    refine w_getI (q := 261) rfl (by decide) (pc' := 14) rfl ⟨by decide, rfl⟩ rfl (by decide) ?_
    refine w_callv (as := [(2, 261), (0, 1), (0, (mem 261 12))]) [] 17 rfl rfl rfl rfl (Nat.le_of_ble_eq_true rfl) (Nat.le_of_ble_eq_true rfl) (Nat.le_of_ble_eq_true rfl) (Or.inr rfl) (Cv.imp h (fun mem2 h => ?_))
    exact w_retv rfl rfl h
def L_m_ahead_5 (X : zX) (d : Nat) (rf : zF) (Q : zF → Prop) (mem : zF) (x1 : Int) : Prop := ∀ z2 : zV, ∀ z3 : zV, ∀ z4 : zV, ∀ z5 : zV, zW X (d + 1) 202 5 [(2, 261), (0, x1), z2, z3, z4, z5] [] (zty, rf, mem) (qv rf Q)
def L_m_ahead_41 (X : zX) (d : Nat) (rf : zF) (Q : zF → Prop) (mem : zF) (x1 : Int) : Prop := ∀ z2 : zV, ∀ z3 : zV, ∀ z4 : zV, ∀ z5 : zV, zW X (d + 1) 202 41 [(2, 261), (0, x1), z2, z3, z4, z5] [] (zty, rf, mem) (qv rf Q)
def L_m_ahead_98 (X : zX) (d : Nat) (rf : zF) (Q : zF → Prop) (mem : zF) (x1 : Int) (x2 : Int) (x3 : Int) : Prop := ∀ z4 : zV, ∀ z5 : zV, zW X (d + 1) 202 98 [(2, 261), (0, x1), (0, x2), (0, x3), z4, z5] [] (zty, rf, mem) (qv rf Q)
def L_m_ahead_135 (X : zX) (d : Nat) (rf : zF) (Q : zF → Prop) (mem : zF) (x1 : Int) (x2 : Int) (x3 : Int) : Prop := ∀ z4 : zV, ∀ z5 : zV, zW X (d + 1) 202 135 [(2, 261), (0, x1), (0, x2), (0, x3), z4, z5] [] (zty, rf, mem) (qv rf Q)
def L_m_ahead_186 (X : zX) (d : Nat) (rf : zF) (Q : zF → Prop) (mem : zF) (x1 : Int) (x2 : Int) (x3 : Int) (s1 : Int) : Prop := ∀ z4 : zV, ∀ z5 : zV, zW X (d + 1) 202 186 [(2, 261), (0, x1), (0, x2), (0, x3), z4, z5] [(0, s1), (2, 261)] (zty, rf, mem) (qv rf Q)
def L_m_ahead_204 (X : zX) (d : Nat) (rf : zF) (Q : zF → Prop) (mem : zF) (x1 : Int) (x2 : Int) (x3 : Int) (x4 : Int) (x5 : Int) : Prop := zW X (d + 1) 202 204 [(2, 261), (0, x1), (0, x2), (0, x3), (0, x4), (0, x5)] [] (zty, rf, mem) (qv rf Q)
def L_m_ahead_243 (X : zX) (d : Nat) (rf : zF) (Q : zF → Prop) (mem : zF) (x1 : Int) (x2 : Int) (x3 : Int) (x4 : Int) (x5 : Int) : Prop := zW X (d + 1) 202 243 [(2, 261), (0, x1), (0, x2), (0, x3), (0, x4), (0, x5)] [] (zty, rf, mem) (qv rf Q)
def L_m_ahead_263 (X : zX) (d : Nat) (rf : zF) (Q : zF → Prop) (mem : zF) (x1 : Int) (x2 : Int) (x3 : Int) (x4 : Int) (x5 : Int) : Prop := zW X (d + 1) 202 263 [(2, 261), (0, x1), (0, x2), (0, x3), (0, x4), (0, x5)] [] (zty, rf, mem) (qv rf Q)
def L_m_ahead_293 (X : zX) (d : Nat) (rf : zF) (Q : zF → Prop) (mem : zF) (x1 : Int) (x2 : Int) (x3 : Int) (x4 : Int) (x5 : Int) : Prop := zW X (d + 1) 202 293 [(2, 261), (0, x1), (0, x2), (0, x3), (0, x4), (0, x5)] [] (zty, rf, mem) (qv rf Q)
set_option maxRecDepth 4000 in
theorem s_m_ahead_5 {X : zX} {d : Nat} {rf mem : zF} {Q : zF → Prop} (hR : zall rf zRK = true) {x1 : Int} (h : (inI x1 ∧ inI (mem 261 2)) ∧ (((mem 261 2) ≤ x1 → L_m_ahead_41 X d rf Q mem x1) ∧ (¬ (mem 261 2) ≤ x1 → (0 ≤ x1 ∧ x1 < 1800) ∧ ((inI (mem 262 (x1).toNat)) ∧ (((mem 262 (x1).toNat) = 32 → L_m_ahead_5 X d rf Q mem (x1 + 1)) ∧ (¬ (mem 262 (x1).toNat) = 32 → (0 ≤ x1 ∧ x1 < 1800) ∧ ((inI (mem 262 (x1).toNat)) ∧ ((¬ (mem 262 (x1).toNat) = 10 → L_m_ahead_41 X d rf Q mem x1) ∧ ((mem 262 (x1).toNat) = 10 → L_m_ahead_5 X d rf Q mem (x1 + 1)))))))))) : L_m_ahead_5 X d rf Q mem x1 := by
  intro z2 z3 z4 z5
  refine zW.go 2 7 [(2, 261), (0, x1), z2, z3, z4, z5] [(2, 261), (0, x1)] _ rfl ?_
  refine w_getI (q := 261) rfl (by decide) (pc' := 10) rfl ⟨by decide, rfl⟩ rfl (by decide) ?_
  refine w_ic_ge rfl (by decide) (pc' := 13) rfl h.1 (fun c1 => ?_) (fun c1 => ?_)
  · have h := h.2.1 c1
    exact h z2 z3 z4 z5
  · have h := h.2.2 c1
    refine zW.go 1 14 [(2, 261), (0, x1), z2, z3, z4, z5] [(2, 261)] _ rfl ?_
    refine w_getL (q := 261) (v := 262) rfl (by decide) (pc' := 17) rfl ⟨by decide, rfl⟩ rfl rfl (zall_at hR (by decide)) ?_
    refine zW.go 1 18 [(2, 261), (0, x1), z2, z3, z4, z5] [(0, x1), (2, 262)] _ rfl ?_
    obtain ⟨g, h⟩ := h
    refine w_iald (q := 262) rfl (by decide) (pc' := 19) rfl ⟨by decide, rfl⟩ rfl g rfl ?_
    refine zW.go 1 21 [(2, 261), (0, x1), z2, z3, z4, z5] [(0, 32), (0, (mem 262 (x1).toNat))] _ rfl ?_
    refine w_ic_eq rfl (by decide) (pc' := 24) rfl ⟨h.1, by decide⟩ (fun c2 => ?_) (fun c2 => ?_)
    · have h := h.2.1 c2
      refine zW.go 2 5 [(2, 261), (0, (x1 + 1)), z2, z3, z4, z5] [] _ rfl ?_
      exact h z2 z3 z4 z5
    · have h := h.2.2 c2
      refine zW.go 1 25 [(2, 261), (0, x1), z2, z3, z4, z5] [(2, 261)] _ rfl ?_
      refine w_getL (q := 261) (v := 262) rfl (by decide) (pc' := 28) rfl ⟨by decide, rfl⟩ rfl rfl (zall_at hR (by decide)) ?_
      refine zW.go 1 29 [(2, 261), (0, x1), z2, z3, z4, z5] [(0, x1), (2, 262)] _ rfl ?_
      obtain ⟨g, h⟩ := h
      refine w_iald (q := 262) rfl (by decide) (pc' := 30) rfl ⟨by decide, rfl⟩ rfl g rfl ?_
      refine zW.go 1 32 [(2, 261), (0, x1), z2, z3, z4, z5] [(0, 10), (0, (mem 262 (x1).toNat))] _ rfl ?_
      refine w_ic_ne rfl (by decide) (pc' := 35) rfl ⟨h.1, by decide⟩ (fun c3 => ?_) (fun c3 => ?_)
      · have h := h.2.1 c3
        exact h z2 z3 z4 z5
      · have h := h.2.2 c3
        refine zW.go 2 5 [(2, 261), (0, (x1 + 1)), z2, z3, z4, z5] [] _ rfl ?_
        exact h z2 z3 z4 z5
set_option maxRecDepth 4000 in
theorem s_m_ahead_41 {X : zX} {d : Nat} {rf mem : zF} {Q : zF → Prop} (hR : zall rf zRK = true) {x1 : Int} (h : (inI x1 ∧ inI (mem 261 2)) ∧ ((x1 < (mem 261 2) → (0 ≤ x1 ∧ x1 < 1800) ∧ (Ci X d 199 [(0, (mem 262 (x1).toNat))] rf (zup (zup (zup (zup mem 261 4 x1) 261 5 x1) 261 3 0) 261 12 (-1)) (fun r5 mem6 => (0 ≤ x1 ∧ x1 < 1800) ∧ (Ci X d 200 [(0, (mem6 262 (x1).toNat))] rf mem6 (fun r7 mem8 => (inI r5) ∧ ((¬ r5 = 0 → L_m_ahead_98 X d rf Q mem8 x1 r5 r7) ∧ (r5 = 0 → (inI r7) ∧ ((r7 = 0 → L_m_ahead_135 X d rf Q mem8 x1 r5 r7) ∧ (¬ r7 = 0 → L_m_ahead_98 X d rf Q mem8 x1 r5 r7))))))))) ∧ (¬ x1 < (mem 261 2) → Q (zup (zup (zup (zup mem 261 4 x1) 261 5 x1) 261 3 0) 261 12 (-1))))) : L_m_ahead_41 X d rf Q mem x1 := by
  intro z2 z3 z4 z5
  refine zW.go 2 43 [(2, 261), (0, x1), z2, z3, z4, z5] [(0, x1), (2, 261)] _ rfl ?_
  refine w_putI (q := 261) rfl (by decide) (pc' := 46) rfl ⟨by decide, rfl⟩ rfl (by decide) ?_
  refine zW.go 2 48 [(2, 261), (0, x1), z2, z3, z4, z5] [(0, x1), (2, 261)] _ rfl ?_
  refine w_putI (q := 261) rfl (by decide) (pc' := 51) rfl ⟨by decide, rfl⟩ rfl (by decide) ?_
  refine zW.go 2 53 [(2, 261), (0, x1), z2, z3, z4, z5] [(0, 0), (2, 261)] _ rfl ?_
  refine w_putI (q := 261) rfl (by decide) (pc' := 56) rfl ⟨by decide, rfl⟩ rfl (by decide) ?_
  refine zW.go 2 58 [(2, 261), (0, x1), z2, z3, z4, z5] [(0, (-1)), (2, 261)] _ rfl ?_
  refine w_putI (q := 261) rfl (by decide) (pc' := 61) rfl ⟨by decide, rfl⟩ rfl (by decide) ?_
  refine zW.go 2 63 [(2, 261), (0, x1), z2, z3, z4, z5] [(2, 261), (0, x1)] _ rfl ?_
  refine w_getI (q := 261) rfl (by decide) (pc' := 66) rfl ⟨by decide, rfl⟩ rfl (by decide) ?_
  refine w_ic_lt rfl (by decide) (pc' := 69) rfl h.1 (fun c4 => ?_) (fun c4 => ?_)
  · have h := h.2.1 c4
    refine zW.go 1 71 [(2, 261), (0, x1), z2, z3, z4, z5] [(2, 261)] _ rfl ?_
    refine w_getL (q := 261) (v := 262) rfl (by decide) (pc' := 74) rfl ⟨by decide, rfl⟩ rfl rfl (zall_at hR (by decide)) ?_
    refine zW.go 1 75 [(2, 261), (0, x1), z2, z3, z4, z5] [(0, x1), (2, 262)] _ rfl ?_
    obtain ⟨g, h⟩ := h
    refine w_iald (q := 262) rfl (by decide) (pc' := 76) rfl ⟨by decide, rfl⟩ rfl g rfl ?_
    refine w_calli (as := [(0, (mem 262 (x1).toNat))]) [] 79 rfl rfl rfl rfl (Nat.le_of_ble_eq_true rfl) (Nat.le_of_ble_eq_true rfl) (Nat.le_of_ble_eq_true rfl) (Or.inl rfl) (Ci.imp h (fun r5 mem6 h => ?_))
    refine zW.go 2 81 [(2, 261), (0, x1), (0, r5), z3, z4, z5] [(2, 261)] _ rfl ?_
    refine w_getL (q := 261) (v := 262) rfl (by decide) (pc' := 84) rfl ⟨by decide, rfl⟩ rfl rfl (zall_at hR (by decide)) ?_
    refine zW.go 1 85 [(2, 261), (0, x1), (0, r5), z3, z4, z5] [(0, x1), (2, 262)] _ rfl ?_
    obtain ⟨g, h⟩ := h
    refine w_iald (q := 262) rfl (by decide) (pc' := 86) rfl ⟨by decide, rfl⟩ rfl g rfl ?_
    refine w_calli (as := [(0, (mem6 262 (x1).toNat))]) [] 89 rfl rfl rfl rfl (Nat.le_of_ble_eq_true rfl) (Nat.le_of_ble_eq_true rfl) (Nat.le_of_ble_eq_true rfl) (Or.inl rfl) (Ci.imp h (fun r7 mem8 h => ?_))
    refine zW.go 2 91 [(2, 261), (0, x1), (0, r5), (0, r7), z4, z5] [(0, r5)] _ rfl ?_
    refine w_if_ne rfl (by decide) (pc' := 94) rfl h.1 (fun c9 => ?_) (fun c9 => ?_)
    · have h := h.2.1 c9
      exact h z4 z5
    · have h := h.2.2 c9
      refine zW.go 1 95 [(2, 261), (0, x1), (0, r5), (0, r7), z4, z5] [(0, r7)] _ rfl ?_
      refine w_if_eq rfl (by decide) (pc' := 98) rfl h.1 (fun c10 => ?_) (fun c10 => ?_)
      · have h := h.2.1 c10
        exact h z4 z5
      · have h := h.2.2 c10
        exact h z4 z5
  · have h := h.2.2 c4
    exact w_retv rfl rfl h
set_option maxRecDepth 4000 in
theorem s_m_ahead_98 {X : zX} {d : Nat} {rf mem : zF} {Q : zF → Prop} (hR : zall rf zRK = true) {x1 : Int} {x2 : Int} {x3 : Int} (h : (inI x1) ∧ ((x1 ≤ 0 → L_m_ahead_135 X d rf Q mem x1 x2 x3) ∧ (¬ x1 ≤ 0 → (0 ≤ (x1 - 1) ∧ (x1 - 1) < 1800) ∧ (Ci X d 199 [(0, (mem 262 ((x1 - 1)).toNat))] rf mem (fun r12 mem13 => (inI r12) ∧ ((¬ r12 = 0 → L_m_ahead_135 X d rf Q (zup mem13 261 12 x1) x1 x2 x3) ∧ (r12 = 0 → (0 ≤ (x1 - 1) ∧ (x1 - 1) < 1800) ∧ (Ci X d 200 [(0, (mem13 262 ((x1 - 1)).toNat))] rf mem13 (fun r15 mem16 => (inI r15) ∧ ((r15 = 0 → L_m_ahead_135 X d rf Q mem16 x1 x2 x3) ∧ (¬ r15 = 0 → L_m_ahead_135 X d rf Q (zup mem16 261 12 x1) x1 x2 x3))))))))))) : L_m_ahead_98 X d rf Q mem x1 x2 x3 := by
  intro z4 z5
  refine zW.go 1 99 [(2, 261), (0, x1), (0, x2), (0, x3), z4, z5] [(0, x1)] _ rfl ?_
  refine w_if_le rfl (by decide) (pc' := 102) rfl h.1 (fun c11 => ?_) (fun c11 => ?_)
  · have h := h.2.1 c11
    exact h z4 z5
  · have h := h.2.2 c11
    refine zW.go 1 103 [(2, 261), (0, x1), (0, x2), (0, x3), z4, z5] [(2, 261)] _ rfl ?_
    refine w_getL (q := 261) (v := 262) rfl (by decide) (pc' := 106) rfl ⟨by decide, rfl⟩ rfl rfl (zall_at hR (by decide)) ?_
    refine zW.go 3 109 [(2, 261), (0, x1), (0, x2), (0, x3), z4, z5] [(0, (x1 - 1)), (2, 262)] _ rfl ?_
    obtain ⟨g, h⟩ := h
    refine w_iald (q := 262) rfl (by decide) (pc' := 110) rfl ⟨by decide, rfl⟩ rfl g rfl ?_
    refine w_calli (as := [(0, (mem 262 ((x1 - 1)).toNat))]) [] 113 rfl rfl rfl rfl (Nat.le_of_ble_eq_true rfl) (Nat.le_of_ble_eq_true rfl) (Nat.le_of_ble_eq_true rfl) (Or.inl rfl) (Ci.imp h (fun r12 mem13 h => ?_))
    refine w_if_ne rfl (by decide) (pc' := 116) rfl h.1 (fun c14 => ?_) (fun c14 => ?_)
    · have h := h.2.1 c14
      refine zW.go 2 132 [(2, 261), (0, x1), (0, x2), (0, x3), z4, z5] [(0, x1), (2, 261)] _ rfl ?_
      refine w_putI (q := 261) rfl (by decide) (pc' := 135) rfl ⟨by decide, rfl⟩ rfl (by decide) ?_
      exact h z4 z5
    · have h := h.2.2 c14
      refine zW.go 1 117 [(2, 261), (0, x1), (0, x2), (0, x3), z4, z5] [(2, 261)] _ rfl ?_
      refine w_getL (q := 261) (v := 262) rfl (by decide) (pc' := 120) rfl ⟨by decide, rfl⟩ rfl rfl (zall_at hR (by decide)) ?_
      refine zW.go 3 123 [(2, 261), (0, x1), (0, x2), (0, x3), z4, z5] [(0, (x1 - 1)), (2, 262)] _ rfl ?_
      obtain ⟨g, h⟩ := h
      refine w_iald (q := 262) rfl (by decide) (pc' := 124) rfl ⟨by decide, rfl⟩ rfl g rfl ?_
      refine w_calli (as := [(0, (mem13 262 ((x1 - 1)).toNat))]) [] 127 rfl rfl rfl rfl (Nat.le_of_ble_eq_true rfl) (Nat.le_of_ble_eq_true rfl) (Nat.le_of_ble_eq_true rfl) (Or.inl rfl) (Ci.imp h (fun r15 mem16 h => ?_))
      refine w_if_eq rfl (by decide) (pc' := 130) rfl h.1 (fun c17 => ?_) (fun c17 => ?_)
      · have h := h.2.1 c17
        exact h z4 z5
      · have h := h.2.2 c17
        refine zW.go 2 132 [(2, 261), (0, x1), (0, x2), (0, x3), z4, z5] [(0, x1), (2, 261)] _ rfl ?_
        refine w_putI (q := 261) rfl (by decide) (pc' := 135) rfl ⟨by decide, rfl⟩ rfl (by decide) ?_
        exact h z4 z5
set_option maxRecDepth 4000 in
theorem s_m_ahead_135 {X : zX} {d : Nat} {rf mem : zF} {Q : zF → Prop} (hR : zall rf zRK = true) {x1 : Int} {x2 : Int} {x3 : Int} (h : (inI x2) ∧ ((¬ x2 = 0 → (inI x2) ∧ ((x2 = 0 → L_m_ahead_186 X d rf Q (zup (zup (zup (zup mem 261 6 0) 261 7 0) 261 3 3) 261 5 (x1 + 1)) x1 x2 x3 2) ∧ (¬ x2 = 0 → L_m_ahead_186 X d rf Q (zup (zup (zup (zup mem 261 6 0) 261 7 0) 261 3 3) 261 5 (x1 + 1)) x1 x2 x3 1))) ∧ (x2 = 0 → (inI x3) ∧ ((¬ x3 = 0 → (inI x2) ∧ ((x2 = 0 → L_m_ahead_186 X d rf Q (zup (zup (zup (zup mem 261 6 0) 261 7 0) 261 3 3) 261 5 (x1 + 1)) x1 x2 x3 2) ∧ (¬ x2 = 0 → L_m_ahead_186 X d rf Q (zup (zup (zup (zup mem 261 6 0) 261 7 0) 261 3 3) 261 5 (x1 + 1)) x1 x2 x3 1))) ∧ (x3 = 0 → (0 ≤ x1 ∧ x1 < 1800) ∧ (Q (zup (zup (zup (zup (zup mem 261 6 0) 261 7 0) 261 3 3) 261 5 (x1 + 1)) 261 6 (mem 262 (x1).toNat)))))))) : L_m_ahead_135 X d rf Q mem x1 x2 x3 := by
  intro z4 z5
  refine zW.go 2 137 [(2, 261), (0, x1), (0, x2), (0, x3), z4, z5] [(0, 0), (2, 261)] _ rfl ?_
  refine w_putI (q := 261) rfl (by decide) (pc' := 140) rfl ⟨by decide, rfl⟩ rfl (by decide) ?_
  refine zW.go 2 142 [(2, 261), (0, x1), (0, x2), (0, x3), z4, z5] [(1, 0), (2, 261)] _ rfl ?_
  refine w_putJ (q := 261) rfl (by decide) (pc' := 145) rfl ⟨by decide, rfl⟩ rfl (by decide) ?_
  refine zW.go 2 147 [(2, 261), (0, x1), (0, x2), (0, x3), z4, z5] [(0, 3), (2, 261)] _ rfl ?_
  refine w_putI (q := 261) rfl (by decide) (pc' := 150) rfl ⟨by decide, rfl⟩ rfl (by decide) ?_
  refine zW.go 4 154 [(2, 261), (0, x1), (0, x2), (0, x3), z4, z5] [(0, (x1 + 1)), (2, 261)] _ rfl ?_
  refine w_putI (q := 261) rfl (by decide) (pc' := 157) rfl ⟨by decide, rfl⟩ rfl (by decide) ?_
  refine zW.go 1 158 [(2, 261), (0, x1), (0, x2), (0, x3), z4, z5] [(0, x2)] _ rfl ?_
  refine w_if_ne rfl (by decide) (pc' := 161) rfl h.1 (fun c18 => ?_) (fun c18 => ?_)
  · have h := h.2.1 c18
    refine zW.go 2 178 [(2, 261), (0, x1), (0, x2), (0, x3), z4, z5] [(0, x2), (2, 261)] _ rfl ?_
    refine w_if_eq rfl (by decide) (pc' := 181) rfl h.1 (fun c19 => ?_) (fun c19 => ?_)
    · have h := h.2.1 c19
      refine zW.go 1 186 [(2, 261), (0, x1), (0, x2), (0, x3), z4, z5] [(0, 2), (2, 261)] _ rfl ?_
      exact h z4 z5
    · have h := h.2.2 c19
      refine zW.go 2 186 [(2, 261), (0, x1), (0, x2), (0, x3), z4, z5] [(0, 1), (2, 261)] _ rfl ?_
      exact h z4 z5
  · have h := h.2.2 c18
    refine zW.go 1 162 [(2, 261), (0, x1), (0, x2), (0, x3), z4, z5] [(0, x3)] _ rfl ?_
    refine w_if_ne rfl (by decide) (pc' := 165) rfl h.1 (fun c20 => ?_) (fun c20 => ?_)
    · have h := h.2.1 c20
      refine zW.go 2 178 [(2, 261), (0, x1), (0, x2), (0, x3), z4, z5] [(0, x2), (2, 261)] _ rfl ?_
      refine w_if_eq rfl (by decide) (pc' := 181) rfl h.1 (fun c21 => ?_) (fun c21 => ?_)
      · have h := h.2.1 c21
        refine zW.go 1 186 [(2, 261), (0, x1), (0, x2), (0, x3), z4, z5] [(0, 2), (2, 261)] _ rfl ?_
        exact h z4 z5
      · have h := h.2.2 c21
        refine zW.go 2 186 [(2, 261), (0, x1), (0, x2), (0, x3), z4, z5] [(0, 1), (2, 261)] _ rfl ?_
        exact h z4 z5
    · have h := h.2.2 c20
      refine zW.go 2 167 [(2, 261), (0, x1), (0, x2), (0, x3), z4, z5] [(2, 261), (2, 261)] _ rfl ?_
      refine w_getL (q := 261) (v := 262) rfl (by decide) (pc' := 170) rfl ⟨by decide, rfl⟩ rfl rfl (zall_at hR (by decide)) ?_
      refine zW.go 1 171 [(2, 261), (0, x1), (0, x2), (0, x3), z4, z5] [(0, x1), (2, 262), (2, 261)] _ rfl ?_
      obtain ⟨g, h⟩ := h
      refine w_iald (q := 262) rfl (by decide) (pc' := 172) rfl ⟨by decide, rfl⟩ rfl g rfl ?_
      refine w_putI (q := 261) rfl (by decide) (pc' := 175) rfl ⟨by decide, rfl⟩ rfl (by decide) ?_
      exact w_retv rfl rfl h
set_option maxRecDepth 4000 in
theorem s_m_ahead_186 {X : zX} {d : Nat} {rf mem : zF} {Q : zF → Prop} (hR : zall rf zRK = true) {x1 : Int} {x2 : Int} {x3 : Int} {s1 : Int} (h : (inI x2) ∧ ((x2 = 0 → L_m_ahead_204 X d rf Q (zup mem 261 3 s1) x1 x2 x3 4 0) ∧ (¬ x2 = 0 → L_m_ahead_204 X d rf Q (zup mem 261 3 s1) x1 x2 x3 6 0))) : L_m_ahead_186 X d rf Q mem x1 x2 x3 s1 := by
  intro z4 z5
  refine w_putI (q := 261) rfl (by decide) (pc' := 189) rfl ⟨by decide, rfl⟩ rfl (by decide) ?_
  refine zW.go 1 190 [(2, 261), (0, x1), (0, x2), (0, x3), z4, z5] [(0, x2)] _ rfl ?_
  refine w_if_eq rfl (by decide) (pc' := 193) rfl h.1 (fun c22 => ?_) (fun c22 => ?_)
  · have h := h.2.1 c22
    refine zW.go 4 204 [(2, 261), (0, x1), (0, x2), (0, x3), (0, 4), (0, 0)] [] _ rfl ?_
    exact h
  · have h := h.2.2 c22
    refine zW.go 5 204 [(2, 261), (0, x1), (0, x2), (0, x3), (0, 6), (0, 0)] [] _ rfl ?_
    exact h
set_option maxRecDepth 4000 in
theorem s_m_ahead_204 {X : zX} {d : Nat} {rf mem : zF} {Q : zF → Prop} (hR : zall rf zRK = true) {x1 : Int} {x2 : Int} {x3 : Int} {x4 : Int} {x5 : Int} (h : (inI x1 ∧ inI (mem 261 2)) ∧ (((mem 261 2) ≤ x1 → Q (zup mem 261 5 x1)) ∧ (¬ (mem 261 2) ≤ x1 → (inI x2) ∧ ((x2 = 0 → (0 ≤ x1 ∧ x1 < 1800) ∧ (Ci X d 200 [(0, (mem 262 (x1).toNat))] rf mem (fun r25 mem26 => (inI r25) ∧ ((r25 = 0 → Q (zup mem26 261 5 x1)) ∧ (¬ r25 = 0 → L_m_ahead_243 X d rf Q mem26 x1 x2 x3 x4 x5))))) ∧ (¬ x2 = 0 → (0 ≤ x1 ∧ x1 < 1800) ∧ (Ci X d 199 [(0, (mem 262 (x1).toNat))] rf mem (fun r28 mem29 => (inI r28) ∧ ((r28 = 0 → Q (zup mem29 261 5 x1)) ∧ (¬ r28 = 0 → L_m_ahead_243 X d rf Q mem29 x1 x2 x3 x4 x5))))))))) : L_m_ahead_204 X d rf Q mem x1 x2 x3 x4 x5 := by
  refine zW.go 2 206 [(2, 261), (0, x1), (0, x2), (0, x3), (0, x4), (0, x5)] [(2, 261), (0, x1)] _ rfl ?_
  refine w_getI (q := 261) rfl (by decide) (pc' := 209) rfl ⟨by decide, rfl⟩ rfl (by decide) ?_
  refine w_ic_ge rfl (by decide) (pc' := 212) rfl h.1 (fun c23 => ?_) (fun c23 => ?_)
  · have h := h.2.1 c23
    refine zW.go 2 336 [(2, 261), (0, x1), (0, x2), (0, x3), (0, x4), (0, x5)] [(0, x1), (2, 261)] _ rfl ?_
    refine w_putI (q := 261) rfl (by decide) (pc' := 339) rfl ⟨by decide, rfl⟩ rfl (by decide) ?_
    exact w_retv rfl rfl h
  · have h := h.2.2 c23
    refine zW.go 1 213 [(2, 261), (0, x1), (0, x2), (0, x3), (0, x4), (0, x5)] [(0, x2)] _ rfl ?_
    refine w_if_eq rfl (by decide) (pc' := 216) rfl h.1 (fun c24 => ?_) (fun c24 => ?_)
    · have h := h.2.1 c24
      refine zW.go 1 232 [(2, 261), (0, x1), (0, x2), (0, x3), (0, x4), (0, x5)] [(2, 261)] _ rfl ?_
      refine w_getL (q := 261) (v := 262) rfl (by decide) (pc' := 235) rfl ⟨by decide, rfl⟩ rfl rfl (zall_at hR (by decide)) ?_
      refine zW.go 1 236 [(2, 261), (0, x1), (0, x2), (0, x3), (0, x4), (0, x5)] [(0, x1), (2, 262)] _ rfl ?_
      obtain ⟨g, h⟩ := h
      refine w_iald (q := 262) rfl (by decide) (pc' := 237) rfl ⟨by decide, rfl⟩ rfl g rfl ?_
      refine w_calli (as := [(0, (mem 262 (x1).toNat))]) [] 240 rfl rfl rfl rfl (Nat.le_of_ble_eq_true rfl) (Nat.le_of_ble_eq_true rfl) (Nat.le_of_ble_eq_true rfl) (Or.inl rfl) (Ci.imp h (fun r25 mem26 h => ?_))
      refine w_if_eq rfl (by decide) (pc' := 243) rfl h.1 (fun c27 => ?_) (fun c27 => ?_)
      · have h := h.2.1 c27
        refine zW.go 2 336 [(2, 261), (0, x1), (0, x2), (0, x3), (0, x4), (0, x5)] [(0, x1), (2, 261)] _ rfl ?_
        refine w_putI (q := 261) rfl (by decide) (pc' := 339) rfl ⟨by decide, rfl⟩ rfl (by decide) ?_
        exact w_retv rfl rfl h
      · have h := h.2.2 c27
        exact h
    · have h := h.2.2 c24
      refine zW.go 1 217 [(2, 261), (0, x1), (0, x2), (0, x3), (0, x4), (0, x5)] [(2, 261)] _ rfl ?_
      refine w_getL (q := 261) (v := 262) rfl (by decide) (pc' := 220) rfl ⟨by decide, rfl⟩ rfl rfl (zall_at hR (by decide)) ?_
      refine zW.go 1 221 [(2, 261), (0, x1), (0, x2), (0, x3), (0, x4), (0, x5)] [(0, x1), (2, 262)] _ rfl ?_
      obtain ⟨g, h⟩ := h
      refine w_iald (q := 262) rfl (by decide) (pc' := 222) rfl ⟨by decide, rfl⟩ rfl g rfl ?_
      refine w_calli (as := [(0, (mem 262 (x1).toNat))]) [] 225 rfl rfl rfl rfl (Nat.le_of_ble_eq_true rfl) (Nat.le_of_ble_eq_true rfl) (Nat.le_of_ble_eq_true rfl) (Or.inl rfl) (Ci.imp h (fun r28 mem29 h => ?_))
      refine w_if_eq rfl (by decide) (pc' := 228) rfl h.1 (fun c30 => ?_) (fun c30 => ?_)
      · have h := h.2.1 c30
        refine zW.go 2 336 [(2, 261), (0, x1), (0, x2), (0, x3), (0, x4), (0, x5)] [(0, x1), (2, 261)] _ rfl ?_
        refine w_putI (q := 261) rfl (by decide) (pc' := 339) rfl ⟨by decide, rfl⟩ rfl (by decide) ?_
        exact w_retv rfl rfl h
      · have h := h.2.2 c30
        refine zW.go 1 243 [(2, 261), (0, x1), (0, x2), (0, x3), (0, x4), (0, x5)] [] _ rfl ?_
        exact h
set_option maxRecDepth 4000 in
theorem s_m_ahead_243 {X : zX} {d : Nat} {rf mem : zF} {Q : zF → Prop} (hR : zall rf zRK = true) {x1 : Int} {x2 : Int} {x3 : Int} {x4 : Int} {x5 : Int} (h : (inI x5 ∧ inI x4) ∧ ((¬ x5 = x4 → L_m_ahead_263 X d rf Q mem x1 x2 x3 x4 x5) ∧ (x5 = x4 → (inI (mem 261 12)) ∧ ((¬ (mem 261 12) = (-1) → L_m_ahead_263 X d rf Q mem x1 x2 x3 x4 x5) ∧ ((mem 261 12) = (-1) → L_m_ahead_263 X d rf Q (zup mem 261 12 x1) x1 x2 x3 x4 x5))))) : L_m_ahead_243 X d rf Q mem x1 x2 x3 x4 x5 := by
  refine zW.go 2 247 [(2, 261), (0, x1), (0, x2), (0, x3), (0, x4), (0, x5)] [(0, x4), (0, x5)] _ rfl ?_
  refine w_ic_ne rfl (by decide) (pc' := 250) rfl h.1 (fun c31 => ?_) (fun c31 => ?_)
  · have h := h.2.1 c31
    exact h
  · have h := h.2.2 c31
    refine zW.go 1 251 [(2, 261), (0, x1), (0, x2), (0, x3), (0, x4), (0, x5)] [(2, 261)] _ rfl ?_
    refine w_getI (q := 261) rfl (by decide) (pc' := 254) rfl ⟨by decide, rfl⟩ rfl (by decide) ?_
    refine zW.go 1 255 [(2, 261), (0, x1), (0, x2), (0, x3), (0, x4), (0, x5)] [(0, (-1)), (0, (mem 261 12))] _ rfl ?_
    refine w_ic_ne rfl (by decide) (pc' := 258) rfl ⟨h.1, by decide⟩ (fun c32 => ?_) (fun c32 => ?_)
    · have h := h.2.1 c32
      exact h
    · have h := h.2.2 c32
      refine zW.go 2 260 [(2, 261), (0, x1), (0, x2), (0, x3), (0, x4), (0, x5)] [(0, x1), (2, 261)] _ rfl ?_
      refine w_putI (q := 261) rfl (by decide) (pc' := 263) rfl ⟨by decide, rfl⟩ rfl (by decide) ?_
      exact h
set_option maxRecDepth 4000 in
theorem s_m_ahead_263 {X : zX} {d : Nat} {rf mem : zF} {Q : zF → Prop} (hR : zall rf zRK = true) {x1 : Int} {x2 : Int} {x3 : Int} {x4 : Int} {x5 : Int} (h : (inI x5 ∧ inI x4) ∧ ((x4 ≤ x5 → L_m_ahead_293 X d rf Q mem x1 x2 x3 x4 x5) ∧ (¬ x4 ≤ x5 → (inI x2) ∧ ((x2 = 0 → L_m_ahead_293 X d rf Q mem x1 x2 x3 x4 x5) ∧ (¬ x2 = 0 → (0 ≤ x1 ∧ x1 < 1800) ∧ ((inI (mem 262 (x1).toNat)) ∧ (L_m_ahead_293 X d rf Q (zup mem 261 7 (zlor (zlsl (mem 261 7) 8) (mem 262 (x1).toNat))) x1 x2 x3 x4 x5))))))) : L_m_ahead_263 X d rf Q mem x1 x2 x3 x4 x5 := by
  refine zW.go 2 267 [(2, 261), (0, x1), (0, x2), (0, x3), (0, x4), (0, x5)] [(0, x4), (0, x5)] _ rfl ?_
  refine w_ic_ge rfl (by decide) (pc' := 270) rfl h.1 (fun c33 => ?_) (fun c33 => ?_)
  · have h := h.2.1 c33
    exact h
  · have h := h.2.2 c33
    refine zW.go 1 271 [(2, 261), (0, x1), (0, x2), (0, x3), (0, x4), (0, x5)] [(0, x2)] _ rfl ?_
    refine w_if_eq rfl (by decide) (pc' := 274) rfl h.1 (fun c34 => ?_) (fun c34 => ?_)
    · have h := h.2.1 c34
      exact h
    · have h := h.2.2 c34
      refine zW.go 2 276 [(2, 261), (0, x1), (0, x2), (0, x3), (0, x4), (0, x5)] [(2, 261), (2, 261)] _ rfl ?_
      refine w_getJ (q := 261) rfl (by decide) (pc' := 279) rfl ⟨by decide, rfl⟩ rfl (by decide) ?_
      refine zW.go 3 283 [(2, 261), (0, x1), (0, x2), (0, x3), (0, x4), (0, x5)] [(2, 261), (1, (zlsl (mem 261 7) 8)), (2, 261)] _ rfl ?_
      refine w_getL (q := 261) (v := 262) rfl (by decide) (pc' := 286) rfl ⟨by decide, rfl⟩ rfl rfl (zall_at hR (by decide)) ?_
      refine zW.go 1 287 [(2, 261), (0, x1), (0, x2), (0, x3), (0, x4), (0, x5)] [(0, x1), (2, 262), (1, (zlsl (mem 261 7) 8)), (2, 261)] _ rfl ?_
      obtain ⟨g, h⟩ := h
      refine w_iald (q := 262) rfl (by decide) (pc' := 288) rfl ⟨by decide, rfl⟩ rfl g rfl ?_
      obtain ⟨g, h⟩ := h
      refine w_i2l rfl (by decide) (pc' := 289) rfl g ?_
      refine zW.go 1 290 [(2, 261), (0, x1), (0, x2), (0, x3), (0, x4), (0, x5)] [(1, (zlor (zlsl (mem 261 7) 8) (mem 262 (x1).toNat))), (2, 261)] _ rfl ?_
      refine w_putJ (q := 261) rfl (by decide) (pc' := 293) rfl ⟨by decide, rfl⟩ rfl (by decide) ?_
      exact h
set_option maxRecDepth 4000 in
theorem s_m_ahead_293 {X : zX} {d : Nat} {rf mem : zF} {Q : zF → Prop} (hR : zall rf zRK = true) {x1 : Int} {x2 : Int} {x3 : Int} {x4 : Int} {x5 : Int} (h : (inI x5 ∧ inI x4) ∧ ((x4 ≤ x5 → L_m_ahead_204 X d rf Q mem (x1 + 1) x2 x3 x4 (x5 + 1)) ∧ (¬ x4 ≤ x5 → (inI x3) ∧ ((x3 = 0 → L_m_ahead_204 X d rf Q mem (x1 + 1) x2 x3 x4 (x5 + 1)) ∧ (¬ x3 = 0 → (0 ≤ x1 ∧ x1 < 1800) ∧ (L_m_ahead_204 X d rf Q (zup mem 261 6 (((10 * (mem 261 6)) + (mem 262 (x1).toNat)) - 48)) (x1 + 1) x2 x3 x4 (x5 + 1))))))) : L_m_ahead_293 X d rf Q mem x1 x2 x3 x4 x5 := by
  refine zW.go 2 297 [(2, 261), (0, x1), (0, x2), (0, x3), (0, x4), (0, x5)] [(0, x4), (0, x5)] _ rfl ?_
  refine w_ic_ge rfl (by decide) (pc' := 300) rfl h.1 (fun c35 => ?_) (fun c35 => ?_)
  · have h := h.2.1 c35
    refine zW.go 3 204 [(2, 261), (0, (x1 + 1)), (0, x2), (0, x3), (0, x4), (0, (x5 + 1))] [] _ rfl ?_
    exact h
  · have h := h.2.2 c35
    refine zW.go 1 301 [(2, 261), (0, x1), (0, x2), (0, x3), (0, x4), (0, x5)] [(0, x3)] _ rfl ?_
    refine w_if_eq rfl (by decide) (pc' := 304) rfl h.1 (fun c36 => ?_) (fun c36 => ?_)
    · have h := h.2.1 c36
      refine zW.go 3 204 [(2, 261), (0, (x1 + 1)), (0, x2), (0, x3), (0, x4), (0, (x5 + 1))] [] _ rfl ?_
      exact h
    · have h := h.2.2 c36
      refine zW.go 3 308 [(2, 261), (0, x1), (0, x2), (0, x3), (0, x4), (0, x5)] [(2, 261), (0, 10), (2, 261)] _ rfl ?_
      refine w_getI (q := 261) rfl (by decide) (pc' := 311) rfl ⟨by decide, rfl⟩ rfl (by decide) ?_
      refine zW.go 2 313 [(2, 261), (0, x1), (0, x2), (0, x3), (0, x4), (0, x5)] [(2, 261), (0, (10 * (mem 261 6))), (2, 261)] _ rfl ?_
      refine w_getL (q := 261) (v := 262) rfl (by decide) (pc' := 316) rfl ⟨by decide, rfl⟩ rfl rfl (zall_at hR (by decide)) ?_
      refine zW.go 1 317 [(2, 261), (0, x1), (0, x2), (0, x3), (0, x4), (0, x5)] [(0, x1), (2, 262), (0, (10 * (mem 261 6))), (2, 261)] _ rfl ?_
      obtain ⟨g, h⟩ := h
      refine w_iald (q := 262) rfl (by decide) (pc' := 318) rfl ⟨by decide, rfl⟩ rfl g rfl ?_
      refine zW.go 3 322 [(2, 261), (0, x1), (0, x2), (0, x3), (0, x4), (0, x5)] [(0, (((10 * (mem 261 6)) + (mem 262 (x1).toNat)) - 48)), (2, 261)] _ rfl ?_
      refine w_putI (q := 261) rfl (by decide) (pc' := 325) rfl ⟨by decide, rfl⟩ rfl (by decide) ?_
      refine zW.go 3 204 [(2, 261), (0, (x1 + 1)), (0, x2), (0, x3), (0, x4), (0, (x5 + 1))] [] _ rfl ?_
      exact h
set_option maxRecDepth 4000 in
theorem s_m_ahead {X : zX} {d : Nat} {rf mem : zF} {Q : zF → Prop} (hR : zall rf zRK = true) (h : L_m_ahead_5 X d rf Q mem (mem 261 5)) : Cv X (d + 1) 202 [(2, 261)] rf mem Q := by
  show zW X (d + 1) 202 0 [(2, 261), (9, 0), (9, 0), (9, 0), (9, 0), (9, 0)] [] (zty, rf, mem) (qv rf Q)
  refine zW.go 1 1 [(2, 261), (9, 0), (9, 0), (9, 0), (9, 0), (9, 0)] [(2, 261)] _ rfl ?_
  refine w_getI (q := 261) rfl (by decide) (pc' := 4) rfl ⟨by decide, rfl⟩ rfl (by decide) ?_
  refine zW.go 1 5 [(2, 261), (0, (mem 261 5)), (9, 0), (9, 0), (9, 0), (9, 0)] [] _ rfl ?_
  exact h (9, 0) (9, 0) (9, 0) (9, 0)
set_option maxRecDepth 4000 in
theorem s_m_isSign {X : zX} {d : Nat} {rf mem : zF} {Q : Int → zF → Prop} (hR : zall rf zRK = true) {x1 : Int} (h : (inI (mem 261 3)) ∧ ((¬ (mem 261 3) = 3 → Q 0 mem) ∧ ((mem 261 3) = 3 → (inI (mem 261 6) ∧ inI x1) ∧ ((¬ (mem 261 6) = x1 → Q 0 mem) ∧ ((mem 261 6) = x1 → Q 1 mem))))) : Ci X d 203 [(2, 261), (0, x1)] rf mem Q := by
  show zW X d 203 0 [(2, 261), (0, x1)] [] (zty, rf, mem) (qi rf Q)
  refine zW.go 1 1 [(2, 261), (0, x1)] [(2, 261)] _ rfl ?_
  refine w_getI (q := 261) rfl (by decide) (pc' := 4) rfl ⟨by decide, rfl⟩ rfl (by decide) ?_
  refine zW.go 1 5 [(2, 261), (0, x1)] [(0, 3), (0, (mem 261 3))] _ rfl ?_
  refine w_ic_ne rfl (by decide) (pc' := 8) rfl ⟨h.1, by decide⟩ (fun c1 => ?_) (fun c1 => ?_)
  · have h := h.2.1 c1
    refine zW.go 1 21 [(2, 261), (0, x1)] [(0, 0)] _ rfl ?_
    exact w_retz rfl rfl (by decide) h
  · have h := h.2.2 c1
    refine zW.go 1 9 [(2, 261), (0, x1)] [(2, 261)] _ rfl ?_
    refine w_getI (q := 261) rfl (by decide) (pc' := 12) rfl ⟨by decide, rfl⟩ rfl (by decide) ?_
    refine zW.go 1 13 [(2, 261), (0, x1)] [(0, x1), (0, (mem 261 6))] _ rfl ?_
    refine w_ic_ne rfl (by decide) (pc' := 16) rfl h.1 (fun c2 => ?_) (fun c2 => ?_)
    · have h := h.2.1 c2
      refine zW.go 1 21 [(2, 261), (0, x1)] [(0, 0)] _ rfl ?_
      exact w_retz rfl rfl (by decide) h
    · have h := h.2.2 c2
      refine zW.go 2 21 [(2, 261), (0, x1)] [(0, 1)] _ rfl ?_
      exact w_retz rfl rfl (by decide) h
set_option maxRecDepth 4000 in
theorem s_m_isWord {X : zX} {d : Nat} {rf mem : zF} {Q : Int → zF → Prop} (hR : zall rf zRK = true) {x1 : Int} (h : (inI (mem 261 3)) ∧ ((¬ (mem 261 3) = 1 → Q 0 mem) ∧ ((mem 261 3) = 1 → (inL (mem 261 7) ∧ inL x1) ∧ ((inI (if (mem 261 7) < x1 then -1 else if (mem 261 7) = x1 then 0 else 1)) ∧ ((¬ (if (mem 261 7) < x1 then -1 else if (mem 261 7) = x1 then 0 else 1) = 0 → Q 0 mem) ∧ ((if (mem 261 7) < x1 then -1 else if (mem 261 7) = x1 then 0 else 1) = 0 → Q 1 mem)))))) : Ci X d 204 [(2, 261), (1, x1)] rf mem Q := by
  show zW X d 204 0 [(2, 261), (1, x1), (9, 0)] [] (zty, rf, mem) (qi rf Q)
  refine zW.go 1 1 [(2, 261), (1, x1), (9, 0)] [(2, 261)] _ rfl ?_
  refine w_getI (q := 261) rfl (by decide) (pc' := 4) rfl ⟨by decide, rfl⟩ rfl (by decide) ?_
  refine zW.go 1 5 [(2, 261), (1, x1), (9, 0)] [(0, 1), (0, (mem 261 3))] _ rfl ?_
  refine w_ic_ne rfl (by decide) (pc' := 8) rfl ⟨h.1, by decide⟩ (fun c1 => ?_) (fun c1 => ?_)
  · have h := h.2.1 c1
    refine zW.go 1 22 [(2, 261), (1, x1), (9, 0)] [(0, 0)] _ rfl ?_
    exact w_retz rfl rfl (by decide) h
  · have h := h.2.2 c1
    refine zW.go 1 9 [(2, 261), (1, x1), (9, 0)] [(2, 261)] _ rfl ?_
    refine w_getJ (q := 261) rfl (by decide) (pc' := 12) rfl ⟨by decide, rfl⟩ rfl (by decide) ?_
    refine zW.go 1 13 [(2, 261), (1, x1), (9, 0)] [(1, x1), (1, (mem 261 7))] _ rfl ?_
    obtain ⟨g, h⟩ := h
    refine w_lcmp rfl (by decide) (pc' := 14) rfl g ?_
    refine w_if_ne rfl (by decide) (pc' := 17) rfl h.1 (fun c2 => ?_) (fun c2 => ?_)
    · have h := h.2.1 c2
      refine zW.go 1 22 [(2, 261), (1, x1), (9, 0)] [(0, 0)] _ rfl ?_
      exact w_retz rfl rfl (by decide) h
    · have h := h.2.2 c2
      refine zW.go 2 22 [(2, 261), (1, x1), (9, 0)] [(0, 1)] _ rfl ?_
      exact w_retz rfl rfl (by decide) h
set_option maxRecDepth 4000 in
theorem s_m_must {X : zX} {d : Nat} {rf mem : zF} {Q : zF → Prop} (hR : zall rf zRK = true) {x1 : Int} (h : Cv X d 201 [(2, 261)] rf mem (fun mem1 => Ci X d 203 [(2, 261), (0, x1)] rf mem1 (fun r2 mem3 => (inI r2) ∧ ((¬ r2 = 0 → (inI (mem3 261 8)) ∧ ((¬ (mem3 261 8) = 0 → Q mem3) ∧ ((mem3 261 8) = 0 → Cv X d 202 [(2, 261)] rf mem3 (fun mem6 => Q mem6)))) ∧ (r2 = 0 → Cv X d 198 [(2, 261), (0, 1), (0, (mem3 261 4))] rf mem3 (fun mem7 => (inI (mem7 261 8)) ∧ ((¬ (mem7 261 8) = 0 → Q mem7) ∧ ((mem7 261 8) = 0 → Cv X d 202 [(2, 261)] rf mem7 (fun mem9 => Q mem9))))))))) : Cv X (d + 1) 205 [(2, 261), (0, x1)] rf mem Q := by
  show zW X (d + 1) 205 0 [(2, 261), (0, x1)] [] (zty, rf, mem) (qv rf Q)
  refine zW.go 1 1 [(2, 261), (0, x1)] [(2, 261)] _ rfl ?_
  refine w_callv (as := [(2, 261)]) [] 4 rfl rfl rfl rfl (Nat.le_of_ble_eq_true rfl) (Nat.le_of_ble_eq_true rfl) (Nat.le_of_ble_eq_true rfl) (Or.inr rfl) (Cv.imp h (fun mem1 h => ?_))
  refine zW.go 2 6 [(2, 261), (0, x1)] [(0, x1), (2, 261)] _ rfl ?_
  refine w_calli (as := [(2, 261), (0, x1)]) [] 9 rfl rfl rfl rfl (Nat.le_of_ble_eq_true rfl) (Nat.le_of_ble_eq_true rfl) (Nat.le_of_ble_eq_true rfl) (Or.inr rfl) (Ci.imp h (fun r2 mem3 h => ?_))
  refine w_if_ne rfl (by decide) (pc' := 12) rfl h.1 (fun c4 => ?_) (fun c4 => ?_)
  · have h := h.2.1 c4
    refine zW.go 1 22 [(2, 261), (0, x1)] [(2, 261)] _ rfl ?_
    refine w_getI (q := 261) rfl (by decide) (pc' := 25) rfl ⟨by decide, rfl⟩ rfl (by decide) ?_
    refine w_if_ne rfl (by decide) (pc' := 28) rfl h.1 (fun c5 => ?_) (fun c5 => ?_)
    · have h := h.2.1 c5
      exact w_retv rfl rfl h
    · have h := h.2.2 c5
      refine zW.go 1 29 [(2, 261), (0, x1)] [(2, 261)] _ rfl ?_
      refine w_callv (as := [(2, 261)]) [] 32 rfl rfl rfl rfl (Nat.le_of_ble_eq_true rfl) (Nat.le_of_ble_eq_true rfl) (Nat.le_of_ble_eq_true rfl) (Or.inr rfl) (Cv.imp h (fun mem6 h => ?_))
      exact w_retv rfl rfl h
  · have h := h.2.2 c4
    refine zW.go 3 15 [(2, 261), (0, x1)] [(2, 261), (0, 1), (2, 261)] _ rfl ?_
    refine w_getI (q := 261) rfl (by decide) (pc' := 18) rfl ⟨by decide, rfl⟩ rfl (by decide) ?_
    refine w_callv (as := [(2, 261), (0, 1), (0, (mem3 261 4))]) [] 21 rfl rfl rfl rfl (Nat.le_of_ble_eq_true rfl) (Nat.le_of_ble_eq_true rfl) (Nat.le_of_ble_eq_true rfl) (Or.inr rfl) (Cv.imp h (fun mem7 h => ?_))
    refine zW.go 1 22 [(2, 261), (0, x1)] [(2, 261)] _ rfl ?_
    refine w_getI (q := 261) rfl (by decide) (pc' := 25) rfl ⟨by decide, rfl⟩ rfl (by decide) ?_
    refine w_if_ne rfl (by decide) (pc' := 28) rfl h.1 (fun c8 => ?_) (fun c8 => ?_)
    · have h := h.2.1 c8
      exact w_retv rfl rfl h
    · have h := h.2.2 c8
      refine zW.go 1 29 [(2, 261), (0, x1)] [(2, 261)] _ rfl ?_
      refine w_callv (as := [(2, 261)]) [] 32 rfl rfl rfl rfl (Nat.le_of_ble_eq_true rfl) (Nat.le_of_ble_eq_true rfl) (Nat.le_of_ble_eq_true rfl) (Or.inr rfl) (Cv.imp h (fun mem9 h => ?_))
      exact w_retv rfl rfl h
set_option maxRecDepth 4000 in
theorem s_m_isOwn {X : zX} {d : Nat} {rf mem : zF} {Q : Int → zF → Prop} (hR : zall rf zRK = true) {x1 : Int} (h : (inL x1 ∧ inL 1919905645) ∧ ((inI (if x1 < 1919905645 then -1 else if x1 = 1919905645 then 0 else 1)) ∧ (((if x1 < 1919905645 then -1 else if x1 = 1919905645 then 0 else 1) = 0 → Q 1 mem) ∧ (¬ (if x1 < 1919905645 then -1 else if x1 = 1919905645 then 0 else 1) = 0 → (inL x1 ∧ inL 25209) ∧ ((inI (if x1 < 25209 then -1 else if x1 = 25209 then 0 else 1)) ∧ (((if x1 < 25209 then -1 else if x1 = 25209 then 0 else 1) = 0 → Q 1 mem) ∧ (¬ (if x1 < 25209 then -1 else if x1 = 25209 then 0 else 1) = 0 → (inL x1 ∧ inL 1818324336) ∧ ((inI (if x1 < 1818324336 then -1 else if x1 = 1818324336 then 0 else 1)) ∧ (((if x1 < 1818324336 then -1 else if x1 = 1818324336 then 0 else 1) = 0 → Q 1 mem) ∧ (¬ (if x1 < 1818324336 then -1 else if x1 = 1818324336 then 0 else 1) = 0 → (inL x1 ∧ inL 1685024626) ∧ ((inI (if x1 < 1685024626 then -1 else if x1 = 1685024626 then 0 else 1)) ∧ (((if x1 < 1685024626 then -1 else if x1 = 1685024626 then 0 else 1) = 0 → Q 1 mem) ∧ (¬ (if x1 < 1685024626 then -1 else if x1 = 1685024626 then 0 else 1) = 0 → (inL x1 ∧ inL 24948) ∧ ((inI (if x1 < 24948 then -1 else if x1 = 24948 then 0 else 1)) ∧ ((¬ (if x1 < 24948 then -1 else if x1 = 24948 then 0 else 1) = 0 → (inL x1 ∧ inL 422726039411) ∧ ((inI (if x1 < 422726039411 then -1 else if x1 = 422726039411 then 0 else 1)) ∧ (((if x1 < 422726039411 then -1 else if x1 = 422726039411 then 0 else 1) = 0 → Q 1 mem) ∧ (¬ (if x1 < 422726039411 then -1 else if x1 = 422726039411 then 0 else 1) = 0 → (inL x1 ∧ inL 491327153000) ∧ ((inI (if x1 < 491327153000 then -1 else if x1 = 491327153000 then 0 else 1)) ∧ (((if x1 < 491327153000 then -1 else if x1 = 491327153000 then 0 else 1) = 0 → Q 1 mem) ∧ (¬ (if x1 < 491327153000 then -1 else if x1 = 491327153000 then 0 else 1) = 0 → (inL x1 ∧ inL 1869636974) ∧ ((inI (if x1 < 1869636974 then -1 else if x1 = 1869636974 then 0 else 1)) ∧ (((if x1 < 1869636974 then -1 else if x1 = 1869636974 then 0 else 1) = 0 → Q 1 mem) ∧ (¬ (if x1 < 1869636974 then -1 else if x1 = 1869636974 then 0 else 1) = 0 → (inL x1 ∧ inL 1751476594) ∧ ((inI (if x1 < 1751476594 then -1 else if x1 = 1751476594 then 0 else 1)) ∧ (((if x1 < 1751476594 then -1 else if x1 = 1751476594 then 0 else 1) = 0 → Q 1 mem) ∧ (¬ (if x1 < 1751476594 then -1 else if x1 = 1751476594 then 0 else 1) = 0 → (inL x1 ∧ inL 1952541804) ∧ ((inI (if x1 < 1952541804 then -1 else if x1 = 1952541804 then 0 else 1)) ∧ ((¬ (if x1 < 1952541804 then -1 else if x1 = 1952541804 then 0 else 1) = 0 → (inL x1 ∧ inL 108256301313125) ∧ ((inI (if x1 < 108256301313125 then -1 else if x1 = 108256301313125 then 0 else 1)) ∧ (((if x1 < 108256301313125 then -1 else if x1 = 108256301313125 then 0 else 1) = 0 → Q 1 mem) ∧ (¬ (if x1 < 108256301313125 then -1 else if x1 = 108256301313125 then 0 else 1) = 0 → (inL x1 ∧ inL 1718185069) ∧ ((inI (if x1 < 1718185069 then -1 else if x1 = 1718185069 then 0 else 1)) ∧ (((if x1 < 1718185069 then -1 else if x1 = 1718185069 then 0 else 1) = 0 → Q 1 mem) ∧ (¬ (if x1 < 1718185069 then -1 else if x1 = 1718185069 then 0 else 1) = 0 → (inL x1 ∧ inL 1936292453) ∧ ((inI (if x1 < 1936292453 then -1 else if x1 = 1936292453 then 0 else 1)) ∧ (((if x1 < 1936292453 then -1 else if x1 = 1936292453 then 0 else 1) = 0 → Q 1 mem) ∧ (¬ (if x1 < 1936292453 then -1 else if x1 = 1936292453 then 0 else 1) = 0 → (inL x1 ∧ inL 499967946355) ∧ ((inI (if x1 < 499967946355 then -1 else if x1 = 499967946355 then 0 else 1)) ∧ (((if x1 < 499967946355 then -1 else if x1 = 499967946355 then 0 else 1) = 0 → Q 1 mem) ∧ (¬ (if x1 < 499967946355 then -1 else if x1 = 499967946355 then 0 else 1) = 0 → (inL x1 ∧ inL 108256570864755) ∧ ((inI (if x1 < 108256570864755 then -1 else if x1 = 108256570864755 then 0 else 1)) ∧ ((¬ (if x1 < 108256570864755 then -1 else if x1 = 108256570864755 then 0 else 1) = 0 → (inL x1 ∧ inL 6845797) ∧ ((inI (if x1 < 6845797 then -1 else if x1 = 6845797 then 0 else 1)) ∧ (((if x1 < 6845797 then -1 else if x1 = 6845797 then 0 else 1) = 0 → Q 1 mem) ∧ (¬ (if x1 < 6845797 then -1 else if x1 = 6845797 then 0 else 1) = 0 → (inL x1 ∧ inL 108243466679400) ∧ ((inI (if x1 < 108243466679400 then -1 else if x1 = 108243466679400 then 0 else 1)) ∧ (((if x1 < 108243466679400 then -1 else if x1 = 108243466679400 then 0 else 1) = 0 → Q 1 mem) ∧ (¬ (if x1 < 108243466679400 then -1 else if x1 = 108243466679400 then 0 else 1) = 0 → (inL x1 ∧ inL 126879297138276) ∧ ((inI (if x1 < 126879297138276 then -1 else if x1 = 126879297138276 then 0 else 1)) ∧ (((if x1 < 126879297138276 then -1 else if x1 = 126879297138276 then 0 else 1) = 0 → Q 1 mem) ∧ (¬ (if x1 < 126879297138276 then -1 else if x1 = 126879297138276 then 0 else 1) = 0 → (inL x1 ∧ inL 431416239732) ∧ ((inI (if x1 < 431416239732 then -1 else if x1 = 431416239732 then 0 else 1)) ∧ (((if x1 < 431416239732 then -1 else if x1 = 431416239732 then 0 else 1) = 0 → Q 1 mem) ∧ (¬ (if x1 < 431416239732 then -1 else if x1 = 431416239732 then 0 else 1) = 0 → (inL x1 ∧ inL 431197873267) ∧ ((inI (if x1 < 431197873267 then -1 else if x1 = 431197873267 then 0 else 1)) ∧ ((¬ (if x1 < 431197873267 then -1 else if x1 = 431197873267 then 0 else 1) = 0 → (inL x1 ∧ inL 26982) ∧ ((inI (if x1 < 26982 then -1 else if x1 = 26982 then 0 else 1)) ∧ (((if x1 < 26982 then -1 else if x1 = 26982 then 0 else 1) = 0 → Q 1 mem) ∧ (¬ (if x1 < 26982 then -1 else if x1 = 26982 then 0 else 1) = 0 → (inL x1 ∧ inL 28530) ∧ ((inI (if x1 < 28530 then -1 else if x1 = 28530 then 0 else 1)) ∧ (((if x1 < 28530 then -1 else if x1 = 28530 then 0 else 1) = 0 → Q 1 mem) ∧ (¬ (if x1 < 28530 then -1 else if x1 = 28530 then 0 else 1) = 0 → (inL x1 ∧ inL 6385252) ∧ ((inI (if x1 < 6385252 then -1 else if x1 = 6385252 then 0 else 1)) ∧ (((if x1 < 6385252 then -1 else if x1 = 6385252 then 0 else 1) = 0 → Q 1 mem) ∧ (¬ (if x1 < 6385252 then -1 else if x1 = 6385252 then 0 else 1) = 0 → (inL x1 ∧ inL 7237492) ∧ ((inI (if x1 < 7237492 then -1 else if x1 = 7237492 then 0 else 1)) ∧ (((if x1 < 7237492 then -1 else if x1 = 7237492 then 0 else 1) = 0 → Q 1 mem) ∧ (¬ (if x1 < 7237492 then -1 else if x1 = 7237492 then 0 else 1) = 0 → (inL x1 ∧ inL 6384748) ∧ ((inI (if x1 < 6384748 then -1 else if x1 = 6384748 then 0 else 1)) ∧ ((¬ (if x1 < 6384748 then -1 else if x1 = 6384748 then 0 else 1) = 0 → (inL x1 ∧ inL 7170414) ∧ ((inI (if x1 < 7170414 then -1 else if x1 = 7170414 then 0 else 1)) ∧ (((if x1 < 7170414 then -1 else if x1 = 7170414 then 0 else 1) = 0 → Q 1 mem) ∧ (¬ (if x1 < 7170414 then -1 else if x1 = 7170414 then 0 else 1) = 0 → (inL x1 ∧ inL 7168376) ∧ ((inI (if x1 < 7168376 then -1 else if x1 = 7168376 then 0 else 1)) ∧ ((¬ (if x1 < 7168376 then -1 else if x1 = 7168376 then 0 else 1) = 0 → Q 0 mem) ∧ ((if x1 < 7168376 then -1 else if x1 = 7168376 then 0 else 1) = 0 → Q 1 mem))))))) ∧ ((if x1 < 6384748 then -1 else if x1 = 6384748 then 0 else 1) = 0 → Q 1 mem)))))))))))))))) ∧ ((if x1 < 431197873267 then -1 else if x1 = 431197873267 then 0 else 1) = 0 → Q 1 mem)))))))))))))))) ∧ ((if x1 < 108256570864755 then -1 else if x1 = 108256570864755 then 0 else 1) = 0 → Q 1 mem)))))))))))))))) ∧ ((if x1 < 1952541804 then -1 else if x1 = 1952541804 then 0 else 1) = 0 → Q 1 mem)))))))))))))))) ∧ ((if x1 < 24948 then -1 else if x1 = 24948 then 0 else 1) = 0 → Q 1 mem)))))))))))))))) : Ci X d 206 [(2, 261), (1, x1)] rf mem Q := by
  show zW X d 206 0 [(2, 261), (1, x1), (9, 0)] [] (zty, rf, mem) (qi rf Q)
  refine zW.go 2 4 [(2, 261), (1, x1), (9, 0)] [(1, 1919905645), (1, x1)] _ rfl ?_
  obtain ⟨g, h⟩ := h
  refine w_lcmp rfl (by decide) (pc' := 5) rfl g ?_
  refine w_if_eq rfl (by decide) (pc' := 8) rfl h.1 (fun c1 => ?_) (fun c1 => ?_)
  · have h := h.2.1 c1
    refine zW.go 1 41 [(2, 261), (1, x1), (9, 0)] [(0, 1)] _ rfl ?_
    exact w_retz rfl rfl (by decide) h
  · have h := h.2.2 c1
    refine zW.go 2 12 [(2, 261), (1, x1), (9, 0)] [(1, 25209), (1, x1)] _ rfl ?_
    obtain ⟨g, h⟩ := h
    refine w_lcmp rfl (by decide) (pc' := 13) rfl g ?_
    refine w_if_eq rfl (by decide) (pc' := 16) rfl h.1 (fun c2 => ?_) (fun c2 => ?_)
    · have h := h.2.1 c2
      refine zW.go 1 41 [(2, 261), (1, x1), (9, 0)] [(0, 1)] _ rfl ?_
      exact w_retz rfl rfl (by decide) h
    · have h := h.2.2 c2
      refine zW.go 2 20 [(2, 261), (1, x1), (9, 0)] [(1, 1818324336), (1, x1)] _ rfl ?_
      obtain ⟨g, h⟩ := h
      refine w_lcmp rfl (by decide) (pc' := 21) rfl g ?_
      refine w_if_eq rfl (by decide) (pc' := 24) rfl h.1 (fun c3 => ?_) (fun c3 => ?_)
      · have h := h.2.1 c3
        refine zW.go 1 41 [(2, 261), (1, x1), (9, 0)] [(0, 1)] _ rfl ?_
        exact w_retz rfl rfl (by decide) h
      · have h := h.2.2 c3
        refine zW.go 2 28 [(2, 261), (1, x1), (9, 0)] [(1, 1685024626), (1, x1)] _ rfl ?_
        obtain ⟨g, h⟩ := h
        refine w_lcmp rfl (by decide) (pc' := 29) rfl g ?_
        refine w_if_eq rfl (by decide) (pc' := 32) rfl h.1 (fun c4 => ?_) (fun c4 => ?_)
        · have h := h.2.1 c4
          refine zW.go 1 41 [(2, 261), (1, x1), (9, 0)] [(0, 1)] _ rfl ?_
          exact w_retz rfl rfl (by decide) h
        · have h := h.2.2 c4
          refine zW.go 2 36 [(2, 261), (1, x1), (9, 0)] [(1, 24948), (1, x1)] _ rfl ?_
          obtain ⟨g, h⟩ := h
          refine w_lcmp rfl (by decide) (pc' := 37) rfl g ?_
          refine w_if_ne rfl (by decide) (pc' := 40) rfl h.1 (fun c5 => ?_) (fun c5 => ?_)
          · have h := h.2.1 c5
            refine zW.go 2 46 [(2, 261), (1, x1), (9, 0)] [(1, 422726039411), (1, x1)] _ rfl ?_
            obtain ⟨g, h⟩ := h
            refine w_lcmp rfl (by decide) (pc' := 47) rfl g ?_
            refine w_if_eq rfl (by decide) (pc' := 50) rfl h.1 (fun c6 => ?_) (fun c6 => ?_)
            · have h := h.2.1 c6
              refine zW.go 1 83 [(2, 261), (1, x1), (9, 0)] [(0, 1)] _ rfl ?_
              exact w_retz rfl rfl (by decide) h
            · have h := h.2.2 c6
              refine zW.go 2 54 [(2, 261), (1, x1), (9, 0)] [(1, 491327153000), (1, x1)] _ rfl ?_
              obtain ⟨g, h⟩ := h
              refine w_lcmp rfl (by decide) (pc' := 55) rfl g ?_
              refine w_if_eq rfl (by decide) (pc' := 58) rfl h.1 (fun c7 => ?_) (fun c7 => ?_)
              · have h := h.2.1 c7
                refine zW.go 1 83 [(2, 261), (1, x1), (9, 0)] [(0, 1)] _ rfl ?_
                exact w_retz rfl rfl (by decide) h
              · have h := h.2.2 c7
                refine zW.go 2 62 [(2, 261), (1, x1), (9, 0)] [(1, 1869636974), (1, x1)] _ rfl ?_
                obtain ⟨g, h⟩ := h
                refine w_lcmp rfl (by decide) (pc' := 63) rfl g ?_
                refine w_if_eq rfl (by decide) (pc' := 66) rfl h.1 (fun c8 => ?_) (fun c8 => ?_)
                · have h := h.2.1 c8
                  refine zW.go 1 83 [(2, 261), (1, x1), (9, 0)] [(0, 1)] _ rfl ?_
                  exact w_retz rfl rfl (by decide) h
                · have h := h.2.2 c8
                  refine zW.go 2 70 [(2, 261), (1, x1), (9, 0)] [(1, 1751476594), (1, x1)] _ rfl ?_
                  obtain ⟨g, h⟩ := h
                  refine w_lcmp rfl (by decide) (pc' := 71) rfl g ?_
                  refine w_if_eq rfl (by decide) (pc' := 74) rfl h.1 (fun c9 => ?_) (fun c9 => ?_)
                  · have h := h.2.1 c9
                    refine zW.go 1 83 [(2, 261), (1, x1), (9, 0)] [(0, 1)] _ rfl ?_
                    exact w_retz rfl rfl (by decide) h
                  · have h := h.2.2 c9
                    refine zW.go 2 78 [(2, 261), (1, x1), (9, 0)] [(1, 1952541804), (1, x1)] _ rfl ?_
                    obtain ⟨g, h⟩ := h
                    refine w_lcmp rfl (by decide) (pc' := 79) rfl g ?_
                    refine w_if_ne rfl (by decide) (pc' := 82) rfl h.1 (fun c10 => ?_) (fun c10 => ?_)
                    · have h := h.2.1 c10
                      refine zW.go 2 88 [(2, 261), (1, x1), (9, 0)] [(1, 108256301313125), (1, x1)] _ rfl ?_
                      obtain ⟨g, h⟩ := h
                      refine w_lcmp rfl (by decide) (pc' := 89) rfl g ?_
                      refine w_if_eq rfl (by decide) (pc' := 92) rfl h.1 (fun c11 => ?_) (fun c11 => ?_)
                      · have h := h.2.1 c11
                        refine zW.go 1 125 [(2, 261), (1, x1), (9, 0)] [(0, 1)] _ rfl ?_
                        exact w_retz rfl rfl (by decide) h
                      · have h := h.2.2 c11
                        refine zW.go 2 96 [(2, 261), (1, x1), (9, 0)] [(1, 1718185069), (1, x1)] _ rfl ?_
                        obtain ⟨g, h⟩ := h
                        refine w_lcmp rfl (by decide) (pc' := 97) rfl g ?_
                        refine w_if_eq rfl (by decide) (pc' := 100) rfl h.1 (fun c12 => ?_) (fun c12 => ?_)
                        · have h := h.2.1 c12
                          refine zW.go 1 125 [(2, 261), (1, x1), (9, 0)] [(0, 1)] _ rfl ?_
                          exact w_retz rfl rfl (by decide) h
                        · have h := h.2.2 c12
                          refine zW.go 2 104 [(2, 261), (1, x1), (9, 0)] [(1, 1936292453), (1, x1)] _ rfl ?_
                          obtain ⟨g, h⟩ := h
                          refine w_lcmp rfl (by decide) (pc' := 105) rfl g ?_
                          refine w_if_eq rfl (by decide) (pc' := 108) rfl h.1 (fun c13 => ?_) (fun c13 => ?_)
                          · have h := h.2.1 c13
                            refine zW.go 1 125 [(2, 261), (1, x1), (9, 0)] [(0, 1)] _ rfl ?_
                            exact w_retz rfl rfl (by decide) h
                          · have h := h.2.2 c13
                            refine zW.go 2 112 [(2, 261), (1, x1), (9, 0)] [(1, 499967946355), (1, x1)] _ rfl ?_
                            obtain ⟨g, h⟩ := h
                            refine w_lcmp rfl (by decide) (pc' := 113) rfl g ?_
                            refine w_if_eq rfl (by decide) (pc' := 116) rfl h.1 (fun c14 => ?_) (fun c14 => ?_)
                            · have h := h.2.1 c14
                              refine zW.go 1 125 [(2, 261), (1, x1), (9, 0)] [(0, 1)] _ rfl ?_
                              exact w_retz rfl rfl (by decide) h
                            · have h := h.2.2 c14
                              refine zW.go 2 120 [(2, 261), (1, x1), (9, 0)] [(1, 108256570864755), (1, x1)] _ rfl ?_
                              obtain ⟨g, h⟩ := h
                              refine w_lcmp rfl (by decide) (pc' := 121) rfl g ?_
                              refine w_if_ne rfl (by decide) (pc' := 124) rfl h.1 (fun c15 => ?_) (fun c15 => ?_)
                              · have h := h.2.1 c15
                                refine zW.go 2 130 [(2, 261), (1, x1), (9, 0)] [(1, 6845797), (1, x1)] _ rfl ?_
                                obtain ⟨g, h⟩ := h
                                refine w_lcmp rfl (by decide) (pc' := 131) rfl g ?_
                                refine w_if_eq rfl (by decide) (pc' := 134) rfl h.1 (fun c16 => ?_) (fun c16 => ?_)
                                · have h := h.2.1 c16
                                  refine zW.go 1 167 [(2, 261), (1, x1), (9, 0)] [(0, 1)] _ rfl ?_
                                  exact w_retz rfl rfl (by decide) h
                                · have h := h.2.2 c16
                                  refine zW.go 2 138 [(2, 261), (1, x1), (9, 0)] [(1, 108243466679400), (1, x1)] _ rfl ?_
                                  obtain ⟨g, h⟩ := h
                                  refine w_lcmp rfl (by decide) (pc' := 139) rfl g ?_
                                  refine w_if_eq rfl (by decide) (pc' := 142) rfl h.1 (fun c17 => ?_) (fun c17 => ?_)
                                  · have h := h.2.1 c17
                                    refine zW.go 1 167 [(2, 261), (1, x1), (9, 0)] [(0, 1)] _ rfl ?_
                                    exact w_retz rfl rfl (by decide) h
                                  · have h := h.2.2 c17
                                    refine zW.go 2 146 [(2, 261), (1, x1), (9, 0)] [(1, 126879297138276), (1, x1)] _ rfl ?_
                                    obtain ⟨g, h⟩ := h
                                    refine w_lcmp rfl (by decide) (pc' := 147) rfl g ?_
                                    refine w_if_eq rfl (by decide) (pc' := 150) rfl h.1 (fun c18 => ?_) (fun c18 => ?_)
                                    · have h := h.2.1 c18
                                      refine zW.go 1 167 [(2, 261), (1, x1), (9, 0)] [(0, 1)] _ rfl ?_
                                      exact w_retz rfl rfl (by decide) h
                                    · have h := h.2.2 c18
                                      refine zW.go 2 154 [(2, 261), (1, x1), (9, 0)] [(1, 431416239732), (1, x1)] _ rfl ?_
                                      obtain ⟨g, h⟩ := h
                                      refine w_lcmp rfl (by decide) (pc' := 155) rfl g ?_
                                      refine w_if_eq rfl (by decide) (pc' := 158) rfl h.1 (fun c19 => ?_) (fun c19 => ?_)
                                      · have h := h.2.1 c19
                                        refine zW.go 1 167 [(2, 261), (1, x1), (9, 0)] [(0, 1)] _ rfl ?_
                                        exact w_retz rfl rfl (by decide) h
                                      · have h := h.2.2 c19
                                        refine zW.go 2 162 [(2, 261), (1, x1), (9, 0)] [(1, 431197873267), (1, x1)] _ rfl ?_
                                        obtain ⟨g, h⟩ := h
                                        refine w_lcmp rfl (by decide) (pc' := 163) rfl g ?_
                                        refine w_if_ne rfl (by decide) (pc' := 166) rfl h.1 (fun c20 => ?_) (fun c20 => ?_)
                                        · have h := h.2.1 c20
                                          refine zW.go 2 172 [(2, 261), (1, x1), (9, 0)] [(1, 26982), (1, x1)] _ rfl ?_
                                          obtain ⟨g, h⟩ := h
                                          refine w_lcmp rfl (by decide) (pc' := 173) rfl g ?_
                                          refine w_if_eq rfl (by decide) (pc' := 176) rfl h.1 (fun c21 => ?_) (fun c21 => ?_)
                                          · have h := h.2.1 c21
                                            refine zW.go 1 209 [(2, 261), (1, x1), (9, 0)] [(0, 1)] _ rfl ?_
                                            exact w_retz rfl rfl (by decide) h
                                          · have h := h.2.2 c21
                                            refine zW.go 2 180 [(2, 261), (1, x1), (9, 0)] [(1, 28530), (1, x1)] _ rfl ?_
                                            obtain ⟨g, h⟩ := h
                                            refine w_lcmp rfl (by decide) (pc' := 181) rfl g ?_
                                            refine w_if_eq rfl (by decide) (pc' := 184) rfl h.1 (fun c22 => ?_) (fun c22 => ?_)
                                            · have h := h.2.1 c22
                                              refine zW.go 1 209 [(2, 261), (1, x1), (9, 0)] [(0, 1)] _ rfl ?_
                                              exact w_retz rfl rfl (by decide) h
                                            · have h := h.2.2 c22
                                              refine zW.go 2 188 [(2, 261), (1, x1), (9, 0)] [(1, 6385252), (1, x1)] _ rfl ?_
                                              obtain ⟨g, h⟩ := h
                                              refine w_lcmp rfl (by decide) (pc' := 189) rfl g ?_
                                              refine w_if_eq rfl (by decide) (pc' := 192) rfl h.1 (fun c23 => ?_) (fun c23 => ?_)
                                              · have h := h.2.1 c23
                                                refine zW.go 1 209 [(2, 261), (1, x1), (9, 0)] [(0, 1)] _ rfl ?_
                                                exact w_retz rfl rfl (by decide) h
                                              · have h := h.2.2 c23
                                                refine zW.go 2 196 [(2, 261), (1, x1), (9, 0)] [(1, 7237492), (1, x1)] _ rfl ?_
                                                obtain ⟨g, h⟩ := h
                                                refine w_lcmp rfl (by decide) (pc' := 197) rfl g ?_
                                                refine w_if_eq rfl (by decide) (pc' := 200) rfl h.1 (fun c24 => ?_) (fun c24 => ?_)
                                                · have h := h.2.1 c24
                                                  refine zW.go 1 209 [(2, 261), (1, x1), (9, 0)] [(0, 1)] _ rfl ?_
                                                  exact w_retz rfl rfl (by decide) h
                                                · have h := h.2.2 c24
                                                  refine zW.go 2 204 [(2, 261), (1, x1), (9, 0)] [(1, 6384748), (1, x1)] _ rfl ?_
                                                  obtain ⟨g, h⟩ := h
                                                  refine w_lcmp rfl (by decide) (pc' := 205) rfl g ?_
                                                  refine w_if_ne rfl (by decide) (pc' := 208) rfl h.1 (fun c25 => ?_) (fun c25 => ?_)
                                                  · have h := h.2.1 c25
                                                    refine zW.go 2 214 [(2, 261), (1, x1), (9, 0)] [(1, 7170414), (1, x1)] _ rfl ?_
                                                    obtain ⟨g, h⟩ := h
                                                    refine w_lcmp rfl (by decide) (pc' := 215) rfl g ?_
                                                    refine w_if_eq rfl (by decide) (pc' := 218) rfl h.1 (fun c26 => ?_) (fun c26 => ?_)
                                                    · have h := h.2.1 c26
                                                      refine zW.go 1 227 [(2, 261), (1, x1), (9, 0)] [(0, 1)] _ rfl ?_
                                                      exact w_retz rfl rfl (by decide) h
                                                    · have h := h.2.2 c26
                                                      refine zW.go 2 222 [(2, 261), (1, x1), (9, 0)] [(1, 7168376), (1, x1)] _ rfl ?_
                                                      obtain ⟨g, h⟩ := h
                                                      refine w_lcmp rfl (by decide) (pc' := 223) rfl g ?_
                                                      refine w_if_ne rfl (by decide) (pc' := 226) rfl h.1 (fun c27 => ?_) (fun c27 => ?_)
                                                      · have h := h.2.1 c27
                                                        refine zW.go 1 229 [(2, 261), (1, x1), (9, 0)] [(0, 0)] _ rfl ?_
                                                        exact w_retz rfl rfl (by decide) h
                                                      · have h := h.2.2 c27
                                                        refine zW.go 1 227 [(2, 261), (1, x1), (9, 0)] [(0, 1)] _ rfl ?_
                                                        exact w_retz rfl rfl (by decide) h
                                                  · have h := h.2.2 c25
                                                    refine zW.go 1 209 [(2, 261), (1, x1), (9, 0)] [(0, 1)] _ rfl ?_
                                                    exact w_retz rfl rfl (by decide) h
                                        · have h := h.2.2 c20
                                          refine zW.go 1 167 [(2, 261), (1, x1), (9, 0)] [(0, 1)] _ rfl ?_
                                          exact w_retz rfl rfl (by decide) h
                              · have h := h.2.2 c15
                                refine zW.go 1 125 [(2, 261), (1, x1), (9, 0)] [(0, 1)] _ rfl ?_
                                exact w_retz rfl rfl (by decide) h
                    · have h := h.2.2 c10
                      refine zW.go 1 83 [(2, 261), (1, x1), (9, 0)] [(0, 1)] _ rfl ?_
                      exact w_retz rfl rfl (by decide) h
          · have h := h.2.2 c5
            refine zW.go 1 41 [(2, 261), (1, x1), (9, 0)] [(0, 1)] _ rfl ?_
            exact w_retz rfl rfl (by decide) h
set_option maxRecDepth 4000 in
theorem s_m_manyOf {X : zX} {d : Nat} {rf mem : zF} {Q : Int → zF → Prop} (hR : zall rf zRK = true) {x1 : Int} {x2 : Int} (h : (inI x2) ∧ ((¬ x2 = 0 → (inI x2) ∧ ((¬ x2 = 1 → (0 ≤ x1 ∧ x1 < 2) ∧ (Q (mem 274 (x1).toNat) mem)) ∧ (x2 = 1 → (0 ≤ x1 ∧ x1 < 2) ∧ (Q (mem 271 (x1).toNat) mem)))) ∧ (x2 = 0 → (0 ≤ x1 ∧ x1 < 2) ∧ (Q (mem 266 (x1).toNat) mem)))) : Ci X d 207 [(2, 261), (0, x1), (0, x2)] rf mem Q := by
  show zW X d 207 0 [(2, 261), (0, x1), (0, x2)] [] (zty, rf, mem) (qi rf Q)
  refine zW.go 1 1 [(2, 261), (0, x1), (0, x2)] [(0, x2)] _ rfl ?_
  refine w_if_ne rfl (by decide) (pc' := 4) rfl h.1 (fun c1 => ?_) (fun c1 => ?_)
  · have h := h.2.1 c1
    refine zW.go 2 15 [(2, 261), (0, x1), (0, x2)] [(0, 1), (0, x2)] _ rfl ?_
    refine w_ic_ne rfl (by decide) (pc' := 18) rfl ⟨h.1, by decide⟩ (fun c2 => ?_) (fun c2 => ?_)
    · have h := h.2.1 c2
      refine zW.go 1 28 [(2, 261), (0, x1), (0, x2)] [(2, 261)] _ rfl ?_
      refine w_getL (q := 261) (v := 274) rfl (by decide) (pc' := 31) rfl ⟨by decide, rfl⟩ rfl rfl (zall_at hR (by decide)) ?_
      refine zW.go 1 32 [(2, 261), (0, x1), (0, x2)] [(0, x1), (2, 274)] _ rfl ?_
      obtain ⟨g, h⟩ := h
      refine w_iald (q := 274) rfl (by decide) (pc' := 33) rfl ⟨by decide, rfl⟩ rfl g rfl ?_
      exact w_reti rfl rfl h
    · have h := h.2.2 c2
      refine zW.go 1 19 [(2, 261), (0, x1), (0, x2)] [(2, 261)] _ rfl ?_
      refine w_getL (q := 261) (v := 271) rfl (by decide) (pc' := 22) rfl ⟨by decide, rfl⟩ rfl rfl (zall_at hR (by decide)) ?_
      refine zW.go 1 23 [(2, 261), (0, x1), (0, x2)] [(0, x1), (2, 271)] _ rfl ?_
      obtain ⟨g, h⟩ := h
      refine w_iald (q := 271) rfl (by decide) (pc' := 24) rfl ⟨by decide, rfl⟩ rfl g rfl ?_
      refine zW.go 1 33 [(2, 261), (0, x1), (0, x2)] [(0, (mem 271 (x1).toNat))] _ rfl ?_
      exact w_reti rfl rfl h
  · have h := h.2.2 c1
    refine zW.go 1 5 [(2, 261), (0, x1), (0, x2)] [(2, 261)] _ rfl ?_
    refine w_getL (q := 261) (v := 266) rfl (by decide) (pc' := 8) rfl ⟨by decide, rfl⟩ rfl rfl (zall_at hR (by decide)) ?_
    refine zW.go 1 9 [(2, 261), (0, x1), (0, x2)] [(0, x1), (2, 266)] _ rfl ?_
    obtain ⟨g, h⟩ := h
    refine w_iald (q := 266) rfl (by decide) (pc' := 10) rfl ⟨by decide, rfl⟩ rfl g rfl ?_
    refine zW.go 1 33 [(2, 261), (0, x1), (0, x2)] [(0, (mem 266 (x1).toNat))] _ rfl ?_
    exact w_reti rfl rfl h
set_option maxRecDepth 4000 in
theorem s_m_nameOf {X : zX} {d : Nat} {rf mem : zF} {Q : Int → zF → Prop} (hR : zall rf zRK = true) {x1 : Int} {x2 : Int} {x3 : Int} (h : (inI x2) ∧ ((¬ x2 = 0 → (inI x2) ∧ ((¬ x2 = 1 → (0 ≤ ((6 * x1) + x3) ∧ ((6 * x1) + x3) < 12) ∧ (Q (mem 285 (((6 * x1) + x3)).toNat) mem)) ∧ (x2 = 1 → (0 ≤ ((6 * x1) + x3) ∧ ((6 * x1) + x3) < 12) ∧ (Q (mem 284 (((6 * x1) + x3)).toNat) mem)))) ∧ (x2 = 0 → (0 ≤ ((6 * x1) + x3) ∧ ((6 * x1) + x3) < 12) ∧ (Q (mem 283 (((6 * x1) + x3)).toNat) mem)))) : Cl X d 208 [(2, 261), (0, x1), (0, x2), (0, x3)] rf mem Q := by
  show zW X d 208 0 [(2, 261), (0, x1), (0, x2), (0, x3)] [] (zty, rf, mem) (ql rf Q)
  refine zW.go 1 1 [(2, 261), (0, x1), (0, x2), (0, x3)] [(0, x2)] _ rfl ?_
  refine w_if_ne rfl (by decide) (pc' := 4) rfl h.1 (fun c1 => ?_) (fun c1 => ?_)
  · have h := h.2.1 c1
    refine zW.go 2 20 [(2, 261), (0, x1), (0, x2), (0, x3)] [(0, 1), (0, x2)] _ rfl ?_
    refine w_ic_ne rfl (by decide) (pc' := 23) rfl ⟨h.1, by decide⟩ (fun c2 => ?_) (fun c2 => ?_)
    · have h := h.2.1 c2
      refine zW.go 1 38 [(2, 261), (0, x1), (0, x2), (0, x3)] [(2, 261)] _ rfl ?_
      refine w_getL (q := 261) (v := 285) rfl (by decide) (pc' := 41) rfl ⟨by decide, rfl⟩ rfl rfl (zall_at hR (by decide)) ?_
      refine zW.go 5 47 [(2, 261), (0, x1), (0, x2), (0, x3)] [(0, ((6 * x1) + x3)), (2, 285)] _ rfl ?_
      obtain ⟨g, h⟩ := h
      refine w_lald (q := 285) rfl (by decide) (pc' := 48) rfl ⟨by decide, rfl⟩ rfl g rfl ?_
      exact w_retl rfl rfl h
    · have h := h.2.2 c2
      refine zW.go 1 24 [(2, 261), (0, x1), (0, x2), (0, x3)] [(2, 261)] _ rfl ?_
      refine w_getL (q := 261) (v := 284) rfl (by decide) (pc' := 27) rfl ⟨by decide, rfl⟩ rfl rfl (zall_at hR (by decide)) ?_
      refine zW.go 5 33 [(2, 261), (0, x1), (0, x2), (0, x3)] [(0, ((6 * x1) + x3)), (2, 284)] _ rfl ?_
      obtain ⟨g, h⟩ := h
      refine w_lald (q := 284) rfl (by decide) (pc' := 34) rfl ⟨by decide, rfl⟩ rfl g rfl ?_
      refine zW.go 1 48 [(2, 261), (0, x1), (0, x2), (0, x3)] [(1, (mem 284 (((6 * x1) + x3)).toNat))] _ rfl ?_
      exact w_retl rfl rfl h
  · have h := h.2.2 c1
    refine zW.go 1 5 [(2, 261), (0, x1), (0, x2), (0, x3)] [(2, 261)] _ rfl ?_
    refine w_getL (q := 261) (v := 283) rfl (by decide) (pc' := 8) rfl ⟨by decide, rfl⟩ rfl rfl (zall_at hR (by decide)) ?_
    refine zW.go 5 14 [(2, 261), (0, x1), (0, x2), (0, x3)] [(0, ((6 * x1) + x3)), (2, 283)] _ rfl ?_
    obtain ⟨g, h⟩ := h
    refine w_lald (q := 283) rfl (by decide) (pc' := 15) rfl ⟨by decide, rfl⟩ rfl g rfl ?_
    refine zW.go 1 48 [(2, 261), (0, x1), (0, x2), (0, x3)] [(1, (mem 283 (((6 * x1) + x3)).toNat))] _ rfl ?_
    exact w_retl rfl rfl h
def L_m_named_3 (X : zX) (d : Nat) (rf : zF) (Q : Int → zF → Prop) (mem : zF) (x1 : Int) (x2 : Int) (x4 : Int) : Prop := zW X (d + 1) 209 3 [(2, 261), (0, x1), (1, x2), (9, 0), (0, x4)] [] (zty, rf, mem) (qi rf Q)
set_option maxRecDepth 4000 in
theorem s_m_named_3 {X : zX} {d : Nat} {rf mem : zF} {Q : Int → zF → Prop} (hR : zall rf zRK = true) {x1 : Int} {x2 : Int} {x4 : Int} (h : Ci X d 207 [(2, 261), (0, (mem 261 38)), (0, x1)] rf mem (fun r1 mem2 => (inI x4 ∧ inI r1) ∧ ((r1 ≤ x4 → Q (-1) mem2) ∧ (¬ r1 ≤ x4 → Cl X d 208 [(2, 261), (0, (mem2 261 38)), (0, x1), (0, x4)] rf mem2 (fun r4 mem5 => (inL r4 ∧ inL x2) ∧ ((inI (if r4 < x2 then -1 else if r4 = x2 then 0 else 1)) ∧ ((¬ (if r4 < x2 then -1 else if r4 = x2 then 0 else 1) = 0 → L_m_named_3 X d rf Q mem5 x1 x2 (x4 + 1)) ∧ ((if r4 < x2 then -1 else if r4 = x2 then 0 else 1) = 0 → Q x4 mem5)))))))) : L_m_named_3 X d rf Q mem x1 x2 x4 := by
  refine zW.go 3 7 [(2, 261), (0, x1), (1, x2), (9, 0), (0, x4)] [(2, 261), (2, 261), (0, x4)] _ rfl ?_
  refine w_getI (q := 261) rfl (by decide) (pc' := 10) rfl ⟨by decide, rfl⟩ rfl (by decide) ?_
  refine zW.go 1 11 [(2, 261), (0, x1), (1, x2), (9, 0), (0, x4)] [(0, x1), (0, (mem 261 38)), (2, 261), (0, x4)] _ rfl ?_
  refine w_calli (as := [(2, 261), (0, (mem 261 38)), (0, x1)]) [(0, x4)] 14 rfl rfl rfl rfl (Nat.le_of_ble_eq_true rfl) (Nat.le_of_ble_eq_true rfl) (Nat.le_of_ble_eq_true rfl) (Or.inr rfl) (Ci.imp h (fun r1 mem2 h => ?_))
  refine w_ic_ge rfl (by decide) (pc' := 17) rfl h.1 (fun c3 => ?_) (fun c3 => ?_)
  · have h := h.2.1 c3
    refine zW.go 1 43 [(2, 261), (0, x1), (1, x2), (9, 0), (0, x4)] [(0, (-1))] _ rfl ?_
    exact w_reti rfl rfl h
  · have h := h.2.2 c3
    refine zW.go 2 19 [(2, 261), (0, x1), (1, x2), (9, 0), (0, x4)] [(2, 261), (2, 261)] _ rfl ?_
    refine w_getI (q := 261) rfl (by decide) (pc' := 22) rfl ⟨by decide, rfl⟩ rfl (by decide) ?_
    refine zW.go 2 25 [(2, 261), (0, x1), (1, x2), (9, 0), (0, x4)] [(0, x4), (0, x1), (0, (mem2 261 38)), (2, 261)] _ rfl ?_
    refine w_calll (as := [(2, 261), (0, (mem2 261 38)), (0, x1), (0, x4)]) [] 28 rfl rfl rfl rfl (Nat.le_of_ble_eq_true rfl) (Nat.le_of_ble_eq_true rfl) (Nat.le_of_ble_eq_true rfl) (Or.inr rfl) (Cl.imp h (fun r4 mem5 h => ?_))
    refine zW.go 1 29 [(2, 261), (0, x1), (1, x2), (9, 0), (0, x4)] [(1, x2), (1, r4)] _ rfl ?_
    obtain ⟨g, h⟩ := h
    refine w_lcmp rfl (by decide) (pc' := 30) rfl g ?_
    refine w_if_ne rfl (by decide) (pc' := 33) rfl h.1 (fun c6 => ?_) (fun c6 => ?_)
    · have h := h.2.1 c6
      refine zW.go 2 3 [(2, 261), (0, x1), (1, x2), (9, 0), (0, (x4 + 1))] [] _ rfl ?_
      exact h
    · have h := h.2.2 c6
      refine zW.go 1 35 [(2, 261), (0, x1), (1, x2), (9, 0), (0, x4)] [(0, x4)] _ rfl ?_
      exact w_reti rfl rfl h
set_option maxRecDepth 4000 in
theorem s_m_named {X : zX} {d : Nat} {rf mem : zF} {Q : Int → zF → Prop} (hR : zall rf zRK = true) {x1 : Int} {x2 : Int} (h : L_m_named_3 X d rf Q mem x1 x2 0) : Ci X (d + 1) 209 [(2, 261), (0, x1), (1, x2)] rf mem Q := by
  show zW X (d + 1) 209 0 [(2, 261), (0, x1), (1, x2), (9, 0), (9, 0)] [] (zty, rf, mem) (qi rf Q)
  refine zW.go 2 3 [(2, 261), (0, x1), (1, x2), (9, 0), (0, 0)] [] _ rfl ?_
  exact h
def L_m_number_30 (X : zX) (d : Nat) (rf : zF) (Q : Int → zF → Prop) (mem : zF) (x1 : Int) (x2 : Int) : Prop := ∀ z3 : zV, zW X (d + 1) 210 30 [(2, 261), (0, x1), (0, x2), z3] [] (zty, rf, mem) (qi rf Q)
def L_m_number_58 (X : zX) (d : Nat) (rf : zF) (Q : Int → zF → Prop) (mem : zF) : Prop := ∀ z1 : zV, ∀ z2 : zV, z2.1 ≠ 1 → ∀ z3 : zV, zW X (d + 1) 210 58 [(2, 261), z1, z2, z3] [] (zty, rf, mem) (qi rf Q)
set_option maxRecDepth 4000 in
theorem s_m_number_30 {X : zX} {d : Nat} {rf mem : zF} {Q : Int → zF → Prop} (hR : zall rf zRK = true) {x1 : Int} {x2 : Int} (h : (inI (mem 261 8)) ∧ ((¬ (mem 261 8) = 0 → L_m_number_58 X d rf Q mem) ∧ ((mem 261 8) = 0 → Ci X d 194 [(0, (mem 261 6)), (0, x1), (0, x2)] rf mem (fun r6 mem7 => (inI r6) ∧ ((¬ r6 = 0 → L_m_number_58 X d rf Q mem7) ∧ (r6 = 0 → Cv X d 198 [(2, 261), (0, 4), (0, (mem7 261 4))] rf mem7 (fun mem9 => L_m_number_58 X d rf Q mem9))))))) : L_m_number_30 X d rf Q mem x1 x2 := by
  intro z3
  refine zW.go 1 31 [(2, 261), (0, x1), (0, x2), z3] [(2, 261)] _ rfl ?_
  refine w_getI (q := 261) rfl (by decide) (pc' := 34) rfl ⟨by decide, rfl⟩ rfl (by decide) ?_
  refine w_if_ne rfl (by decide) (pc' := 37) rfl h.1 (fun c5 => ?_) (fun c5 => ?_)
  · have h := h.2.1 c5
    exact h (0, x1) (0, x2) (by show (0 : Nat) ≠ 1; decide) z3
  · have h := h.2.2 c5
    refine zW.go 1 38 [(2, 261), (0, x1), (0, x2), z3] [(2, 261)] _ rfl ?_
    refine w_getI (q := 261) rfl (by decide) (pc' := 41) rfl ⟨by decide, rfl⟩ rfl (by decide) ?_
    refine zW.go 2 43 [(2, 261), (0, x1), (0, x2), z3] [(0, x2), (0, x1), (0, (mem 261 6))] _ rfl ?_
    refine w_calli (as := [(0, (mem 261 6)), (0, x1), (0, x2)]) [] 46 rfl rfl rfl rfl (Nat.le_of_ble_eq_true rfl) (Nat.le_of_ble_eq_true rfl) (Nat.le_of_ble_eq_true rfl) (Or.inl rfl) (Ci.imp h (fun r6 mem7 h => ?_))
    refine w_if_ne rfl (by decide) (pc' := 49) rfl h.1 (fun c8 => ?_) (fun c8 => ?_)
    · have h := h.2.1 c8
      exact h (0, x1) (0, x2) (by show (0 : Nat) ≠ 1; decide) z3
    · have h := h.2.2 c8
      refine zW.go 3 52 [(2, 261), (0, x1), (0, x2), z3] [(2, 261), (0, 4), (2, 261)] _ rfl ?_
      refine w_getI (q := 261) rfl (by decide) (pc' := 55) rfl ⟨by decide, rfl⟩ rfl (by decide) ?_
      refine w_callv (as := [(2, 261), (0, 4), (0, (mem7 261 4))]) [] 58 rfl rfl rfl rfl (Nat.le_of_ble_eq_true rfl) (Nat.le_of_ble_eq_true rfl) (Nat.le_of_ble_eq_true rfl) (Or.inr rfl) (Cv.imp h (fun mem9 h => ?_))
      exact h (0, x1) (0, x2) (by show (0 : Nat) ≠ 1; decide) z3
set_option maxRecDepth 4000 in
theorem s_m_number_58 {X : zX} {d : Nat} {rf mem : zF} {Q : Int → zF → Prop} (hR : zall rf zRK = true) (h : (inI (mem 261 8)) ∧ ((¬ (mem 261 8) = 0 → Q (mem 261 6) mem) ∧ ((mem 261 8) = 0 → Cv X d 202 [(2, 261)] rf mem (fun mem11 => Q (mem 261 6) mem11)))) : L_m_number_58 X d rf Q mem := by
  intro z1 z2 hz2 z3
  refine zW.go 1 59 [(2, 261), z1, z2, z3] [(2, 261)] _ rfl ?_
  refine w_getI (q := 261) rfl (by decide) (pc' := 62) rfl ⟨by decide, rfl⟩ rfl (by decide) ?_
  refine zW.step 63 [(2, 261), z1, z2, (0, (mem 261 6))] [] _ rfl (by decide) (by decide) (by show some (_, zst1 [(2, 261), z1, z2, z3] 3 _, _, _) = _; rw [zst1_z (ls := [(2, 261), z1, z2, z3]) (i := 3) hz2]; rfl) ?_
  refine zW.go 1 64 [(2, 261), z1, z2, (0, (mem 261 6))] [(2, 261)] _ rfl ?_
  refine w_getI (q := 261) rfl (by decide) (pc' := 67) rfl ⟨by decide, rfl⟩ rfl (by decide) ?_
  refine w_if_ne rfl (by decide) (pc' := 70) rfl h.1 (fun c10 => ?_) (fun c10 => ?_)
  · have h := h.2.1 c10
    refine zW.go 1 75 [(2, 261), z1, z2, (0, (mem 261 6))] [(0, (mem 261 6))] _ rfl ?_
    exact w_reti rfl rfl h
  · have h := h.2.2 c10
    refine zW.go 1 71 [(2, 261), z1, z2, (0, (mem 261 6))] [(2, 261)] _ rfl ?_
    refine w_callv (as := [(2, 261)]) [] 74 rfl rfl rfl rfl (Nat.le_of_ble_eq_true rfl) (Nat.le_of_ble_eq_true rfl) (Nat.le_of_ble_eq_true rfl) (Or.inr rfl) (Cv.imp h (fun mem11 h => ?_))
    refine zW.go 1 75 [(2, 261), z1, z2, (0, (mem 261 6))] [(0, (mem 261 6))] _ rfl ?_
    exact w_reti rfl rfl h
set_option maxRecDepth 4000 in
theorem s_m_number {X : zX} {d : Nat} {rf mem : zF} {Q : Int → zF → Prop} (hR : zall rf zRK = true) {x1 : Int} {x2 : Int} (h : Cv X d 201 [(2, 261)] rf mem (fun mem1 => (inI (mem1 261 8)) ∧ (((mem1 261 8) ≤ 0 → (inI (mem1 261 3)) ∧ (((mem1 261 3) = 2 → L_m_number_30 X d rf Q mem1 x1 x2) ∧ (¬ (mem1 261 3) = 2 → Cv X d 198 [(2, 261), (0, 1), (0, (mem1 261 4))] rf mem1 (fun mem4 => L_m_number_30 X d rf Q mem4 x1 x2)))) ∧ (¬ (mem1 261 8) ≤ 0 → Q 0 mem1)))) : Ci X (d + 1) 210 [(2, 261), (0, x1), (0, x2)] rf mem Q := by
  show zW X (d + 1) 210 0 [(2, 261), (0, x1), (0, x2), (9, 0)] [] (zty, rf, mem) (qi rf Q)
  refine zW.go 1 1 [(2, 261), (0, x1), (0, x2), (9, 0)] [(2, 261)] _ rfl ?_
  refine w_callv (as := [(2, 261)]) [] 4 rfl rfl rfl rfl (Nat.le_of_ble_eq_true rfl) (Nat.le_of_ble_eq_true rfl) (Nat.le_of_ble_eq_true rfl) (Or.inr rfl) (Cv.imp h (fun mem1 h => ?_))
  refine zW.go 1 5 [(2, 261), (0, x1), (0, x2), (9, 0)] [(2, 261)] _ rfl ?_
  refine w_getI (q := 261) rfl (by decide) (pc' := 8) rfl ⟨by decide, rfl⟩ rfl (by decide) ?_
  refine w_if_le rfl (by decide) (pc' := 11) rfl h.1 (fun c2 => ?_) (fun c2 => ?_)
  · have h := h.2.1 c2
    refine zW.go 1 14 [(2, 261), (0, x1), (0, x2), (9, 0)] [(2, 261)] _ rfl ?_
    refine w_getI (q := 261) rfl (by decide) (pc' := 17) rfl ⟨by decide, rfl⟩ rfl (by decide) ?_
    refine zW.go 1 18 [(2, 261), (0, x1), (0, x2), (9, 0)] [(0, 2), (0, (mem1 261 3))] _ rfl ?_
    refine w_ic_eq rfl (by decide) (pc' := 21) rfl ⟨h.1, by decide⟩ (fun c3 => ?_) (fun c3 => ?_)
    · have h := h.2.1 c3
      exact h (9, 0)
    · have h := h.2.2 c3
      refine zW.go 3 24 [(2, 261), (0, x1), (0, x2), (9, 0)] [(2, 261), (0, 1), (2, 261)] _ rfl ?_
      refine w_getI (q := 261) rfl (by decide) (pc' := 27) rfl ⟨by decide, rfl⟩ rfl (by decide) ?_
      refine w_callv (as := [(2, 261), (0, 1), (0, (mem1 261 4))]) [] 30 rfl rfl rfl rfl (Nat.le_of_ble_eq_true rfl) (Nat.le_of_ble_eq_true rfl) (Nat.le_of_ble_eq_true rfl) (Or.inr rfl) (Cv.imp h (fun mem4 h => ?_))
      exact h (9, 0)
  · have h := h.2.2 c2
    refine zW.go 1 12 [(2, 261), (0, x1), (0, x2), (9, 0)] [(0, 0)] _ rfl ?_
    exact w_reti rfl rfl h
set_option maxRecDepth 4000 in
theorem s_m_add {X : zX} {d : Nat} {rf mem : zF} {Q : zF → Prop} (hR : zall rf zRK = true) {x1 : Int} {x2 : Int} (h : (0 ≤ ((1600 * (mem 261 38)) + (mem 261 37)) ∧ ((1600 * (mem 261 38)) + (mem 261 37)) < 3200) ∧ ((0 ≤ ((1600 * (mem 261 38)) + (mem 261 37)) ∧ ((1600 * (mem 261 38)) + (mem 261 37)) < 3200) ∧ (Q (zup (zup (zup mem 281 (((1600 * (mem 261 38)) + (mem 261 37))).toNat x1) 282 (((1600 * (mem 261 38)) + (mem 261 37))).toNat x2) 261 37 ((mem 261 37) + 1))))) : Cv X d 211 [(2, 261), (0, x1), (0, x2)] rf mem Q := by
  show zW X d 211 0 [(2, 261), (0, x1), (0, x2)] [] (zty, rf, mem) (qv rf Q)
  refine zW.go 1 1 [(2, 261), (0, x1), (0, x2)] [(2, 261)] _ rfl ?_
  refine w_getL (q := 261) (v := 281) rfl (by decide) (pc' := 4) rfl ⟨by decide, rfl⟩ rfl rfl (zall_at hR (by decide)) ?_
  refine zW.go 2 8 [(2, 261), (0, x1), (0, x2)] [(2, 261), (0, 1600), (2, 281)] _ rfl ?_
  refine w_getI (q := 261) rfl (by decide) (pc' := 11) rfl ⟨by decide, rfl⟩ rfl (by decide) ?_
  refine zW.go 2 13 [(2, 261), (0, x1), (0, x2)] [(2, 261), (0, (1600 * (mem 261 38))), (2, 281)] _ rfl ?_
  refine w_getI (q := 261) rfl (by decide) (pc' := 16) rfl ⟨by decide, rfl⟩ rfl (by decide) ?_
  refine zW.go 2 18 [(2, 261), (0, x1), (0, x2)] [(0, x1), (0, ((1600 * (mem 261 38)) + (mem 261 37))), (2, 281)] _ rfl ?_
  obtain ⟨g, h⟩ := h
  refine w_iast (q := 281) rfl (by decide) (pc' := 19) rfl ⟨by decide, rfl⟩ rfl g rfl ?_
  refine zW.go 1 20 [(2, 261), (0, x1), (0, x2)] [(2, 261)] _ rfl ?_
  refine w_getL (q := 261) (v := 282) rfl (by decide) (pc' := 23) rfl ⟨by decide, rfl⟩ rfl rfl (zall_at hR (by decide)) ?_
  refine zW.go 2 27 [(2, 261), (0, x1), (0, x2)] [(2, 261), (0, 1600), (2, 282)] _ rfl ?_
  refine w_getI (q := 261) rfl (by decide) (pc' := 30) rfl ⟨by decide, rfl⟩ rfl (by decide) ?_
  refine zW.go 2 32 [(2, 261), (0, x1), (0, x2)] [(2, 261), (0, (1600 * (mem 261 38))), (2, 282)] _ rfl ?_
  refine w_getI (q := 261) rfl (by decide) (pc' := 35) rfl ⟨by decide, rfl⟩ rfl (by decide) ?_
  refine zW.go 2 37 [(2, 261), (0, x1), (0, x2)] [(0, x2), (0, ((1600 * (mem 261 38)) + (mem 261 37))), (2, 282)] _ rfl ?_
  obtain ⟨g, h⟩ := h
  refine w_iast (q := 282) rfl (by decide) (pc' := 38) rfl ⟨by decide, rfl⟩ rfl g rfl ?_
  refine zW.go 2 40 [(2, 261), (0, x1), (0, x2)] [(2, 261), (2, 261)] _ rfl ?_
  refine w_getI (q := 261) rfl (by decide) (pc' := 43) rfl ⟨by decide, rfl⟩ rfl (by decide) ?_
  refine zW.go 2 45 [(2, 261), (0, x1), (0, x2)] [(0, ((mem 261 37) + 1)), (2, 261)] _ rfl ?_
  refine w_putI (q := 261) rfl (by decide) (pc' := 48) rfl ⟨by decide, rfl⟩ rfl (by decide) ?_
  exact w_retv rfl rfl h
set_option maxRecDepth 4000 in
theorem s_m_rank {X : zX} {d : Nat} {rf mem : zF} {Q : Int → zF → Prop} (hR : zall rf zRK = true) {x0 : Int} (h : (inI x0) ∧ ((¬ x0 = 42 → (inI x0) ∧ ((¬ x0 = 41 → (inI x0) ∧ ((¬ x0 = 43 → (inI x0) ∧ ((x0 = 38 → Q 4 mem) ∧ (¬ x0 = 38 → (inI x0) ∧ ((x0 = 39 → Q 4 mem) ∧ (¬ x0 = 39 → (inI x0) ∧ ((¬ x0 = 40 → (inI x0) ∧ ((x0 = 31 → Q 5 mem) ∧ (¬ x0 = 31 → (inI x0) ∧ ((¬ x0 = 32 → Q 6 mem) ∧ (x0 = 32 → Q 5 mem))))) ∧ (x0 = 40 → Q 4 mem))))))) ∧ (x0 = 43 → Q 3 mem))) ∧ (x0 = 41 → Q 2 mem))) ∧ (x0 = 42 → Q 1 mem))) : Ci X d 212 [(0, x0)] rf mem Q := by
  show zW X d 212 0 [(0, x0)] [] (zty, rf, mem) (qi rf Q)
  refine zW.go 2 3 [(0, x0)] [(0, 42), (0, x0)] _ rfl ?_
  refine w_ic_ne rfl (by decide) (pc' := 6) rfl ⟨h.1, by decide⟩ (fun c1 => ?_) (fun c1 => ?_)
  · have h := h.2.1 c1
    refine zW.go 2 13 [(0, x0)] [(0, 41), (0, x0)] _ rfl ?_
    refine w_ic_ne rfl (by decide) (pc' := 16) rfl ⟨h.1, by decide⟩ (fun c2 => ?_) (fun c2 => ?_)
    · have h := h.2.1 c2
      refine zW.go 2 23 [(0, x0)] [(0, 43), (0, x0)] _ rfl ?_
      refine w_ic_ne rfl (by decide) (pc' := 26) rfl ⟨h.1, by decide⟩ (fun c3 => ?_) (fun c3 => ?_)
      · have h := h.2.1 c3
        refine zW.go 2 33 [(0, x0)] [(0, 38), (0, x0)] _ rfl ?_
        refine w_ic_eq rfl (by decide) (pc' := 36) rfl ⟨h.1, by decide⟩ (fun c4 => ?_) (fun c4 => ?_)
        · have h := h.2.1 c4
          refine zW.go 2 70 [(0, x0)] [(0, 4)] _ rfl ?_
          exact w_reti rfl rfl h
        · have h := h.2.2 c4
          refine zW.go 2 39 [(0, x0)] [(0, 39), (0, x0)] _ rfl ?_
          refine w_ic_eq rfl (by decide) (pc' := 42) rfl ⟨h.1, by decide⟩ (fun c5 => ?_) (fun c5 => ?_)
          · have h := h.2.1 c5
            refine zW.go 2 70 [(0, x0)] [(0, 4)] _ rfl ?_
            exact w_reti rfl rfl h
          · have h := h.2.2 c5
            refine zW.go 2 45 [(0, x0)] [(0, 40), (0, x0)] _ rfl ?_
            refine w_ic_ne rfl (by decide) (pc' := 48) rfl ⟨h.1, by decide⟩ (fun c6 => ?_) (fun c6 => ?_)
            · have h := h.2.1 c6
              refine zW.go 2 55 [(0, x0)] [(0, 31), (0, x0)] _ rfl ?_
              refine w_ic_eq rfl (by decide) (pc' := 58) rfl ⟨h.1, by decide⟩ (fun c7 => ?_) (fun c7 => ?_)
              · have h := h.2.1 c7
                refine zW.go 2 70 [(0, x0)] [(0, 5)] _ rfl ?_
                exact w_reti rfl rfl h
              · have h := h.2.2 c7
                refine zW.go 2 61 [(0, x0)] [(0, 32), (0, x0)] _ rfl ?_
                refine w_ic_ne rfl (by decide) (pc' := 64) rfl ⟨h.1, by decide⟩ (fun c8 => ?_) (fun c8 => ?_)
                · have h := h.2.1 c8
                  refine zW.go 1 70 [(0, x0)] [(0, 6)] _ rfl ?_
                  exact w_reti rfl rfl h
                · have h := h.2.2 c8
                  refine zW.go 2 70 [(0, x0)] [(0, 5)] _ rfl ?_
                  exact w_reti rfl rfl h
            · have h := h.2.2 c6
              refine zW.go 2 70 [(0, x0)] [(0, 4)] _ rfl ?_
              exact w_reti rfl rfl h
      · have h := h.2.2 c3
        refine zW.go 2 70 [(0, x0)] [(0, 3)] _ rfl ?_
        exact w_reti rfl rfl h
    · have h := h.2.2 c2
      refine zW.go 2 70 [(0, x0)] [(0, 2)] _ rfl ?_
      exact w_reti rfl rfl h
  · have h := h.2.2 c1
    refine zW.go 2 70 [(0, x0)] [(0, 1)] _ rfl ?_
    exact w_reti rfl rfl h
def L_m_joins_0 (X : zX) (d : Nat) (rf : zF) (Q : zF → Prop) (mem : zF) (x1 : Int) : Prop := zW X (d + 1) 213 0 [(2, 261), (0, x1)] [] (zty, rf, mem) (qv rf Q)
set_option maxRecDepth 4000 in
theorem s_m_joins_0 {X : zX} {d : Nat} {rf mem : zF} {Q : zF → Prop} (hR : zall rf zRK = true) {x1 : Int} (h : (0 ≤ ((mem 261 45) - 1) ∧ ((mem 261 45) - 1) < 20) ∧ ((inI (mem 261 48) ∧ inI (mem 290 (((mem 261 45) - 1)).toNat)) ∧ (((mem 261 48) ≤ (mem 290 (((mem 261 45) - 1)).toNat) → Q mem) ∧ (¬ (mem 261 48) ≤ (mem 290 (((mem 261 45) - 1)).toNat) → (0 ≤ ((mem 261 48) - 1) ∧ ((mem 261 48) - 1) < 500) ∧ (Ci X d 212 [(0, (mem 291 (((mem 261 48) - 1)).toNat))] rf mem (fun r8 mem9 => (inI r8 ∧ inI x1) ∧ ((r8 < x1 → Q mem9) ∧ (¬ r8 < x1 → (0 ≤ ((mem9 261 48) - 1) ∧ ((mem9 261 48) - 1) < 500) ∧ (Cv X d 211 [(2, 261), (0, (mem9 291 (((mem9 261 48) - 1)).toNat)), (0, 0)] rf (zup mem9 261 48 ((mem9 261 48) - 1)) (fun mem11 => (0 ≤ (mem11 261 48) ∧ (mem11 261 48) < 500) ∧ ((inI (mem11 291 ((mem11 261 48)).toNat)) ∧ ((¬ (mem11 291 ((mem11 261 48)).toNat) = 43 → L_m_joins_0 X d rf Q mem11 x1) ∧ ((mem11 291 ((mem11 261 48)).toNat) = 43 → L_m_joins_0 X d rf Q (zup mem11 261 46 ((mem11 261 46) - 1)) x1))))))))))))) : L_m_joins_0 X d rf Q mem x1 := by
  refine zW.go 1 1 [(2, 261), (0, x1)] [(2, 261)] _ rfl ?_
  refine w_getI (q := 261) rfl (by decide) (pc' := 4) rfl ⟨by decide, rfl⟩ rfl (by decide) ?_
  refine zW.go 1 5 [(2, 261), (0, x1)] [(2, 261), (0, (mem 261 48))] _ rfl ?_
  refine w_getL (q := 261) (v := 290) rfl (by decide) (pc' := 8) rfl ⟨by decide, rfl⟩ rfl rfl (zall_at hR (by decide)) ?_
  refine zW.go 1 9 [(2, 261), (0, x1)] [(2, 261), (2, 290), (0, (mem 261 48))] _ rfl ?_
  refine w_getI (q := 261) rfl (by decide) (pc' := 12) rfl ⟨by decide, rfl⟩ rfl (by decide) ?_
  refine zW.go 2 14 [(2, 261), (0, x1)] [(0, ((mem 261 45) - 1)), (2, 290), (0, (mem 261 48))] _ rfl ?_
  obtain ⟨g, h⟩ := h
  refine w_iald (q := 290) rfl (by decide) (pc' := 15) rfl ⟨by decide, rfl⟩ rfl g rfl ?_
  refine w_ic_le rfl (by decide) (pc' := 18) rfl h.1 (fun c7 => ?_) (fun c7 => ?_)
  · have h := h.2.1 c7
    exact w_retv rfl rfl h
  · have h := h.2.2 c7
    refine zW.go 1 19 [(2, 261), (0, x1)] [(2, 261)] _ rfl ?_
    refine w_getL (q := 261) (v := 291) rfl (by decide) (pc' := 22) rfl ⟨by decide, rfl⟩ rfl rfl (zall_at hR (by decide)) ?_
    refine zW.go 1 23 [(2, 261), (0, x1)] [(2, 261), (2, 291)] _ rfl ?_
    refine w_getI (q := 261) rfl (by decide) (pc' := 26) rfl ⟨by decide, rfl⟩ rfl (by decide) ?_
    refine zW.go 2 28 [(2, 261), (0, x1)] [(0, ((mem 261 48) - 1)), (2, 291)] _ rfl ?_
    obtain ⟨g, h⟩ := h
    refine w_iald (q := 291) rfl (by decide) (pc' := 29) rfl ⟨by decide, rfl⟩ rfl g rfl ?_
    refine w_calli (as := [(0, (mem 291 (((mem 261 48) - 1)).toNat))]) [] 32 rfl rfl rfl rfl (Nat.le_of_ble_eq_true rfl) (Nat.le_of_ble_eq_true rfl) (Nat.le_of_ble_eq_true rfl) (Or.inl rfl) (Ci.imp h (fun r8 mem9 h => ?_))
    refine zW.go 1 33 [(2, 261), (0, x1)] [(0, x1), (0, r8)] _ rfl ?_
    refine w_ic_lt rfl (by decide) (pc' := 36) rfl h.1 (fun c10 => ?_) (fun c10 => ?_)
    · have h := h.2.1 c10
      exact w_retv rfl rfl h
    · have h := h.2.2 c10
      refine zW.go 2 38 [(2, 261), (0, x1)] [(2, 261), (2, 261)] _ rfl ?_
      refine w_getI (q := 261) rfl (by decide) (pc' := 41) rfl ⟨by decide, rfl⟩ rfl (by decide) ?_
      refine zW.go 2 43 [(2, 261), (0, x1)] [(0, ((mem9 261 48) - 1)), (2, 261)] _ rfl ?_
      refine w_putI (q := 261) rfl (by decide) (pc' := 46) rfl ⟨by decide, rfl⟩ rfl (by decide) ?_
      refine zW.go 2 48 [(2, 261), (0, x1)] [(2, 261), (2, 261)] _ rfl ?_
      refine w_getL (q := 261) (v := 291) rfl (by decide) (pc' := 51) rfl ⟨by decide, rfl⟩ rfl rfl (zall_at hR (by decide)) ?_
      refine zW.go 1 52 [(2, 261), (0, x1)] [(2, 261), (2, 291), (2, 261)] _ rfl ?_
      refine w_getI (q := 261) rfl (by decide) (pc' := 55) rfl ⟨by decide, rfl⟩ rfl (by decide) ?_
      obtain ⟨g, h⟩ := h
      refine w_iald (q := 291) rfl (by decide) (pc' := 56) rfl ⟨by decide, rfl⟩ rfl g rfl ?_
      refine zW.go 1 57 [(2, 261), (0, x1)] [(0, 0), (0, (mem9 291 (((mem9 261 48) - 1)).toNat)), (2, 261)] _ rfl ?_
      refine w_callv (as := [(2, 261), (0, (mem9 291 (((mem9 261 48) - 1)).toNat)), (0, 0)]) [] 60 rfl rfl rfl rfl (Nat.le_of_ble_eq_true rfl) (Nat.le_of_ble_eq_true rfl) (Nat.le_of_ble_eq_true rfl) (Or.inr rfl) (Cv.imp h (fun mem11 h => ?_))
      refine zW.go 1 61 [(2, 261), (0, x1)] [(2, 261)] _ rfl ?_
      refine w_getL (q := 261) (v := 291) rfl (by decide) (pc' := 64) rfl ⟨by decide, rfl⟩ rfl rfl (zall_at hR (by decide)) ?_
      refine zW.go 1 65 [(2, 261), (0, x1)] [(2, 261), (2, 291)] _ rfl ?_
      refine w_getI (q := 261) rfl (by decide) (pc' := 68) rfl ⟨by decide, rfl⟩ rfl (by decide) ?_
      obtain ⟨g, h⟩ := h
      refine w_iald (q := 291) rfl (by decide) (pc' := 69) rfl ⟨by decide, rfl⟩ rfl g rfl ?_
      refine zW.go 1 71 [(2, 261), (0, x1)] [(0, 43), (0, (mem11 291 ((mem11 261 48)).toNat))] _ rfl ?_
      refine w_ic_ne rfl (by decide) (pc' := 74) rfl ⟨h.1, by decide⟩ (fun c12 => ?_) (fun c12 => ?_)
      · have h := h.2.1 c12
        exact h
      · have h := h.2.2 c12
        refine zW.go 2 76 [(2, 261), (0, x1)] [(2, 261), (2, 261)] _ rfl ?_
        refine w_getI (q := 261) rfl (by decide) (pc' := 79) rfl ⟨by decide, rfl⟩ rfl (by decide) ?_
        refine zW.go 2 81 [(2, 261), (0, x1)] [(0, ((mem11 261 46) - 1)), (2, 261)] _ rfl ?_
        refine w_putI (q := 261) rfl (by decide) (pc' := 84) rfl ⟨by decide, rfl⟩ rfl (by decide) ?_
        refine zW.go 1 0 [(2, 261), (0, x1)] [] _ rfl ?_
        exact h
set_option maxRecDepth 4000 in
theorem s_m_joins {X : zX} {d : Nat} {rf mem : zF} {Q : zF → Prop} (hR : zall rf zRK = true) {x1 : Int} (h : (0 ≤ ((mem 261 45) - 1) ∧ ((mem 261 45) - 1) < 20) ∧ ((inI (mem 261 48) ∧ inI (mem 290 (((mem 261 45) - 1)).toNat)) ∧ (((mem 261 48) ≤ (mem 290 (((mem 261 45) - 1)).toNat) → Q mem) ∧ (¬ (mem 261 48) ≤ (mem 290 (((mem 261 45) - 1)).toNat) → (0 ≤ ((mem 261 48) - 1) ∧ ((mem 261 48) - 1) < 500) ∧ (Ci X d 212 [(0, (mem 291 (((mem 261 48) - 1)).toNat))] rf mem (fun r2 mem3 => (inI r2 ∧ inI x1) ∧ ((r2 < x1 → Q mem3) ∧ (¬ r2 < x1 → (0 ≤ ((mem3 261 48) - 1) ∧ ((mem3 261 48) - 1) < 500) ∧ (Cv X d 211 [(2, 261), (0, (mem3 291 (((mem3 261 48) - 1)).toNat)), (0, 0)] rf (zup mem3 261 48 ((mem3 261 48) - 1)) (fun mem5 => (0 ≤ (mem5 261 48) ∧ (mem5 261 48) < 500) ∧ ((inI (mem5 291 ((mem5 261 48)).toNat)) ∧ ((¬ (mem5 291 ((mem5 261 48)).toNat) = 43 → L_m_joins_0 X d rf Q mem5 x1) ∧ ((mem5 291 ((mem5 261 48)).toNat) = 43 → L_m_joins_0 X d rf Q (zup mem5 261 46 ((mem5 261 46) - 1)) x1))))))))))))) : Cv X (d + 1) 213 [(2, 261), (0, x1)] rf mem Q := by
  show zW X (d + 1) 213 0 [(2, 261), (0, x1)] [] (zty, rf, mem) (qv rf Q)
  refine zW.go 1 1 [(2, 261), (0, x1)] [(2, 261)] _ rfl ?_
  refine w_getI (q := 261) rfl (by decide) (pc' := 4) rfl ⟨by decide, rfl⟩ rfl (by decide) ?_
  refine zW.go 1 5 [(2, 261), (0, x1)] [(2, 261), (0, (mem 261 48))] _ rfl ?_
  refine w_getL (q := 261) (v := 290) rfl (by decide) (pc' := 8) rfl ⟨by decide, rfl⟩ rfl rfl (zall_at hR (by decide)) ?_
  refine zW.go 1 9 [(2, 261), (0, x1)] [(2, 261), (2, 290), (0, (mem 261 48))] _ rfl ?_
  refine w_getI (q := 261) rfl (by decide) (pc' := 12) rfl ⟨by decide, rfl⟩ rfl (by decide) ?_
  refine zW.go 2 14 [(2, 261), (0, x1)] [(0, ((mem 261 45) - 1)), (2, 290), (0, (mem 261 48))] _ rfl ?_
  obtain ⟨g, h⟩ := h
  refine w_iald (q := 290) rfl (by decide) (pc' := 15) rfl ⟨by decide, rfl⟩ rfl g rfl ?_
  refine w_ic_le rfl (by decide) (pc' := 18) rfl h.1 (fun c1 => ?_) (fun c1 => ?_)
  · have h := h.2.1 c1
    exact w_retv rfl rfl h
  · have h := h.2.2 c1
    refine zW.go 1 19 [(2, 261), (0, x1)] [(2, 261)] _ rfl ?_
    refine w_getL (q := 261) (v := 291) rfl (by decide) (pc' := 22) rfl ⟨by decide, rfl⟩ rfl rfl (zall_at hR (by decide)) ?_
    refine zW.go 1 23 [(2, 261), (0, x1)] [(2, 261), (2, 291)] _ rfl ?_
    refine w_getI (q := 261) rfl (by decide) (pc' := 26) rfl ⟨by decide, rfl⟩ rfl (by decide) ?_
    refine zW.go 2 28 [(2, 261), (0, x1)] [(0, ((mem 261 48) - 1)), (2, 291)] _ rfl ?_
    obtain ⟨g, h⟩ := h
    refine w_iald (q := 291) rfl (by decide) (pc' := 29) rfl ⟨by decide, rfl⟩ rfl g rfl ?_
    refine w_calli (as := [(0, (mem 291 (((mem 261 48) - 1)).toNat))]) [] 32 rfl rfl rfl rfl (Nat.le_of_ble_eq_true rfl) (Nat.le_of_ble_eq_true rfl) (Nat.le_of_ble_eq_true rfl) (Or.inl rfl) (Ci.imp h (fun r2 mem3 h => ?_))
    refine zW.go 1 33 [(2, 261), (0, x1)] [(0, x1), (0, r2)] _ rfl ?_
    refine w_ic_lt rfl (by decide) (pc' := 36) rfl h.1 (fun c4 => ?_) (fun c4 => ?_)
    · have h := h.2.1 c4
      exact w_retv rfl rfl h
    · have h := h.2.2 c4
      refine zW.go 2 38 [(2, 261), (0, x1)] [(2, 261), (2, 261)] _ rfl ?_
      refine w_getI (q := 261) rfl (by decide) (pc' := 41) rfl ⟨by decide, rfl⟩ rfl (by decide) ?_
      refine zW.go 2 43 [(2, 261), (0, x1)] [(0, ((mem3 261 48) - 1)), (2, 261)] _ rfl ?_
      refine w_putI (q := 261) rfl (by decide) (pc' := 46) rfl ⟨by decide, rfl⟩ rfl (by decide) ?_
      refine zW.go 2 48 [(2, 261), (0, x1)] [(2, 261), (2, 261)] _ rfl ?_
      refine w_getL (q := 261) (v := 291) rfl (by decide) (pc' := 51) rfl ⟨by decide, rfl⟩ rfl rfl (zall_at hR (by decide)) ?_
      refine zW.go 1 52 [(2, 261), (0, x1)] [(2, 261), (2, 291), (2, 261)] _ rfl ?_
      refine w_getI (q := 261) rfl (by decide) (pc' := 55) rfl ⟨by decide, rfl⟩ rfl (by decide) ?_
      obtain ⟨g, h⟩ := h
      refine w_iald (q := 291) rfl (by decide) (pc' := 56) rfl ⟨by decide, rfl⟩ rfl g rfl ?_
      refine zW.go 1 57 [(2, 261), (0, x1)] [(0, 0), (0, (mem3 291 (((mem3 261 48) - 1)).toNat)), (2, 261)] _ rfl ?_
      refine w_callv (as := [(2, 261), (0, (mem3 291 (((mem3 261 48) - 1)).toNat)), (0, 0)]) [] 60 rfl rfl rfl rfl (Nat.le_of_ble_eq_true rfl) (Nat.le_of_ble_eq_true rfl) (Nat.le_of_ble_eq_true rfl) (Or.inr rfl) (Cv.imp h (fun mem5 h => ?_))
      refine zW.go 1 61 [(2, 261), (0, x1)] [(2, 261)] _ rfl ?_
      refine w_getL (q := 261) (v := 291) rfl (by decide) (pc' := 64) rfl ⟨by decide, rfl⟩ rfl rfl (zall_at hR (by decide)) ?_
      refine zW.go 1 65 [(2, 261), (0, x1)] [(2, 261), (2, 291)] _ rfl ?_
      refine w_getI (q := 261) rfl (by decide) (pc' := 68) rfl ⟨by decide, rfl⟩ rfl (by decide) ?_
      obtain ⟨g, h⟩ := h
      refine w_iald (q := 291) rfl (by decide) (pc' := 69) rfl ⟨by decide, rfl⟩ rfl g rfl ?_
      refine zW.go 1 71 [(2, 261), (0, x1)] [(0, 43), (0, (mem5 291 ((mem5 261 48)).toNat))] _ rfl ?_
      refine w_ic_ne rfl (by decide) (pc' := 74) rfl ⟨h.1, by decide⟩ (fun c6 => ?_) (fun c6 => ?_)
      · have h := h.2.1 c6
        exact h
      · have h := h.2.2 c6
        refine zW.go 2 76 [(2, 261), (0, x1)] [(2, 261), (2, 261)] _ rfl ?_
        refine w_getI (q := 261) rfl (by decide) (pc' := 79) rfl ⟨by decide, rfl⟩ rfl (by decide) ?_
        refine zW.go 2 81 [(2, 261), (0, x1)] [(0, ((mem5 261 46) - 1)), (2, 261)] _ rfl ?_
        refine w_putI (q := 261) rfl (by decide) (pc' := 84) rfl ⟨by decide, rfl⟩ rfl (by decide) ?_
        refine zW.go 1 0 [(2, 261), (0, x1)] [] _ rfl ?_
        exact h
set_option maxRecDepth 4000 in
theorem s_m_holdsBack {X : zX} {d : Nat} {rf mem : zF} {Q : zF → Prop} (hR : zall rf zRK = true) {x1 : Int} (h : (0 ≤ (mem 261 48) ∧ (mem 261 48) < 500) ∧ (Q (zup (zup mem 291 ((mem 261 48)).toNat x1) 261 48 ((mem 261 48) + 1)))) : Cv X d 214 [(2, 261), (0, x1)] rf mem Q := by
  show zW X d 214 0 [(2, 261), (0, x1)] [] (zty, rf, mem) (qv rf Q)
  refine zW.go 1 1 [(2, 261), (0, x1)] [(2, 261)] _ rfl ?_
  refine w_getL (q := 261) (v := 291) rfl (by decide) (pc' := 4) rfl ⟨by decide, rfl⟩ rfl rfl (zall_at hR (by decide)) ?_
  refine zW.go 1 5 [(2, 261), (0, x1)] [(2, 261), (2, 291)] _ rfl ?_
  refine w_getI (q := 261) rfl (by decide) (pc' := 8) rfl ⟨by decide, rfl⟩ rfl (by decide) ?_
  refine zW.go 1 9 [(2, 261), (0, x1)] [(0, x1), (0, (mem 261 48)), (2, 291)] _ rfl ?_
  obtain ⟨g, h⟩ := h
  refine w_iast (q := 291) rfl (by decide) (pc' := 10) rfl ⟨by decide, rfl⟩ rfl g rfl ?_
  refine zW.go 2 12 [(2, 261), (0, x1)] [(2, 261), (2, 261)] _ rfl ?_
  refine w_getI (q := 261) rfl (by decide) (pc' := 15) rfl ⟨by decide, rfl⟩ rfl (by decide) ?_
  refine zW.go 2 17 [(2, 261), (0, x1)] [(0, ((mem 261 48) + 1)), (2, 261)] _ rfl ?_
  refine w_putI (q := 261) rfl (by decide) (pc' := 20) rfl ⟨by decide, rfl⟩ rfl (by decide) ?_
  exact w_retv rfl rfl h
set_option maxRecDepth 4000 in
theorem s_m_pushes {X : zX} {d : Nat} {rf mem : zF} {Q : zF → Prop} (hR : zall rf zRK = true) {x1 : Int} (h : (0 ≤ (mem 261 45) ∧ (mem 261 45) < 20) ∧ ((0 ≤ (mem 261 45) ∧ (mem 261 45) < 20) ∧ ((0 ≤ (mem 261 45) ∧ (mem 261 45) < 20) ∧ ((0 ≤ (mem 261 45) ∧ (mem 261 45) < 20) ∧ (Q (zup (zup (zup (zup (zup mem 286 ((mem 261 45)).toNat x1) 287 ((mem 261 45)).toNat 0) 288 ((mem 261 45)).toNat 1) 290 ((mem 261 45)).toNat (mem 261 48)) 261 45 ((mem 261 45) + 1))))))) : Cv X d 215 [(2, 261), (0, x1)] rf mem Q := by
  show zW X d 215 0 [(2, 261), (0, x1)] [] (zty, rf, mem) (qv rf Q)
  refine zW.go 1 1 [(2, 261), (0, x1)] [(2, 261)] _ rfl ?_
  refine w_getL (q := 261) (v := 286) rfl (by decide) (pc' := 4) rfl ⟨by decide, rfl⟩ rfl rfl (zall_at hR (by decide)) ?_
  refine zW.go 1 5 [(2, 261), (0, x1)] [(2, 261), (2, 286)] _ rfl ?_
  refine w_getI (q := 261) rfl (by decide) (pc' := 8) rfl ⟨by decide, rfl⟩ rfl (by decide) ?_
  refine zW.go 1 9 [(2, 261), (0, x1)] [(0, x1), (0, (mem 261 45)), (2, 286)] _ rfl ?_
  obtain ⟨g, h⟩ := h
  refine w_iast (q := 286) rfl (by decide) (pc' := 10) rfl ⟨by decide, rfl⟩ rfl g rfl ?_
  refine zW.go 1 11 [(2, 261), (0, x1)] [(2, 261)] _ rfl ?_
  refine w_getL (q := 261) (v := 287) rfl (by decide) (pc' := 14) rfl ⟨by decide, rfl⟩ rfl rfl (zall_at hR (by decide)) ?_
  refine zW.go 1 15 [(2, 261), (0, x1)] [(2, 261), (2, 287)] _ rfl ?_
  refine w_getI (q := 261) rfl (by decide) (pc' := 18) rfl ⟨by decide, rfl⟩ rfl (by decide) ?_
  refine zW.go 1 19 [(2, 261), (0, x1)] [(0, 0), (0, (mem 261 45)), (2, 287)] _ rfl ?_
  obtain ⟨g, h⟩ := h
  refine w_iast (q := 287) rfl (by decide) (pc' := 20) rfl ⟨by decide, rfl⟩ rfl g rfl ?_
  refine zW.go 1 21 [(2, 261), (0, x1)] [(2, 261)] _ rfl ?_
  refine w_getL (q := 261) (v := 288) rfl (by decide) (pc' := 24) rfl ⟨by decide, rfl⟩ rfl rfl (zall_at hR (by decide)) ?_
  refine zW.go 1 25 [(2, 261), (0, x1)] [(2, 261), (2, 288)] _ rfl ?_
  refine w_getI (q := 261) rfl (by decide) (pc' := 28) rfl ⟨by decide, rfl⟩ rfl (by decide) ?_
  refine zW.go 1 29 [(2, 261), (0, x1)] [(0, 1), (0, (mem 261 45)), (2, 288)] _ rfl ?_
  obtain ⟨g, h⟩ := h
  refine w_zast (q := 288) rfl (by decide) (pc' := 30) rfl ⟨by decide, rfl⟩ rfl g rfl (by decide) (by decide) ?_
  refine zW.go 1 31 [(2, 261), (0, x1)] [(2, 261)] _ rfl ?_
  refine w_getL (q := 261) (v := 290) rfl (by decide) (pc' := 34) rfl ⟨by decide, rfl⟩ rfl rfl (zall_at hR (by decide)) ?_
  refine zW.go 1 35 [(2, 261), (0, x1)] [(2, 261), (2, 290)] _ rfl ?_
  refine w_getI (q := 261) rfl (by decide) (pc' := 38) rfl ⟨by decide, rfl⟩ rfl (by decide) ?_
  refine zW.go 1 39 [(2, 261), (0, x1)] [(2, 261), (0, (mem 261 45)), (2, 290)] _ rfl ?_
  refine w_getI (q := 261) rfl (by decide) (pc' := 42) rfl ⟨by decide, rfl⟩ rfl (by decide) ?_
  obtain ⟨g, h⟩ := h
  refine w_iast (q := 290) rfl (by decide) (pc' := 43) rfl ⟨by decide, rfl⟩ rfl g rfl ?_
  refine zW.go 2 45 [(2, 261), (0, x1)] [(2, 261), (2, 261)] _ rfl ?_
  refine w_getI (q := 261) rfl (by decide) (pc' := 48) rfl ⟨by decide, rfl⟩ rfl (by decide) ?_
  refine zW.go 2 50 [(2, 261), (0, x1)] [(0, ((mem 261 45) + 1)), (2, 261)] _ rfl ?_
  refine w_putI (q := 261) rfl (by decide) (pc' := 53) rfl ⟨by decide, rfl⟩ rfl (by decide) ?_
  exact w_retv rfl rfl h
def L_m_opens_18 (X : zX) (d : Nat) (rf : zF) (Q : zF → Prop) (mem : zF) (x1 : Int) : Prop := zW X (d + 1) 216 18 [(2, 261), (0, x1)] [] (zty, rf, mem) (qv rf Q)
set_option maxRecDepth 4000 in
theorem s_m_opens_18 {X : zX} {d : Nat} {rf mem : zF} {Q : zF → Prop} (hR : zall rf zRK = true) {x1 : Int} (h : (inI (mem 261 8)) ∧ (((mem 261 8) ≤ 0 → Cv X d 202 [(2, 261)] rf (zup mem 261 46 ((mem 261 46) + 1)) (fun mem4 => Cv X d 215 [(2, 261), (0, x1)] rf mem4 (fun mem5 => Q mem5))) ∧ (¬ (mem 261 8) ≤ 0 → Q mem))) : L_m_opens_18 X d rf Q mem x1 := by
  refine zW.go 1 19 [(2, 261), (0, x1)] [(2, 261)] _ rfl ?_
  refine w_getI (q := 261) rfl (by decide) (pc' := 22) rfl ⟨by decide, rfl⟩ rfl (by decide) ?_
  refine w_if_le rfl (by decide) (pc' := 25) rfl h.1 (fun c3 => ?_) (fun c3 => ?_)
  · have h := h.2.1 c3
    refine zW.go 2 28 [(2, 261), (0, x1)] [(2, 261), (2, 261)] _ rfl ?_
    refine w_getI (q := 261) rfl (by decide) (pc' := 31) rfl ⟨by decide, rfl⟩ rfl (by decide) ?_
    refine zW.go 2 33 [(2, 261), (0, x1)] [(0, ((mem 261 46) + 1)), (2, 261)] _ rfl ?_
    refine w_putI (q := 261) rfl (by decide) (pc' := 36) rfl ⟨by decide, rfl⟩ rfl (by decide) ?_
    refine zW.go 1 37 [(2, 261), (0, x1)] [(2, 261)] _ rfl ?_
    refine w_callv (as := [(2, 261)]) [] 40 rfl rfl rfl rfl (Nat.le_of_ble_eq_true rfl) (Nat.le_of_ble_eq_true rfl) (Nat.le_of_ble_eq_true rfl) (Or.inr rfl) (Cv.imp h (fun mem4 h => ?_))
    refine zW.go 2 42 [(2, 261), (0, x1)] [(0, x1), (2, 261)] _ rfl ?_
    refine w_callv (as := [(2, 261), (0, x1)]) [] 45 rfl rfl rfl rfl (Nat.le_of_ble_eq_true rfl) (Nat.le_of_ble_eq_true rfl) (Nat.le_of_ble_eq_true rfl) (Or.inr rfl) (Cv.imp h (fun mem5 h => ?_))
    exact w_retv rfl rfl h
  · have h := h.2.2 c3
    exact w_retv rfl rfl h
set_option maxRecDepth 4000 in
theorem s_m_opens {X : zX} {d : Nat} {rf mem : zF} {Q : zF → Prop} (hR : zall rf zRK = true) {x1 : Int} (h : (inI (mem 261 46)) ∧ ((¬ (mem 261 46) = 7 → L_m_opens_18 X d rf Q mem x1) ∧ ((mem 261 46) = 7 → Cv X d 198 [(2, 261), (0, 5), (0, (mem 261 4))] rf mem (fun mem2 => L_m_opens_18 X d rf Q mem2 x1)))) : Cv X (d + 1) 216 [(2, 261), (0, x1)] rf mem Q := by
  show zW X (d + 1) 216 0 [(2, 261), (0, x1)] [] (zty, rf, mem) (qv rf Q)
  refine zW.go 1 1 [(2, 261), (0, x1)] [(2, 261)] _ rfl ?_
  refine w_getI (q := 261) rfl (by decide) (pc' := 4) rfl ⟨by decide, rfl⟩ rfl (by decide) ?_
  refine zW.go 1 6 [(2, 261), (0, x1)] [(0, 7), (0, (mem 261 46))] _ rfl ?_
  refine w_ic_ne rfl (by decide) (pc' := 9) rfl ⟨h.1, by decide⟩ (fun c1 => ?_) (fun c1 => ?_)
  · have h := h.2.1 c1
    exact h
  · have h := h.2.2 c1
    refine zW.go 3 12 [(2, 261), (0, x1)] [(2, 261), (0, 5), (2, 261)] _ rfl ?_
    refine w_getI (q := 261) rfl (by decide) (pc' := 15) rfl ⟨by decide, rfl⟩ rfl (by decide) ?_
    refine w_callv (as := [(2, 261), (0, 5), (0, (mem 261 4))]) [] 18 rfl rfl rfl rfl (Nat.le_of_ble_eq_true rfl) (Nat.le_of_ble_eq_true rfl) (Nat.le_of_ble_eq_true rfl) (Or.inr rfl) (Cv.imp h (fun mem2 h => ?_))
    exact h
set_option maxRecDepth 4000 in
theorem s_m_isTest {X : zX} {d : Nat} {rf mem : zF} {Q : Int → zF → Prop} (hR : zall rf zRK = true) {x0 : Int} (h : (inI x0) ∧ ((x0 = 1 → Q 1 mem) ∧ (¬ x0 = 1 → (inI x0) ∧ ((x0 = 5 → Q 1 mem) ∧ (¬ x0 = 5 → (inI x0) ∧ ((¬ x0 = 6 → Q 0 mem) ∧ (x0 = 6 → Q 1 mem))))))) : Ci X d 217 [(0, x0)] rf mem Q := by
  show zW X d 217 0 [(0, x0)] [] (zty, rf, mem) (qi rf Q)
  refine zW.go 2 2 [(0, x0)] [(0, 1), (0, x0)] _ rfl ?_
  refine w_ic_eq rfl (by decide) (pc' := 5) rfl ⟨h.1, by decide⟩ (fun c1 => ?_) (fun c1 => ?_)
  · have h := h.2.1 c1
    refine zW.go 2 21 [(0, x0)] [(0, 1)] _ rfl ?_
    exact w_retz rfl rfl (by decide) h
  · have h := h.2.2 c1
    refine zW.go 2 7 [(0, x0)] [(0, 5), (0, x0)] _ rfl ?_
    refine w_ic_eq rfl (by decide) (pc' := 10) rfl ⟨h.1, by decide⟩ (fun c2 => ?_) (fun c2 => ?_)
    · have h := h.2.1 c2
      refine zW.go 2 21 [(0, x0)] [(0, 1)] _ rfl ?_
      exact w_retz rfl rfl (by decide) h
    · have h := h.2.2 c2
      refine zW.go 2 13 [(0, x0)] [(0, 6), (0, x0)] _ rfl ?_
      refine w_ic_ne rfl (by decide) (pc' := 16) rfl ⟨h.1, by decide⟩ (fun c3 => ?_) (fun c3 => ?_)
      · have h := h.2.1 c3
        refine zW.go 1 21 [(0, x0)] [(0, 0)] _ rfl ?_
        exact w_retz rfl rfl (by decide) h
      · have h := h.2.2 c3
        refine zW.go 2 21 [(0, x0)] [(0, 1)] _ rfl ?_
        exact w_retz rfl rfl (by decide) h
def L_m_operand_46 (X : zX) (d : Nat) (rf : zF) (Q : Int → zF → Prop) (mem : zF) (x1 : Int) (s0 : Int) : Prop := ∀ z2 : zV, ∀ z3 : zV, zW X (d + 1) 218 46 [(2, 261), (0, x1), z2, z3] [(0, s0)] (zty, rf, mem) (qi rf Q)
def L_m_operand_110 (X : zX) (d : Nat) (rf : zF) (Q : Int → zF → Prop) (mem : zF) (x1 : Int) (x2 : Int) : Prop := ∀ z3 : zV, zW X (d + 1) 218 110 [(2, 261), (0, x1), (0, x2), z3] [] (zty, rf, mem) (qi rf Q)
def L_m_operand_79 (X : zX) (d : Nat) (rf : zF) (Q : Int → zF → Prop) (mem : zF) : Prop := ∀ z1 : zV, ∀ z2 : zV, ∀ z3 : zV, zW X (d + 1) 218 79 [(2, 261), z1, z2, z3] [] (zty, rf, mem) (qi rf Q)
def L_m_operand_137 (X : zX) (d : Nat) (rf : zF) (Q : Int → zF → Prop) (mem : zF) (x1 : Int) (x2 : Int) : Prop := ∀ z3 : zV, zW X (d + 1) 218 137 [(2, 261), (0, x1), (0, x2), z3] [] (zty, rf, mem) (qi rf Q)
def L_m_operand_171 (X : zX) (d : Nat) (rf : zF) (Q : Int → zF → Prop) (mem : zF) : Prop := ∀ z1 : zV, ∀ z2 : zV, z2.1 ≠ 1 → ∀ z3 : zV, zW X (d + 1) 218 171 [(2, 261), z1, z2, z3] [] (zty, rf, mem) (qi rf Q)
def L_m_operand_217 (X : zX) (d : Nat) (rf : zF) (Q : Int → zF → Prop) (mem : zF) : Prop := ∀ z1 : zV, ∀ z2 : zV, z2.1 ≠ 1 → ∀ z3 : zV, zW X (d + 1) 218 217 [(2, 261), z1, z2, z3] [] (zty, rf, mem) (qi rf Q)
def L_m_operand_411 (X : zX) (d : Nat) (rf : zF) (Q : Int → zF → Prop) (mem : zF) (s0 : Int) : Prop := ∀ z1 : zV, ∀ z2 : zV, z2.1 ≠ 1 → ∀ z3 : zV, zW X (d + 1) 218 411 [(2, 261), z1, z2, z3] [(0, s0)] (zty, rf, mem) (qi rf Q)
def L_m_operand_249 (X : zX) (d : Nat) (rf : zF) (Q : Int → zF → Prop) (mem : zF) (s0 : Int) : Prop := ∀ z1 : zV, ∀ z2 : zV, z2.1 ≠ 1 → ∀ z3 : zV, zW X (d + 1) 218 249 [(2, 261), z1, z2, z3] [(0, s0)] (zty, rf, mem) (qi rf Q)
def L_m_operand_445 (X : zX) (d : Nat) (rf : zF) (Q : Int → zF → Prop) (mem : zF) (x3 : Int) : Prop := ∀ z1 : zV, ∀ z2 : zV, zW X (d + 1) 218 445 [(2, 261), z1, z2, (0, x3)] [] (zty, rf, mem) (qi rf Q)
def L_m_operand_276 (X : zX) (d : Nat) (rf : zF) (Q : Int → zF → Prop) (mem : zF) (x3 : Int) : Prop := ∀ z1 : zV, ∀ z2 : zV, zW X (d + 1) 218 276 [(2, 261), z1, z2, (0, x3)] [] (zty, rf, mem) (qi rf Q)
def L_m_operand_459 (X : zX) (d : Nat) (rf : zF) (Q : Int → zF → Prop) (mem : zF) (x3 : Int) : Prop := ∀ z1 : zV, ∀ z2 : zV, zW X (d + 1) 218 459 [(2, 261), z1, z2, (0, x3)] [] (zty, rf, mem) (qi rf Q)
def L_m_operand_289 (X : zX) (d : Nat) (rf : zF) (Q : Int → zF → Prop) (mem : zF) (x3 : Int) (s1 : Int) : Prop := ∀ z1 : zV, ∀ z2 : zV, zW X (d + 1) 218 289 [(2, 261), z1, z2, (0, x3)] [(0, s1), (2, 261)] (zty, rf, mem) (qi rf Q)
set_option maxRecDepth 4000 in
theorem s_m_operand_46 {X : zX} {d : Nat} {rf mem : zF} {Q : Int → zF → Prop} (hR : zall rf zRK = true) {x1 : Int} {s0 : Int} (h : (inI s0) ∧ ((s0 = 0 → L_m_operand_110 X d rf Q mem x1 s0) ∧ (¬ s0 = 0 → Ci X d 204 [(2, 261), (1, 7237492)] rf mem (fun r8 mem9 => (inI r8) ∧ ((r8 = 0 → L_m_operand_110 X d rf Q mem9 x1 s0) ∧ (¬ r8 = 0 → (inI (mem9 261 46)) ∧ ((¬ (mem9 261 46) = 7 → L_m_operand_79 X d rf Q mem9) ∧ ((mem9 261 46) = 7 → Cv X d 198 [(2, 261), (0, 5), (0, (mem9 261 4))] rf mem9 (fun mem12 => L_m_operand_79 X d rf Q mem12))))))))) : L_m_operand_46 X d rf Q mem x1 s0 := by
  intro z2 z3
  refine zW.go 2 48 [(2, 261), (0, x1), (0, s0), z3] [(0, s0)] _ rfl ?_
  refine w_if_eq rfl (by decide) (pc' := 51) rfl h.1 (fun c7 => ?_) (fun c7 => ?_)
  · have h := h.2.1 c7
    exact h z3
  · have h := h.2.2 c7
    refine zW.go 2 55 [(2, 261), (0, x1), (0, s0), z3] [(1, 7237492), (2, 261)] _ rfl ?_
    refine w_calli (as := [(2, 261), (1, 7237492)]) [] 58 rfl rfl rfl rfl (Nat.le_of_ble_eq_true rfl) (Nat.le_of_ble_eq_true rfl) (Nat.le_of_ble_eq_true rfl) (Or.inr rfl) (Ci.imp h (fun r8 mem9 h => ?_))
    refine w_if_eq rfl (by decide) (pc' := 61) rfl h.1 (fun c10 => ?_) (fun c10 => ?_)
    · have h := h.2.1 c10
      exact h z3
    · have h := h.2.2 c10
      refine zW.go 1 62 [(2, 261), (0, x1), (0, s0), z3] [(2, 261)] _ rfl ?_
      refine w_getI (q := 261) rfl (by decide) (pc' := 65) rfl ⟨by decide, rfl⟩ rfl (by decide) ?_
      refine zW.go 1 67 [(2, 261), (0, x1), (0, s0), z3] [(0, 7), (0, (mem9 261 46))] _ rfl ?_
      refine w_ic_ne rfl (by decide) (pc' := 70) rfl ⟨h.1, by decide⟩ (fun c11 => ?_) (fun c11 => ?_)
      · have h := h.2.1 c11
        exact h (0, x1) (0, s0) z3
      · have h := h.2.2 c11
        refine zW.go 3 73 [(2, 261), (0, x1), (0, s0), z3] [(2, 261), (0, 5), (2, 261)] _ rfl ?_
        refine w_getI (q := 261) rfl (by decide) (pc' := 76) rfl ⟨by decide, rfl⟩ rfl (by decide) ?_
        refine w_callv (as := [(2, 261), (0, 5), (0, (mem9 261 4))]) [] 79 rfl rfl rfl rfl (Nat.le_of_ble_eq_true rfl) (Nat.le_of_ble_eq_true rfl) (Nat.le_of_ble_eq_true rfl) (Or.inr rfl) (Cv.imp h (fun mem12 h => ?_))
        exact h (0, x1) (0, s0) z3
set_option maxRecDepth 4000 in
theorem s_m_operand_110 {X : zX} {d : Nat} {rf mem : zF} {Q : Int → zF → Prop} (hR : zall rf zRK = true) {x1 : Int} {x2 : Int} (h : (0 ≤ x1 ∧ x1 < 20) ∧ ((inI x2) ∧ ((x2 = 0 → L_m_operand_137 X d rf Q (zup mem 288 (x1).toNat 0) x1 x2) ∧ (¬ x2 = 0 → Ci X d 203 [(2, 261), (0, 91)] rf (zup mem 288 (x1).toNat 0) (fun r14 mem15 => (inI r14) ∧ ((r14 = 0 → L_m_operand_137 X d rf Q mem15 x1 x2) ∧ (¬ r14 = 0 → Cv X d 216 [(2, 261), (0, 5)] rf mem15 (fun mem17 => Q 0 mem17)))))))) : L_m_operand_110 X d rf Q mem x1 x2 := by
  intro z3
  refine zW.go 1 111 [(2, 261), (0, x1), (0, x2), z3] [(2, 261)] _ rfl ?_
  refine w_getL (q := 261) (v := 288) rfl (by decide) (pc' := 114) rfl ⟨by decide, rfl⟩ rfl rfl (zall_at hR (by decide)) ?_
  refine zW.go 2 116 [(2, 261), (0, x1), (0, x2), z3] [(0, 0), (0, x1), (2, 288)] _ rfl ?_
  obtain ⟨g, h⟩ := h
  refine w_zast (q := 288) rfl (by decide) (pc' := 117) rfl ⟨by decide, rfl⟩ rfl g rfl (by decide) (by decide) ?_
  refine zW.go 1 118 [(2, 261), (0, x1), (0, x2), z3] [(0, x2)] _ rfl ?_
  refine w_if_eq rfl (by decide) (pc' := 121) rfl h.1 (fun c13 => ?_) (fun c13 => ?_)
  · have h := h.2.1 c13
    exact h z3
  · have h := h.2.2 c13
    refine zW.go 2 124 [(2, 261), (0, x1), (0, x2), z3] [(0, 91), (2, 261)] _ rfl ?_
    refine w_calli (as := [(2, 261), (0, 91)]) [] 127 rfl rfl rfl rfl (Nat.le_of_ble_eq_true rfl) (Nat.le_of_ble_eq_true rfl) (Nat.le_of_ble_eq_true rfl) (Or.inr rfl) (Ci.imp h (fun r14 mem15 h => ?_))
    refine w_if_eq rfl (by decide) (pc' := 130) rfl h.1 (fun c16 => ?_) (fun c16 => ?_)
    · have h := h.2.1 c16
      exact h z3
    · have h := h.2.2 c16
      refine zW.go 2 132 [(2, 261), (0, x1), (0, x2), z3] [(0, 5), (2, 261)] _ rfl ?_
      refine w_callv (as := [(2, 261), (0, 5)]) [] 135 rfl rfl rfl rfl (Nat.le_of_ble_eq_true rfl) (Nat.le_of_ble_eq_true rfl) (Nat.le_of_ble_eq_true rfl) (Or.inr rfl) (Cv.imp h (fun mem17 h => ?_))
      refine zW.go 1 136 [(2, 261), (0, x1), (0, x2), z3] [(0, 0)] _ rfl ?_
      exact w_retz rfl rfl (by decide) h
set_option maxRecDepth 4000 in
theorem s_m_operand_79 {X : zX} {d : Nat} {rf mem : zF} {Q : Int → zF → Prop} (hR : zall rf zRK = true) (h : (inI (mem 261 8)) ∧ (((mem 261 8) ≤ 0 → Cv X d 214 [(2, 261), (0, 43)] rf (zup mem 261 46 ((mem 261 46) + 1)) (fun mem19 => Cv X d 202 [(2, 261)] rf mem19 (fun mem20 => Q 0 mem20))) ∧ (¬ (mem 261 8) ≤ 0 → Q 1 mem))) : L_m_operand_79 X d rf Q mem := by
  intro z1 z2 z3
  refine zW.go 1 80 [(2, 261), z1, z2, z3] [(2, 261)] _ rfl ?_
  refine w_getI (q := 261) rfl (by decide) (pc' := 83) rfl ⟨by decide, rfl⟩ rfl (by decide) ?_
  refine w_if_le rfl (by decide) (pc' := 86) rfl h.1 (fun c18 => ?_) (fun c18 => ?_)
  · have h := h.2.1 c18
    refine zW.go 2 90 [(2, 261), z1, z2, z3] [(2, 261), (2, 261)] _ rfl ?_
    refine w_getI (q := 261) rfl (by decide) (pc' := 93) rfl ⟨by decide, rfl⟩ rfl (by decide) ?_
    refine zW.go 2 95 [(2, 261), z1, z2, z3] [(0, ((mem 261 46) + 1)), (2, 261)] _ rfl ?_
    refine w_putI (q := 261) rfl (by decide) (pc' := 98) rfl ⟨by decide, rfl⟩ rfl (by decide) ?_
    refine zW.go 2 101 [(2, 261), z1, z2, z3] [(0, 43), (2, 261)] _ rfl ?_
    refine w_callv (as := [(2, 261), (0, 43)]) [] 104 rfl rfl rfl rfl (Nat.le_of_ble_eq_true rfl) (Nat.le_of_ble_eq_true rfl) (Nat.le_of_ble_eq_true rfl) (Or.inr rfl) (Cv.imp h (fun mem19 h => ?_))
    refine zW.go 1 105 [(2, 261), z1, z2, z3] [(2, 261)] _ rfl ?_
    refine w_callv (as := [(2, 261)]) [] 108 rfl rfl rfl rfl (Nat.le_of_ble_eq_true rfl) (Nat.le_of_ble_eq_true rfl) (Nat.le_of_ble_eq_true rfl) (Or.inr rfl) (Cv.imp h (fun mem20 h => ?_))
    refine zW.go 1 109 [(2, 261), z1, z2, z3] [(0, 0)] _ rfl ?_
    exact w_retz rfl rfl (by decide) h
  · have h := h.2.2 c18
    refine zW.go 1 87 [(2, 261), z1, z2, z3] [(0, 1)] _ rfl ?_
    exact w_retz rfl rfl (by decide) h
set_option maxRecDepth 4000 in
theorem s_m_operand_137 {X : zX} {d : Nat} {rf mem : zF} {Q : Int → zF → Prop} (hR : zall rf zRK = true) {x1 : Int} {x2 : Int} (h : (inI x2) ∧ ((x2 = 0 → L_m_operand_171 X d rf Q mem) ∧ (¬ x2 = 0 → Ci X d 204 [(2, 261), (1, 6384748)] rf mem (fun r22 mem23 => (inI r22) ∧ ((r22 = 0 → L_m_operand_171 X d rf Q mem23) ∧ (¬ r22 = 0 → Cv X d 211 [(2, 261), (0, 30), (0, 0)] rf mem23 (fun mem25 => (0 ≤ x1 ∧ x1 < 20) ∧ (Cv X d 202 [(2, 261)] rf (zup mem25 287 (x1).toNat 2) (fun mem26 => Q 1 mem26))))))))) : L_m_operand_137 X d rf Q mem x1 x2 := by
  intro z3
  refine zW.go 1 138 [(2, 261), (0, x1), (0, x2), z3] [(0, x2)] _ rfl ?_
  refine w_if_eq rfl (by decide) (pc' := 141) rfl h.1 (fun c21 => ?_) (fun c21 => ?_)
  · have h := h.2.1 c21
    exact h (0, x1) (0, x2) (by show (0 : Nat) ≠ 1; decide) z3
  · have h := h.2.2 c21
    refine zW.go 2 145 [(2, 261), (0, x1), (0, x2), z3] [(1, 6384748), (2, 261)] _ rfl ?_
    refine w_calli (as := [(2, 261), (1, 6384748)]) [] 148 rfl rfl rfl rfl (Nat.le_of_ble_eq_true rfl) (Nat.le_of_ble_eq_true rfl) (Nat.le_of_ble_eq_true rfl) (Or.inr rfl) (Ci.imp h (fun r22 mem23 h => ?_))
    refine w_if_eq rfl (by decide) (pc' := 151) rfl h.1 (fun c24 => ?_) (fun c24 => ?_)
    · have h := h.2.1 c24
      exact h (0, x1) (0, x2) (by show (0 : Nat) ≠ 1; decide) z3
    · have h := h.2.2 c24
      refine zW.go 3 155 [(2, 261), (0, x1), (0, x2), z3] [(0, 0), (0, 30), (2, 261)] _ rfl ?_
      refine w_callv (as := [(2, 261), (0, 30), (0, 0)]) [] 158 rfl rfl rfl rfl (Nat.le_of_ble_eq_true rfl) (Nat.le_of_ble_eq_true rfl) (Nat.le_of_ble_eq_true rfl) (Or.inr rfl) (Cv.imp h (fun mem25 h => ?_))
      refine zW.go 1 159 [(2, 261), (0, x1), (0, x2), z3] [(2, 261)] _ rfl ?_
      refine w_getL (q := 261) (v := 287) rfl (by decide) (pc' := 162) rfl ⟨by decide, rfl⟩ rfl rfl (zall_at hR (by decide)) ?_
      refine zW.go 2 164 [(2, 261), (0, x1), (0, x2), z3] [(0, 2), (0, x1), (2, 287)] _ rfl ?_
      obtain ⟨g, h⟩ := h
      refine w_iast (q := 287) rfl (by decide) (pc' := 165) rfl ⟨by decide, rfl⟩ rfl g rfl ?_
      refine zW.go 1 166 [(2, 261), (0, x1), (0, x2), z3] [(2, 261)] _ rfl ?_
      refine w_callv (as := [(2, 261)]) [] 169 rfl rfl rfl rfl (Nat.le_of_ble_eq_true rfl) (Nat.le_of_ble_eq_true rfl) (Nat.le_of_ble_eq_true rfl) (Or.inr rfl) (Cv.imp h (fun mem26 h => ?_))
      refine zW.go 1 170 [(2, 261), (0, x1), (0, x2), z3] [(0, 1)] _ rfl ?_
      exact w_retz rfl rfl (by decide) h
set_option maxRecDepth 4000 in
theorem s_m_operand_171 {X : zX} {d : Nat} {rf mem : zF} {Q : Int → zF → Prop} (hR : zall rf zRK = true) (h : Ci X d 203 [(2, 261), (0, 40)] rf mem (fun r27 mem28 => (inI r27) ∧ ((r27 = 0 → Ci X d 204 [(2, 261), (1, 7170414)] rf mem28 (fun r30 mem31 => (inI r30) ∧ ((¬ r30 = 0 → L_m_operand_217 X d rf Q mem31) ∧ (r30 = 0 → Ci X d 204 [(2, 261), (1, 7168376)] rf mem31 (fun r33 mem34 => (inI r33) ∧ ((¬ r33 = 0 → L_m_operand_217 X d rf Q mem34) ∧ (r33 = 0 → Ci X d 204 [(2, 261), (1, 26982)] rf mem34 (fun r36 mem37 => (inI r36) ∧ ((r36 = 0 → (inI (mem37 261 3)) ∧ ((¬ (mem37 261 3) = 2 → Ci X d 204 [(2, 261), (1, 1718185069)] rf mem37 (fun r40 mem41 => (inI r40) ∧ ((r40 = 0 → Ci X d 204 [(2, 261), (1, 1936292453)] rf mem41 (fun r43 mem44 => (inI r43) ∧ ((r43 = 0 → Ci X d 204 [(2, 261), (1, 126879297138276)] rf mem44 (fun r46 mem47 => (inI r46) ∧ ((r46 = 0 → Ci X d 204 [(2, 261), (1, 431416239732)] rf mem47 (fun r49 mem50 => (inI r49) ∧ ((r49 = 0 → Ci X d 204 [(2, 261), (1, 1952541804)] rf mem50 (fun r52 mem53 => (inI r52) ∧ ((r52 = 0 → Ci X d 204 [(2, 261), (1, 431197873267)] rf mem53 (fun r55 mem56 => (inI r55) ∧ ((r55 = 0 → L_m_operand_411 X d rf Q mem56 (-1)) ∧ (¬ r55 = 0 → L_m_operand_411 X d rf Q mem56 6)))) ∧ (¬ r52 = 0 → L_m_operand_411 X d rf Q mem53 5)))) ∧ (¬ r49 = 0 → L_m_operand_411 X d rf Q mem50 4)))) ∧ (¬ r46 = 0 → L_m_operand_411 X d rf Q mem47 3)))) ∧ (¬ r43 = 0 → L_m_operand_411 X d rf Q mem44 2)))) ∧ (¬ r40 = 0 → L_m_operand_411 X d rf Q mem41 1)))) ∧ ((mem37 261 3) = 2 → L_m_operand_411 X d rf Q mem37 0))) ∧ (¬ r36 = 0 → L_m_operand_217 X d rf Q mem37)))))))))) ∧ (¬ r27 = 0 → Cv X d 216 [(2, 261), (0, 2)] rf mem28 (fun mem58 => Q 0 mem58))))) : L_m_operand_171 X d rf Q mem := by
  intro z1 z2 hz2 z3
  refine zW.go 2 174 [(2, 261), z1, z2, z3] [(0, 40), (2, 261)] _ rfl ?_
  refine w_calli (as := [(2, 261), (0, 40)]) [] 177 rfl rfl rfl rfl (Nat.le_of_ble_eq_true rfl) (Nat.le_of_ble_eq_true rfl) (Nat.le_of_ble_eq_true rfl) (Or.inr rfl) (Ci.imp h (fun r27 mem28 h => ?_))
  refine w_if_eq rfl (by decide) (pc' := 180) rfl h.1 (fun c29 => ?_) (fun c29 => ?_)
  · have h := h.2.1 c29
    refine zW.go 2 191 [(2, 261), z1, z2, z3] [(1, 7170414), (2, 261)] _ rfl ?_
    refine w_calli (as := [(2, 261), (1, 7170414)]) [] 194 rfl rfl rfl rfl (Nat.le_of_ble_eq_true rfl) (Nat.le_of_ble_eq_true rfl) (Nat.le_of_ble_eq_true rfl) (Or.inr rfl) (Ci.imp h (fun r30 mem31 h => ?_))
    refine w_if_ne rfl (by decide) (pc' := 197) rfl h.1 (fun c32 => ?_) (fun c32 => ?_)
    · have h := h.2.1 c32
      exact h z1 z2 hz2 z3
    · have h := h.2.2 c32
      refine zW.go 2 201 [(2, 261), z1, z2, z3] [(1, 7168376), (2, 261)] _ rfl ?_
      refine w_calli (as := [(2, 261), (1, 7168376)]) [] 204 rfl rfl rfl rfl (Nat.le_of_ble_eq_true rfl) (Nat.le_of_ble_eq_true rfl) (Nat.le_of_ble_eq_true rfl) (Or.inr rfl) (Ci.imp h (fun r33 mem34 h => ?_))
      refine w_if_ne rfl (by decide) (pc' := 207) rfl h.1 (fun c35 => ?_) (fun c35 => ?_)
      · have h := h.2.1 c35
        exact h z1 z2 hz2 z3
      · have h := h.2.2 c35
        refine zW.go 2 211 [(2, 261), z1, z2, z3] [(1, 26982), (2, 261)] _ rfl ?_
        refine w_calli (as := [(2, 261), (1, 26982)]) [] 214 rfl rfl rfl rfl (Nat.le_of_ble_eq_true rfl) (Nat.le_of_ble_eq_true rfl) (Nat.le_of_ble_eq_true rfl) (Or.inr rfl) (Ci.imp h (fun r36 mem37 h => ?_))
        refine w_if_eq rfl (by decide) (pc' := 217) rfl h.1 (fun c38 => ?_) (fun c38 => ?_)
        · have h := h.2.1 c38
          refine zW.go 1 314 [(2, 261), z1, z2, z3] [(2, 261)] _ rfl ?_
          refine w_getI (q := 261) rfl (by decide) (pc' := 317) rfl ⟨by decide, rfl⟩ rfl (by decide) ?_
          refine zW.go 1 318 [(2, 261), z1, z2, z3] [(0, 2), (0, (mem37 261 3))] _ rfl ?_
          refine w_ic_ne rfl (by decide) (pc' := 321) rfl ⟨h.1, by decide⟩ (fun c39 => ?_) (fun c39 => ?_)
          · have h := h.2.1 c39
            refine zW.go 2 329 [(2, 261), z1, z2, z3] [(1, 1718185069), (2, 261)] _ rfl ?_
            refine w_calli (as := [(2, 261), (1, 1718185069)]) [] 332 rfl rfl rfl rfl (Nat.le_of_ble_eq_true rfl) (Nat.le_of_ble_eq_true rfl) (Nat.le_of_ble_eq_true rfl) (Or.inr rfl) (Ci.imp h (fun r40 mem41 h => ?_))
            refine w_if_eq rfl (by decide) (pc' := 335) rfl h.1 (fun c42 => ?_) (fun c42 => ?_)
            · have h := h.2.1 c42
              refine zW.go 2 343 [(2, 261), z1, z2, z3] [(1, 1936292453), (2, 261)] _ rfl ?_
              refine w_calli (as := [(2, 261), (1, 1936292453)]) [] 346 rfl rfl rfl rfl (Nat.le_of_ble_eq_true rfl) (Nat.le_of_ble_eq_true rfl) (Nat.le_of_ble_eq_true rfl) (Or.inr rfl) (Ci.imp h (fun r43 mem44 h => ?_))
              refine w_if_eq rfl (by decide) (pc' := 349) rfl h.1 (fun c45 => ?_) (fun c45 => ?_)
              · have h := h.2.1 c45
                refine zW.go 2 357 [(2, 261), z1, z2, z3] [(1, 126879297138276), (2, 261)] _ rfl ?_
                refine w_calli (as := [(2, 261), (1, 126879297138276)]) [] 360 rfl rfl rfl rfl (Nat.le_of_ble_eq_true rfl) (Nat.le_of_ble_eq_true rfl) (Nat.le_of_ble_eq_true rfl) (Or.inr rfl) (Ci.imp h (fun r46 mem47 h => ?_))
                refine w_if_eq rfl (by decide) (pc' := 363) rfl h.1 (fun c48 => ?_) (fun c48 => ?_)
                · have h := h.2.1 c48
                  refine zW.go 2 371 [(2, 261), z1, z2, z3] [(1, 431416239732), (2, 261)] _ rfl ?_
                  refine w_calli (as := [(2, 261), (1, 431416239732)]) [] 374 rfl rfl rfl rfl (Nat.le_of_ble_eq_true rfl) (Nat.le_of_ble_eq_true rfl) (Nat.le_of_ble_eq_true rfl) (Or.inr rfl) (Ci.imp h (fun r49 mem50 h => ?_))
                  refine w_if_eq rfl (by decide) (pc' := 377) rfl h.1 (fun c51 => ?_) (fun c51 => ?_)
                  · have h := h.2.1 c51
                    refine zW.go 2 385 [(2, 261), z1, z2, z3] [(1, 1952541804), (2, 261)] _ rfl ?_
                    refine w_calli (as := [(2, 261), (1, 1952541804)]) [] 388 rfl rfl rfl rfl (Nat.le_of_ble_eq_true rfl) (Nat.le_of_ble_eq_true rfl) (Nat.le_of_ble_eq_true rfl) (Or.inr rfl) (Ci.imp h (fun r52 mem53 h => ?_))
                    refine w_if_eq rfl (by decide) (pc' := 391) rfl h.1 (fun c54 => ?_) (fun c54 => ?_)
                    · have h := h.2.1 c54
                      refine zW.go 2 399 [(2, 261), z1, z2, z3] [(1, 431197873267), (2, 261)] _ rfl ?_
                      refine w_calli (as := [(2, 261), (1, 431197873267)]) [] 402 rfl rfl rfl rfl (Nat.le_of_ble_eq_true rfl) (Nat.le_of_ble_eq_true rfl) (Nat.le_of_ble_eq_true rfl) (Or.inr rfl) (Ci.imp h (fun r55 mem56 h => ?_))
                      refine w_if_eq rfl (by decide) (pc' := 405) rfl h.1 (fun c57 => ?_) (fun c57 => ?_)
                      · have h := h.2.1 c57
                        refine zW.go 1 411 [(2, 261), z1, z2, z3] [(0, (-1))] _ rfl ?_
                        exact h z1 z2 hz2 z3
                      · have h := h.2.2 c57
                        refine zW.go 2 411 [(2, 261), z1, z2, z3] [(0, 6)] _ rfl ?_
                        exact h z1 z2 hz2 z3
                    · have h := h.2.2 c54
                      refine zW.go 2 411 [(2, 261), z1, z2, z3] [(0, 5)] _ rfl ?_
                      exact h z1 z2 hz2 z3
                  · have h := h.2.2 c51
                    refine zW.go 2 411 [(2, 261), z1, z2, z3] [(0, 4)] _ rfl ?_
                    exact h z1 z2 hz2 z3
                · have h := h.2.2 c48
                  refine zW.go 2 411 [(2, 261), z1, z2, z3] [(0, 3)] _ rfl ?_
                  exact h z1 z2 hz2 z3
              · have h := h.2.2 c45
                refine zW.go 2 411 [(2, 261), z1, z2, z3] [(0, 2)] _ rfl ?_
                exact h z1 z2 hz2 z3
            · have h := h.2.2 c42
              refine zW.go 2 411 [(2, 261), z1, z2, z3] [(0, 1)] _ rfl ?_
              exact h z1 z2 hz2 z3
          · have h := h.2.2 c39
            refine zW.go 2 411 [(2, 261), z1, z2, z3] [(0, 0)] _ rfl ?_
            exact h z1 z2 hz2 z3
        · have h := h.2.2 c38
          exact h z1 z2 hz2 z3
  · have h := h.2.2 c29
    refine zW.go 2 182 [(2, 261), z1, z2, z3] [(0, 2), (2, 261)] _ rfl ?_
    refine w_callv (as := [(2, 261), (0, 2)]) [] 185 rfl rfl rfl rfl (Nat.le_of_ble_eq_true rfl) (Nat.le_of_ble_eq_true rfl) (Nat.le_of_ble_eq_true rfl) (Or.inr rfl) (Cv.imp h (fun mem58 h => ?_))
    refine zW.go 1 186 [(2, 261), z1, z2, z3] [(0, 0)] _ rfl ?_
    exact w_retz rfl rfl (by decide) h
set_option maxRecDepth 4000 in
theorem s_m_operand_217 {X : zX} {d : Nat} {rf mem : zF} {Q : Int → zF → Prop} (hR : zall rf zRK = true) (h : Ci X d 204 [(2, 261), (1, 7170414)] rf mem (fun r59 mem60 => (inI r59) ∧ ((r59 = 0 → Ci X d 204 [(2, 261), (1, 7168376)] rf mem60 (fun r62 mem63 => (inI r62) ∧ ((r62 = 0 → L_m_operand_249 X d rf Q mem63 44) ∧ (¬ r62 = 0 → L_m_operand_249 X d rf Q mem63 37)))) ∧ (¬ r59 = 0 → L_m_operand_249 X d rf Q mem60 36)))) : L_m_operand_217 X d rf Q mem := by
  intro z1 z2 hz2 z3
  refine zW.go 2 221 [(2, 261), z1, z2, z3] [(1, 7170414), (2, 261)] _ rfl ?_
  refine w_calli (as := [(2, 261), (1, 7170414)]) [] 224 rfl rfl rfl rfl (Nat.le_of_ble_eq_true rfl) (Nat.le_of_ble_eq_true rfl) (Nat.le_of_ble_eq_true rfl) (Or.inr rfl) (Ci.imp h (fun r59 mem60 h => ?_))
  refine w_if_eq rfl (by decide) (pc' := 227) rfl h.1 (fun c61 => ?_) (fun c61 => ?_)
  · have h := h.2.1 c61
    refine zW.go 2 236 [(2, 261), z1, z2, z3] [(1, 7168376), (2, 261)] _ rfl ?_
    refine w_calli (as := [(2, 261), (1, 7168376)]) [] 239 rfl rfl rfl rfl (Nat.le_of_ble_eq_true rfl) (Nat.le_of_ble_eq_true rfl) (Nat.le_of_ble_eq_true rfl) (Or.inr rfl) (Ci.imp h (fun r62 mem63 h => ?_))
    refine w_if_eq rfl (by decide) (pc' := 242) rfl h.1 (fun c64 => ?_) (fun c64 => ?_)
    · have h := h.2.1 c64
      refine zW.go 1 249 [(2, 261), z1, z2, z3] [(0, 44)] _ rfl ?_
      exact h z1 z2 hz2 z3
    · have h := h.2.2 c64
      refine zW.go 2 249 [(2, 261), z1, z2, z3] [(0, 37)] _ rfl ?_
      exact h z1 z2 hz2 z3
  · have h := h.2.2 c61
    refine zW.go 2 249 [(2, 261), z1, z2, z3] [(0, 36)] _ rfl ?_
    exact h z1 z2 hz2 z3
set_option maxRecDepth 4000 in
theorem s_m_operand_411 {X : zX} {d : Nat} {rf mem : zF} {Q : Int → zF → Prop} (hR : zall rf zRK = true) {s0 : Int} (h : (inI s0) ∧ ((s0 < 4 → L_m_operand_445 X d rf Q mem s0) ∧ (¬ s0 < 4 → (inI s0) ∧ ((¬ s0 = 4 → (inI s0) ∧ ((¬ s0 = 5 → (inI (mem 261 39)) ∧ (((mem 261 39) = 2 → L_m_operand_445 X d rf Q mem s0) ∧ (¬ (mem 261 39) = 2 → L_m_operand_445 X d rf Q mem (-1)))) ∧ (s0 = 5 → (inI (mem 261 39)) ∧ (((mem 261 39) = 1 → L_m_operand_445 X d rf Q mem s0) ∧ (¬ (mem 261 39) = 1 → L_m_operand_445 X d rf Q mem (-1)))))) ∧ (s0 = 4 → (inI (mem 261 39)) ∧ (((mem 261 39) = 0 → L_m_operand_445 X d rf Q mem s0) ∧ (¬ (mem 261 39) = 0 → L_m_operand_445 X d rf Q mem (-1)))))))) : L_m_operand_411 X d rf Q mem s0 := by
  intro z1 z2 hz2 z3
  refine zW.step 412 [(2, 261), z1, z2, (0, s0)] [] _ rfl (by decide) (by decide) (by show some (_, zst1 [(2, 261), z1, z2, z3] 3 _, _, _) = _; rw [zst1_z (ls := [(2, 261), z1, z2, z3]) (i := 3) hz2]; rfl) ?_
  refine zW.go 2 414 [(2, 261), z1, z2, (0, s0)] [(0, 4), (0, s0)] _ rfl ?_
  refine w_ic_lt rfl (by decide) (pc' := 417) rfl ⟨h.1, by decide⟩ (fun c65 => ?_) (fun c65 => ?_)
  · have h := h.2.1 c65
    exact h z1 z2
  · have h := h.2.2 c65
    refine zW.go 1 418 [(2, 261), z1, z2, (0, s0)] [(2, 261)] _ rfl ?_
    refine w_getI (q := 261) rfl (by decide) (pc' := 421) rfl ⟨by decide, rfl⟩ rfl (by decide) ?_
    refine zW.go 2 423 [(2, 261), z1, z2, (0, s0)] [(0, 4), (0, s0), (0, (mem 261 39))] _ rfl ?_
    refine w_ic_ne rfl (by decide) (pc' := 426) rfl ⟨h.1, by decide⟩ (fun c66 => ?_) (fun c66 => ?_)
    · have h := h.2.1 c66
      refine zW.go 2 432 [(2, 261), z1, z2, (0, s0)] [(0, 5), (0, s0), (0, (mem 261 39))] _ rfl ?_
      refine w_ic_ne rfl (by decide) (pc' := 435) rfl ⟨h.1, by decide⟩ (fun c67 => ?_) (fun c67 => ?_)
      · have h := h.2.1 c67
        refine zW.go 1 440 [(2, 261), z1, z2, (0, s0)] [(0, 2), (0, (mem 261 39))] _ rfl ?_
        refine w_ic_eq rfl (by decide) (pc' := 443) rfl ⟨h.1, by decide⟩ (fun c68 => ?_) (fun c68 => ?_)
        · have h := h.2.1 c68
          exact h z1 z2
        · have h := h.2.2 c68
          refine zW.go 1 444 [(2, 261), z1, z2, (0, s0)] [(0, (-1))] _ rfl ?_
          refine zW.step 445 [(2, 261), z1, z2, (0, (-1))] [] _ rfl (by decide) (by decide) (by show some (_, zst1 [(2, 261), z1, z2, (0, s0)] 3 _, _, _) = _; rw [zst1_z (ls := [(2, 261), z1, z2, (0, s0)]) (i := 3) hz2]; rfl) ?_
          exact h z1 z2
      · have h := h.2.2 c67
        refine zW.go 2 440 [(2, 261), z1, z2, (0, s0)] [(0, 1), (0, (mem 261 39))] _ rfl ?_
        refine w_ic_eq rfl (by decide) (pc' := 443) rfl ⟨h.1, by decide⟩ (fun c69 => ?_) (fun c69 => ?_)
        · have h := h.2.1 c69
          exact h z1 z2
        · have h := h.2.2 c69
          refine zW.go 1 444 [(2, 261), z1, z2, (0, s0)] [(0, (-1))] _ rfl ?_
          refine zW.step 445 [(2, 261), z1, z2, (0, (-1))] [] _ rfl (by decide) (by decide) (by show some (_, zst1 [(2, 261), z1, z2, (0, s0)] 3 _, _, _) = _; rw [zst1_z (ls := [(2, 261), z1, z2, (0, s0)]) (i := 3) hz2]; rfl) ?_
          exact h z1 z2
    · have h := h.2.2 c66
      refine zW.go 2 440 [(2, 261), z1, z2, (0, s0)] [(0, 0), (0, (mem 261 39))] _ rfl ?_
      refine w_ic_eq rfl (by decide) (pc' := 443) rfl ⟨h.1, by decide⟩ (fun c70 => ?_) (fun c70 => ?_)
      · have h := h.2.1 c70
        exact h z1 z2
      · have h := h.2.2 c70
        refine zW.go 1 444 [(2, 261), z1, z2, (0, s0)] [(0, (-1))] _ rfl ?_
        refine zW.step 445 [(2, 261), z1, z2, (0, (-1))] [] _ rfl (by decide) (by decide) (by show some (_, zst1 [(2, 261), z1, z2, (0, s0)] 3 _, _, _) = _; rw [zst1_z (ls := [(2, 261), z1, z2, (0, s0)]) (i := 3) hz2]; rfl) ?_
        exact h z1 z2
set_option maxRecDepth 4000 in
theorem s_m_operand_249 {X : zX} {d : Nat} {rf mem : zF} {Q : Int → zF → Prop} (hR : zall rf zRK = true) {s0 : Int} (h : Cv X d 202 [(2, 261)] rf mem (fun mem71 => Cv X d 201 [(2, 261)] rf mem71 (fun mem72 => Ci X d 203 [(2, 261), (0, 40)] rf mem72 (fun r73 mem74 => (inI r73) ∧ ((¬ r73 = 0 → L_m_operand_276 X d rf Q mem74 s0) ∧ (r73 = 0 → Cv X d 198 [(2, 261), (0, 1), (0, (mem74 261 4))] rf mem74 (fun mem76 => L_m_operand_276 X d rf Q mem76 s0))))))) : L_m_operand_249 X d rf Q mem s0 := by
  intro z1 z2 hz2 z3
  refine zW.step 250 [(2, 261), z1, z2, (0, s0)] [] _ rfl (by decide) (by decide) (by show some (_, zst1 [(2, 261), z1, z2, z3] 3 _, _, _) = _; rw [zst1_z (ls := [(2, 261), z1, z2, z3]) (i := 3) hz2]; rfl) ?_
  refine zW.go 1 251 [(2, 261), z1, z2, (0, s0)] [(2, 261)] _ rfl ?_
  refine w_callv (as := [(2, 261)]) [] 254 rfl rfl rfl rfl (Nat.le_of_ble_eq_true rfl) (Nat.le_of_ble_eq_true rfl) (Nat.le_of_ble_eq_true rfl) (Or.inr rfl) (Cv.imp h (fun mem71 h => ?_))
  refine zW.go 1 255 [(2, 261), z1, z2, (0, s0)] [(2, 261)] _ rfl ?_
  refine w_callv (as := [(2, 261)]) [] 258 rfl rfl rfl rfl (Nat.le_of_ble_eq_true rfl) (Nat.le_of_ble_eq_true rfl) (Nat.le_of_ble_eq_true rfl) (Or.inr rfl) (Cv.imp h (fun mem72 h => ?_))
  refine zW.go 2 261 [(2, 261), z1, z2, (0, s0)] [(0, 40), (2, 261)] _ rfl ?_
  refine w_calli (as := [(2, 261), (0, 40)]) [] 264 rfl rfl rfl rfl (Nat.le_of_ble_eq_true rfl) (Nat.le_of_ble_eq_true rfl) (Nat.le_of_ble_eq_true rfl) (Or.inr rfl) (Ci.imp h (fun r73 mem74 h => ?_))
  refine w_if_ne rfl (by decide) (pc' := 267) rfl h.1 (fun c75 => ?_) (fun c75 => ?_)
  · have h := h.2.1 c75
    exact h z1 z2
  · have h := h.2.2 c75
    refine zW.go 3 270 [(2, 261), z1, z2, (0, s0)] [(2, 261), (0, 1), (2, 261)] _ rfl ?_
    refine w_getI (q := 261) rfl (by decide) (pc' := 273) rfl ⟨by decide, rfl⟩ rfl (by decide) ?_
    refine w_callv (as := [(2, 261), (0, 1), (0, (mem74 261 4))]) [] 276 rfl rfl rfl rfl (Nat.le_of_ble_eq_true rfl) (Nat.le_of_ble_eq_true rfl) (Nat.le_of_ble_eq_true rfl) (Or.inr rfl) (Cv.imp h (fun mem76 h => ?_))
    exact h z1 z2
set_option maxRecDepth 4000 in
theorem s_m_operand_445 {X : zX} {d : Nat} {rf mem : zF} {Q : Int → zF → Prop} (hR : zall rf zRK = true) {x3 : Int} (h : (inI x3) ∧ ((¬ x3 = (-1) → L_m_operand_459 X d rf Q mem x3) ∧ (x3 = (-1) → Cv X d 198 [(2, 261), (0, 1), (0, (mem 261 4))] rf mem (fun mem78 => L_m_operand_459 X d rf Q mem78 x3)))) : L_m_operand_445 X d rf Q mem x3 := by
  intro z1 z2
  refine zW.go 2 447 [(2, 261), z1, z2, (0, x3)] [(0, (-1)), (0, x3)] _ rfl ?_
  refine w_ic_ne rfl (by decide) (pc' := 450) rfl ⟨h.1, by decide⟩ (fun c77 => ?_) (fun c77 => ?_)
  · have h := h.2.1 c77
    exact h z1 z2
  · have h := h.2.2 c77
    refine zW.go 3 453 [(2, 261), z1, z2, (0, x3)] [(2, 261), (0, 1), (2, 261)] _ rfl ?_
    refine w_getI (q := 261) rfl (by decide) (pc' := 456) rfl ⟨by decide, rfl⟩ rfl (by decide) ?_
    refine w_callv (as := [(2, 261), (0, 1), (0, (mem 261 4))]) [] 459 rfl rfl rfl rfl (Nat.le_of_ble_eq_true rfl) (Nat.le_of_ble_eq_true rfl) (Nat.le_of_ble_eq_true rfl) (Or.inr rfl) (Cv.imp h (fun mem78 h => ?_))
    exact h z1 z2
set_option maxRecDepth 4000 in
theorem s_m_operand_276 {X : zX} {d : Nat} {rf mem : zF} {Q : Int → zF → Prop} (hR : zall rf zRK = true) {x3 : Int} (h : (inI x3) ∧ ((¬ x3 = 44 → L_m_operand_289 X d rf Q mem x3 3) ∧ (x3 = 44 → L_m_operand_289 X d rf Q mem x3 6))) : L_m_operand_276 X d rf Q mem x3 := by
  intro z1 z2
  refine zW.go 3 280 [(2, 261), z1, z2, (0, x3)] [(0, 44), (0, x3), (2, 261)] _ rfl ?_
  refine w_ic_ne rfl (by decide) (pc' := 283) rfl ⟨h.1, by decide⟩ (fun c79 => ?_) (fun c79 => ?_)
  · have h := h.2.1 c79
    refine zW.go 1 289 [(2, 261), z1, z2, (0, x3)] [(0, 3), (2, 261)] _ rfl ?_
    exact h z1 z2
  · have h := h.2.2 c79
    refine zW.go 2 289 [(2, 261), z1, z2, (0, x3)] [(0, 6), (2, 261)] _ rfl ?_
    exact h z1 z2
set_option maxRecDepth 4000 in
theorem s_m_operand_459 {X : zX} {d : Nat} {rf mem : zF} {Q : Int → zF → Prop} (hR : zall rf zRK = true) {x3 : Int} (h : (inI (mem 261 8)) ∧ (((mem 261 8) ≤ 0 → Cv X d 211 [(2, 261), (0, x3), (0, (mem 261 6))] rf mem (fun mem81 => Cv X d 202 [(2, 261)] rf mem81 (fun mem82 => Q 1 mem82))) ∧ (¬ (mem 261 8) ≤ 0 → Q 1 mem))) : L_m_operand_459 X d rf Q mem x3 := by
  intro z1 z2
  refine zW.go 1 460 [(2, 261), z1, z2, (0, x3)] [(2, 261)] _ rfl ?_
  refine w_getI (q := 261) rfl (by decide) (pc' := 463) rfl ⟨by decide, rfl⟩ rfl (by decide) ?_
  refine w_if_le rfl (by decide) (pc' := 466) rfl h.1 (fun c80 => ?_) (fun c80 => ?_)
  · have h := h.2.1 c80
    refine zW.go 3 471 [(2, 261), z1, z2, (0, x3)] [(2, 261), (0, x3), (2, 261)] _ rfl ?_
    refine w_getI (q := 261) rfl (by decide) (pc' := 474) rfl ⟨by decide, rfl⟩ rfl (by decide) ?_
    refine w_callv (as := [(2, 261), (0, x3), (0, (mem 261 6))]) [] 477 rfl rfl rfl rfl (Nat.le_of_ble_eq_true rfl) (Nat.le_of_ble_eq_true rfl) (Nat.le_of_ble_eq_true rfl) (Or.inr rfl) (Cv.imp h (fun mem81 h => ?_))
    refine zW.go 1 478 [(2, 261), z1, z2, (0, x3)] [(2, 261)] _ rfl ?_
    refine w_callv (as := [(2, 261)]) [] 481 rfl rfl rfl rfl (Nat.le_of_ble_eq_true rfl) (Nat.le_of_ble_eq_true rfl) (Nat.le_of_ble_eq_true rfl) (Or.inr rfl) (Cv.imp h (fun mem82 h => ?_))
    refine zW.go 1 482 [(2, 261), z1, z2, (0, x3)] [(0, 1)] _ rfl ?_
    exact w_retz rfl rfl (by decide) h
  · have h := h.2.2 c80
    refine zW.go 1 467 [(2, 261), z1, z2, (0, x3)] [(0, 1)] _ rfl ?_
    exact w_retz rfl rfl (by decide) h
set_option maxRecDepth 4000 in
theorem s_m_operand_289 {X : zX} {d : Nat} {rf mem : zF} {Q : Int → zF → Prop} (hR : zall rf zRK = true) {x3 : Int} {s1 : Int} (h : Cv X d 216 [(2, 261), (0, s1)] rf mem (fun mem83 => (inI (mem83 261 8)) ∧ ((¬ (mem83 261 8) = 0 → Q 0 mem83) ∧ ((mem83 261 8) = 0 → (0 ≤ ((mem83 261 45) - 1) ∧ ((mem83 261 45) - 1) < 20) ∧ (Q 0 (zup mem83 289 (((mem83 261 45) - 1)).toNat x3)))))) : L_m_operand_289 X d rf Q mem x3 s1 := by
  intro z1 z2
  refine w_callv (as := [(2, 261), (0, s1)]) [] 292 rfl rfl rfl rfl (Nat.le_of_ble_eq_true rfl) (Nat.le_of_ble_eq_true rfl) (Nat.le_of_ble_eq_true rfl) (Or.inr rfl) (Cv.imp h (fun mem83 h => ?_))
  refine zW.go 1 293 [(2, 261), z1, z2, (0, x3)] [(2, 261)] _ rfl ?_
  refine w_getI (q := 261) rfl (by decide) (pc' := 296) rfl ⟨by decide, rfl⟩ rfl (by decide) ?_
  refine w_if_ne rfl (by decide) (pc' := 299) rfl h.1 (fun c84 => ?_) (fun c84 => ?_)
  · have h := h.2.1 c84
    refine zW.go 1 312 [(2, 261), z1, z2, (0, x3)] [(0, 0)] _ rfl ?_
    exact w_retz rfl rfl (by decide) h
  · have h := h.2.2 c84
    refine zW.go 1 300 [(2, 261), z1, z2, (0, x3)] [(2, 261)] _ rfl ?_
    refine w_getL (q := 261) (v := 289) rfl (by decide) (pc' := 303) rfl ⟨by decide, rfl⟩ rfl rfl (zall_at hR (by decide)) ?_
    refine zW.go 1 304 [(2, 261), z1, z2, (0, x3)] [(2, 261), (2, 289)] _ rfl ?_
    refine w_getI (q := 261) rfl (by decide) (pc' := 307) rfl ⟨by decide, rfl⟩ rfl (by decide) ?_
    refine zW.go 3 310 [(2, 261), z1, z2, (0, x3)] [(0, x3), (0, ((mem83 261 45) - 1)), (2, 289)] _ rfl ?_
    obtain ⟨g, h⟩ := h
    refine w_iast (q := 289) rfl (by decide) (pc' := 311) rfl ⟨by decide, rfl⟩ rfl g rfl ?_
    refine zW.go 1 312 [(2, 261), z1, z2, (0, x3)] [(0, 0)] _ rfl ?_
    exact w_retz rfl rfl (by decide) h
set_option maxRecDepth 4000 in
theorem s_m_operand {X : zX} {d : Nat} {rf mem : zF} {Q : Int → zF → Prop} (hR : zall rf zRK = true) (h : Cv X d 201 [(2, 261)] rf mem (fun mem1 => (inI (mem1 261 8)) ∧ (((mem1 261 8) ≤ 0 → (0 ≤ ((mem1 261 45) - 1) ∧ ((mem1 261 45) - 1) < 20) ∧ (Ci X d 217 [(0, (mem1 286 (((mem1 261 45) - 1)).toNat))] rf mem1 (fun r3 mem4 => (inI r3) ∧ ((r3 = 0 → L_m_operand_46 X d rf Q mem4 ((mem1 261 45) - 1) 0) ∧ (¬ r3 = 0 → (0 ≤ ((mem1 261 45) - 1) ∧ ((mem1 261 45) - 1) < 20) ∧ ((inI (mem4 288 (((mem1 261 45) - 1)).toNat)) ∧ (((mem4 288 (((mem1 261 45) - 1)).toNat) = 0 → L_m_operand_46 X d rf Q mem4 ((mem1 261 45) - 1) 0) ∧ (¬ (mem4 288 (((mem1 261 45) - 1)).toNat) = 0 → L_m_operand_46 X d rf Q mem4 ((mem1 261 45) - 1) 1)))))))) ∧ (¬ (mem1 261 8) ≤ 0 → Q 1 mem1)))) : Ci X (d + 1) 218 [(2, 261)] rf mem Q := by
  show zW X (d + 1) 218 0 [(2, 261), (9, 0), (9, 0), (9, 0)] [] (zty, rf, mem) (qi rf Q)
  refine zW.go 1 1 [(2, 261), (9, 0), (9, 0), (9, 0)] [(2, 261)] _ rfl ?_
  refine w_callv (as := [(2, 261)]) [] 4 rfl rfl rfl rfl (Nat.le_of_ble_eq_true rfl) (Nat.le_of_ble_eq_true rfl) (Nat.le_of_ble_eq_true rfl) (Or.inr rfl) (Cv.imp h (fun mem1 h => ?_))
  refine zW.go 1 5 [(2, 261), (9, 0), (9, 0), (9, 0)] [(2, 261)] _ rfl ?_
  refine w_getI (q := 261) rfl (by decide) (pc' := 8) rfl ⟨by decide, rfl⟩ rfl (by decide) ?_
  refine w_if_le rfl (by decide) (pc' := 11) rfl h.1 (fun c2 => ?_) (fun c2 => ?_)
  · have h := h.2.1 c2
    refine zW.go 1 14 [(2, 261), (9, 0), (9, 0), (9, 0)] [(2, 261)] _ rfl ?_
    refine w_getI (q := 261) rfl (by decide) (pc' := 17) rfl ⟨by decide, rfl⟩ rfl (by decide) ?_
    refine zW.go 4 21 [(2, 261), (0, ((mem1 261 45) - 1)), (9, 0), (9, 0)] [(2, 261)] _ rfl ?_
    refine w_getL (q := 261) (v := 286) rfl (by decide) (pc' := 24) rfl ⟨by decide, rfl⟩ rfl rfl (zall_at hR (by decide)) ?_
    refine zW.go 1 25 [(2, 261), (0, ((mem1 261 45) - 1)), (9, 0), (9, 0)] [(0, ((mem1 261 45) - 1)), (2, 286)] _ rfl ?_
    obtain ⟨g, h⟩ := h
    refine w_iald (q := 286) rfl (by decide) (pc' := 26) rfl ⟨by decide, rfl⟩ rfl g rfl ?_
    refine w_calli (as := [(0, (mem1 286 (((mem1 261 45) - 1)).toNat))]) [] 29 rfl rfl rfl rfl (Nat.le_of_ble_eq_true rfl) (Nat.le_of_ble_eq_true rfl) (Nat.le_of_ble_eq_true rfl) (Or.inl rfl) (Ci.imp h (fun r3 mem4 h => ?_))
    refine w_if_eq rfl (by decide) (pc' := 32) rfl h.1 (fun c5 => ?_) (fun c5 => ?_)
    · have h := h.2.1 c5
      refine zW.go 1 46 [(2, 261), (0, ((mem1 261 45) - 1)), (9, 0), (9, 0)] [(0, 0)] _ rfl ?_
      exact h (9, 0) (9, 0)
    · have h := h.2.2 c5
      refine zW.go 1 33 [(2, 261), (0, ((mem1 261 45) - 1)), (9, 0), (9, 0)] [(2, 261)] _ rfl ?_
      refine w_getL (q := 261) (v := 288) rfl (by decide) (pc' := 36) rfl ⟨by decide, rfl⟩ rfl rfl (zall_at hR (by decide)) ?_
      refine zW.go 1 37 [(2, 261), (0, ((mem1 261 45) - 1)), (9, 0), (9, 0)] [(0, ((mem1 261 45) - 1)), (2, 288)] _ rfl ?_
      obtain ⟨g, h⟩ := h
      refine w_zald (q := 288) rfl (by decide) (pc' := 38) rfl ⟨by decide, rfl⟩ rfl g rfl ?_
      refine w_if_eq rfl (by decide) (pc' := 41) rfl h.1 (fun c6 => ?_) (fun c6 => ?_)
      · have h := h.2.1 c6
        refine zW.go 1 46 [(2, 261), (0, ((mem1 261 45) - 1)), (9, 0), (9, 0)] [(0, 0)] _ rfl ?_
        exact h (9, 0) (9, 0)
      · have h := h.2.2 c6
        refine zW.go 2 46 [(2, 261), (0, ((mem1 261 45) - 1)), (9, 0), (9, 0)] [(0, 1)] _ rfl ?_
        exact h (9, 0) (9, 0)
  · have h := h.2.2 c2
    refine zW.go 1 12 [(2, 261), (9, 0), (9, 0), (9, 0)] [(0, 1)] _ rfl ?_
    exact w_retz rfl rfl (by decide) h
def L_m_goesOn_188 (X : zX) (d : Nat) (rf : zF) (Q : Int → zF → Prop) (mem : zF) (x1 : Int) (x2 : Int) (x3 : Int) : Prop := ∀ z4 : zV, zW X (d + 1) 219 188 [(2, 261), (0, x1), (0, x2), (0, x3), z4] [] (zty, rf, mem) (qi rf Q)
def L_m_goesOn_87 (X : zX) (d : Nat) (rf : zF) (Q : Int → zF → Prop) (mem : zF) : Prop := ∀ z1 : zV, ∀ z2 : zV, ∀ z3 : zV, ∀ z4 : zV, zW X (d + 1) 219 87 [(2, 261), z1, z2, z3, z4] [] (zty, rf, mem) (qi rf Q)
def L_m_goesOn_285 (X : zX) (d : Nat) (rf : zF) (Q : Int → zF → Prop) (mem : zF) (x1 : Int) (x2 : Int) (x3 : Int) : Prop := ∀ z4 : zV, zW X (d + 1) 219 285 [(2, 261), (0, x1), (0, x2), (0, x3), z4] [] (zty, rf, mem) (qi rf Q)
def L_m_goesOn_228 (X : zX) (d : Nat) (rf : zF) (Q : Int → zF → Prop) (mem : zF) (x1 : Int) : Prop := ∀ z2 : zV, ∀ z3 : zV, ∀ z4 : zV, zW X (d + 1) 219 228 [(2, 261), (0, x1), z2, z3, z4] [] (zty, rf, mem) (qi rf Q)
def L_m_goesOn_112 (X : zX) (d : Nat) (rf : zF) (Q : Int → zF → Prop) (mem : zF) (s1 : Int) : Prop := ∀ z1 : zV, ∀ z2 : zV, ∀ z3 : zV, ∀ z4 : zV, zW X (d + 1) 219 112 [(2, 261), z1, z2, z3, z4] [(0, s1), (2, 261)] (zty, rf, mem) (qi rf Q)
def L_m_goesOn_400 (X : zX) (d : Nat) (rf : zF) (Q : Int → zF → Prop) (mem : zF) (x1 : Int) (x2 : Int) (x3 : Int) : Prop := ∀ z4 : zV, zW X (d + 1) 219 400 [(2, 261), (0, x1), (0, x2), (0, x3), z4] [] (zty, rf, mem) (qi rf Q)
def L_m_goesOn_309 (X : zX) (d : Nat) (rf : zF) (Q : Int → zF → Prop) (mem : zF) (x1 : Int) : Prop := ∀ z2 : zV, ∀ z3 : zV, z3.1 ≠ 1 → ∀ z4 : zV, zW X (d + 1) 219 309 [(2, 261), (0, x1), z2, z3, z4] [] (zty, rf, mem) (qi rf Q)
def L_m_goesOn_264 (X : zX) (d : Nat) (rf : zF) (Q : Int → zF → Prop) (mem : zF) (x1 : Int) (s1 : Int) : Prop := ∀ z2 : zV, ∀ z3 : zV, ∀ z4 : zV, zW X (d + 1) 219 264 [(2, 261), (0, x1), z2, z3, z4] [(0, s1), (2, 261)] (zty, rf, mem) (qi rf Q)
def L_m_goesOn_174 (X : zX) (d : Nat) (rf : zF) (Q : Int → zF → Prop) (mem : zF) (s1 : Int) : Prop := ∀ z1 : zV, ∀ z2 : zV, ∀ z3 : zV, ∀ z4 : zV, zW X (d + 1) 219 174 [(2, 261), z1, z2, z3, z4] [(0, s1), (2, 261)] (zty, rf, mem) (qi rf Q)
def L_m_goesOn_422 (X : zX) (d : Nat) (rf : zF) (Q : Int → zF → Prop) (mem : zF) (x1 : Int) (x2 : Int) : Prop := ∀ z3 : zV, ∀ z4 : zV, zW X (d + 1) 219 422 [(2, 261), (0, x1), (0, x2), z3, z4] [] (zty, rf, mem) (qi rf Q)
def L_m_goesOn_327 (X : zX) (d : Nat) (rf : zF) (Q : Int → zF → Prop) (mem : zF) (x1 : Int) : Prop := ∀ z2 : zV, ∀ z3 : zV, z3.1 ≠ 1 → ∀ z4 : zV, zW X (d + 1) 219 327 [(2, 261), (0, x1), z2, z3, z4] [] (zty, rf, mem) (qi rf Q)
def L_m_goesOn_452 (X : zX) (d : Nat) (rf : zF) (Q : Int → zF → Prop) (mem : zF) (x1 : Int) (x2 : Int) : Prop := ∀ z3 : zV, ∀ z4 : zV, zW X (d + 1) 219 452 [(2, 261), (0, x1), (0, x2), z3, z4] [] (zty, rf, mem) (qi rf Q)
def L_m_goesOn_531 (X : zX) (d : Nat) (rf : zF) (Q : Int → zF → Prop) (mem : zF) (x1 : Int) (x2 : Int) (s1 : Int) : Prop := ∀ z3 : zV, ∀ z4 : zV, zW X (d + 1) 219 531 [(2, 261), (0, x1), (0, x2), z3, z4] [(0, s1), (2, 261)] (zty, rf, mem) (qi rf Q)
def L_m_goesOn_356 (X : zX) (d : Nat) (rf : zF) (Q : Int → zF → Prop) (mem : zF) (x1 : Int) (x4 : Int) (s1 : Int) : Prop := ∀ z2 : zV, ∀ z3 : zV, zW X (d + 1) 219 356 [(2, 261), (0, x1), z2, z3, (0, x4)] [(0, s1), (2, 261)] (zty, rf, mem) (qi rf Q)
def L_m_goesOn_470 (X : zX) (d : Nat) (rf : zF) (Q : Int → zF → Prop) (mem : zF) (x1 : Int) (x2 : Int) : Prop := ∀ z3 : zV, ∀ z4 : zV, zW X (d + 1) 219 470 [(2, 261), (0, x1), (0, x2), z3, z4] [] (zty, rf, mem) (qi rf Q)
def L_m_goesOn_546 (X : zX) (d : Nat) (rf : zF) (Q : Int → zF → Prop) (mem : zF) (x1 : Int) (x2 : Int) : Prop := ∀ z3 : zV, ∀ z4 : zV, zW X (d + 1) 219 546 [(2, 261), (0, x1), (0, x2), z3, z4] [] (zty, rf, mem) (qi rf Q)
def L_m_goesOn_372 (X : zX) (d : Nat) (rf : zF) (Q : Int → zF → Prop) (mem : zF) (x1 : Int) (s1 : Int) : Prop := ∀ z2 : zV, ∀ z3 : zV, ∀ z4 : zV, zW X (d + 1) 219 372 [(2, 261), (0, x1), z2, z3, z4] [(0, s1), (2, 261)] (zty, rf, mem) (qi rf Q)
def L_m_goesOn_499 (X : zX) (d : Nat) (rf : zF) (Q : Int → zF → Prop) (mem : zF) (x1 : Int) (s1 : Int) (s2 : Int) : Prop := ∀ z2 : zV, ∀ z3 : zV, ∀ z4 : zV, zW X (d + 1) 219 499 [(2, 261), (0, x1), z2, z3, z4] [(0, s2), (0, s1), (2, 286)] (zty, rf, mem) (qi rf Q)
def L_m_goesOn_596 (X : zX) (d : Nat) (rf : zF) (Q : Int → zF → Prop) (mem : zF) (x2 : Int) : Prop := ∀ z1 : zV, ∀ z3 : zV, ∀ z4 : zV, zW X (d + 1) 219 596 [(2, 261), z1, (0, x2), z3, z4] [] (zty, rf, mem) (qi rf Q)
set_option maxRecDepth 4000 in
theorem s_m_goesOn_188 {X : zX} {d : Nat} {rf mem : zF} {Q : Int → zF → Prop} (hR : zall rf zRK = true) {x1 : Int} {x2 : Int} {x3 : Int} (h : (inI x3) ∧ ((x3 = 0 → L_m_goesOn_285 X d rf Q mem x1 x2 x3) ∧ (¬ x3 = 0 → (0 ≤ x1 ∧ x1 < 20) ∧ ((inI (mem 287 (x1).toNat)) ∧ ((¬ (mem 287 (x1).toNat) = 0 → L_m_goesOn_285 X d rf Q mem x1 x2 x3) ∧ ((mem 287 (x1).toNat) = 0 → Ci X d 203 [(2, 261), (0, 60)] rf mem (fun r23 mem24 => (inI r23) ∧ ((¬ r23 = 0 → L_m_goesOn_228 X d rf Q mem24 x1) ∧ (r23 = 0 → Ci X d 203 [(2, 261), (0, 62)] rf mem24 (fun r26 mem27 => (inI r26) ∧ ((¬ r26 = 0 → L_m_goesOn_228 X d rf Q mem27 x1) ∧ (r26 = 0 → Ci X d 203 [(2, 261), (0, 61)] rf mem27 (fun r29 mem30 => (inI r29) ∧ ((r29 = 0 → L_m_goesOn_285 X d rf Q mem30 x1 x2 x3) ∧ (¬ r29 = 0 → L_m_goesOn_228 X d rf Q mem30 x1))))))))))))))) : L_m_goesOn_188 X d rf Q mem x1 x2 x3 := by
  intro z4
  refine zW.go 1 189 [(2, 261), (0, x1), (0, x2), (0, x3), z4] [(0, x3)] _ rfl ?_
  refine w_if_eq rfl (by decide) (pc' := 192) rfl h.1 (fun c21 => ?_) (fun c21 => ?_)
  · have h := h.2.1 c21
    exact h z4
  · have h := h.2.2 c21
    refine zW.go 1 193 [(2, 261), (0, x1), (0, x2), (0, x3), z4] [(2, 261)] _ rfl ?_
    refine w_getL (q := 261) (v := 287) rfl (by decide) (pc' := 196) rfl ⟨by decide, rfl⟩ rfl rfl (zall_at hR (by decide)) ?_
    refine zW.go 1 197 [(2, 261), (0, x1), (0, x2), (0, x3), z4] [(0, x1), (2, 287)] _ rfl ?_
    obtain ⟨g, h⟩ := h
    refine w_iald (q := 287) rfl (by decide) (pc' := 198) rfl ⟨by decide, rfl⟩ rfl g rfl ?_
    refine w_if_ne rfl (by decide) (pc' := 201) rfl h.1 (fun c22 => ?_) (fun c22 => ?_)
    · have h := h.2.1 c22
      exact h z4
    · have h := h.2.2 c22
      refine zW.go 2 204 [(2, 261), (0, x1), (0, x2), (0, x3), z4] [(0, 60), (2, 261)] _ rfl ?_
      refine w_calli (as := [(2, 261), (0, 60)]) [] 207 rfl rfl rfl rfl (Nat.le_of_ble_eq_true rfl) (Nat.le_of_ble_eq_true rfl) (Nat.le_of_ble_eq_true rfl) (Or.inr rfl) (Ci.imp h (fun r23 mem24 h => ?_))
      refine w_if_ne rfl (by decide) (pc' := 210) rfl h.1 (fun c25 => ?_) (fun c25 => ?_)
      · have h := h.2.1 c25
        exact h (0, x2) (0, x3) z4
      · have h := h.2.2 c25
        refine zW.go 2 213 [(2, 261), (0, x1), (0, x2), (0, x3), z4] [(0, 62), (2, 261)] _ rfl ?_
        refine w_calli (as := [(2, 261), (0, 62)]) [] 216 rfl rfl rfl rfl (Nat.le_of_ble_eq_true rfl) (Nat.le_of_ble_eq_true rfl) (Nat.le_of_ble_eq_true rfl) (Or.inr rfl) (Ci.imp h (fun r26 mem27 h => ?_))
        refine w_if_ne rfl (by decide) (pc' := 219) rfl h.1 (fun c28 => ?_) (fun c28 => ?_)
        · have h := h.2.1 c28
          exact h (0, x2) (0, x3) z4
        · have h := h.2.2 c28
          refine zW.go 2 222 [(2, 261), (0, x1), (0, x2), (0, x3), z4] [(0, 61), (2, 261)] _ rfl ?_
          refine w_calli (as := [(2, 261), (0, 61)]) [] 225 rfl rfl rfl rfl (Nat.le_of_ble_eq_true rfl) (Nat.le_of_ble_eq_true rfl) (Nat.le_of_ble_eq_true rfl) (Or.inr rfl) (Ci.imp h (fun r29 mem30 h => ?_))
          refine w_if_eq rfl (by decide) (pc' := 228) rfl h.1 (fun c31 => ?_) (fun c31 => ?_)
          · have h := h.2.1 c31
            exact h z4
          · have h := h.2.2 c31
            exact h (0, x2) (0, x3) z4
set_option maxRecDepth 4000 in
theorem s_m_goesOn_87 {X : zX} {d : Nat} {rf mem : zF} {Q : Int → zF → Prop} (hR : zall rf zRK = true) (h : Ci X d 203 [(2, 261), (0, 43)] rf mem (fun r32 mem33 => (inI r32) ∧ ((¬ r32 = 0 → L_m_goesOn_112 X d rf Q mem33 5) ∧ (r32 = 0 → Ci X d 203 [(2, 261), (0, 45)] rf mem33 (fun r35 mem36 => (inI r35) ∧ ((r35 = 0 → L_m_goesOn_112 X d rf Q mem36 6) ∧ (¬ r35 = 0 → L_m_goesOn_112 X d rf Q mem36 5))))))) : L_m_goesOn_87 X d rf Q mem := by
  intro z1 z2 z3 z4
  refine zW.go 3 91 [(2, 261), z1, z2, z3, z4] [(0, 43), (2, 261), (2, 261)] _ rfl ?_
  refine w_calli (as := [(2, 261), (0, 43)]) [(2, 261)] 94 rfl rfl rfl rfl (Nat.le_of_ble_eq_true rfl) (Nat.le_of_ble_eq_true rfl) (Nat.le_of_ble_eq_true rfl) (Or.inr rfl) (Ci.imp h (fun r32 mem33 h => ?_))
  refine w_if_ne rfl (by decide) (pc' := 97) rfl h.1 (fun c34 => ?_) (fun c34 => ?_)
  · have h := h.2.1 c34
    refine zW.go 2 112 [(2, 261), z1, z2, z3, z4] [(0, 5), (2, 261)] _ rfl ?_
    exact h z1 z2 z3 z4
  · have h := h.2.2 c34
    refine zW.go 2 100 [(2, 261), z1, z2, z3, z4] [(0, 45), (2, 261), (2, 261)] _ rfl ?_
    refine w_calli (as := [(2, 261), (0, 45)]) [(2, 261)] 103 rfl rfl rfl rfl (Nat.le_of_ble_eq_true rfl) (Nat.le_of_ble_eq_true rfl) (Nat.le_of_ble_eq_true rfl) (Or.inr rfl) (Ci.imp h (fun r35 mem36 h => ?_))
    refine w_if_eq rfl (by decide) (pc' := 106) rfl h.1 (fun c37 => ?_) (fun c37 => ?_)
    · have h := h.2.1 c37
      refine zW.go 1 112 [(2, 261), z1, z2, z3, z4] [(0, 6), (2, 261)] _ rfl ?_
      exact h z1 z2 z3 z4
    · have h := h.2.2 c37
      refine zW.go 2 112 [(2, 261), z1, z2, z3, z4] [(0, 5), (2, 261)] _ rfl ?_
      exact h z1 z2 z3 z4
set_option maxRecDepth 4000 in
theorem s_m_goesOn_285 {X : zX} {d : Nat} {rf mem : zF} {Q : Int → zF → Prop} (hR : zall rf zRK = true) {x1 : Int} {x2 : Int} {x3 : Int} (h : (inI x3) ∧ ((x3 = 0 → L_m_goesOn_400 X d rf Q mem x1 x2 x3) ∧ (¬ x3 = 0 → Ci X d 204 [(2, 261), (1, 6385252)] rf mem (fun r39 mem40 => (inI r39) ∧ ((¬ r39 = 0 → L_m_goesOn_309 X d rf Q mem40 x1) ∧ (r39 = 0 → Ci X d 204 [(2, 261), (1, 28530)] rf mem40 (fun r42 mem43 => (inI r42) ∧ ((r42 = 0 → L_m_goesOn_400 X d rf Q mem43 x1 x2 x3) ∧ (¬ r42 = 0 → L_m_goesOn_309 X d rf Q mem43 x1))))))))) : L_m_goesOn_285 X d rf Q mem x1 x2 x3 := by
  intro z4
  refine zW.go 1 286 [(2, 261), (0, x1), (0, x2), (0, x3), z4] [(0, x3)] _ rfl ?_
  refine w_if_eq rfl (by decide) (pc' := 289) rfl h.1 (fun c38 => ?_) (fun c38 => ?_)
  · have h := h.2.1 c38
    exact h z4
  · have h := h.2.2 c38
    refine zW.go 2 293 [(2, 261), (0, x1), (0, x2), (0, x3), z4] [(1, 6385252), (2, 261)] _ rfl ?_
    refine w_calli (as := [(2, 261), (1, 6385252)]) [] 296 rfl rfl rfl rfl (Nat.le_of_ble_eq_true rfl) (Nat.le_of_ble_eq_true rfl) (Nat.le_of_ble_eq_true rfl) (Or.inr rfl) (Ci.imp h (fun r39 mem40 h => ?_))
    refine w_if_ne rfl (by decide) (pc' := 299) rfl h.1 (fun c41 => ?_) (fun c41 => ?_)
    · have h := h.2.1 c41
      exact h (0, x2) (0, x3) (by show (0 : Nat) ≠ 1; decide) z4
    · have h := h.2.2 c41
      refine zW.go 2 303 [(2, 261), (0, x1), (0, x2), (0, x3), z4] [(1, 28530), (2, 261)] _ rfl ?_
      refine w_calli (as := [(2, 261), (1, 28530)]) [] 306 rfl rfl rfl rfl (Nat.le_of_ble_eq_true rfl) (Nat.le_of_ble_eq_true rfl) (Nat.le_of_ble_eq_true rfl) (Or.inr rfl) (Ci.imp h (fun r42 mem43 h => ?_))
      refine w_if_eq rfl (by decide) (pc' := 309) rfl h.1 (fun c44 => ?_) (fun c44 => ?_)
      · have h := h.2.1 c44
        exact h z4
      · have h := h.2.2 c44
        exact h (0, x2) (0, x3) (by show (0 : Nat) ≠ 1; decide) z4
set_option maxRecDepth 4000 in
theorem s_m_goesOn_228 {X : zX} {d : Nat} {rf mem : zF} {Q : Int → zF → Prop} (hR : zall rf zRK = true) {x1 : Int} (h : Cv X d 213 [(2, 261), (0, 5)] rf mem (fun mem45 => Ci X d 203 [(2, 261), (0, 60)] rf mem45 (fun r46 mem47 => (inI r46) ∧ ((r46 = 0 → Ci X d 203 [(2, 261), (0, 62)] rf mem47 (fun r49 mem50 => (inI r49) ∧ ((r49 = 0 → L_m_goesOn_264 X d rf Q mem50 x1 40) ∧ (¬ r49 = 0 → L_m_goesOn_264 X d rf Q mem50 x1 39)))) ∧ (¬ r46 = 0 → L_m_goesOn_264 X d rf Q mem47 x1 38))))) : L_m_goesOn_228 X d rf Q mem x1 := by
  intro z2 z3 z4
  refine zW.go 2 230 [(2, 261), (0, x1), z2, z3, z4] [(0, 5), (2, 261)] _ rfl ?_
  refine w_callv (as := [(2, 261), (0, 5)]) [] 233 rfl rfl rfl rfl (Nat.le_of_ble_eq_true rfl) (Nat.le_of_ble_eq_true rfl) (Nat.le_of_ble_eq_true rfl) (Or.inr rfl) (Cv.imp h (fun mem45 h => ?_))
  refine zW.go 3 237 [(2, 261), (0, x1), z2, z3, z4] [(0, 60), (2, 261), (2, 261)] _ rfl ?_
  refine w_calli (as := [(2, 261), (0, 60)]) [(2, 261)] 240 rfl rfl rfl rfl (Nat.le_of_ble_eq_true rfl) (Nat.le_of_ble_eq_true rfl) (Nat.le_of_ble_eq_true rfl) (Or.inr rfl) (Ci.imp h (fun r46 mem47 h => ?_))
  refine w_if_eq rfl (by decide) (pc' := 243) rfl h.1 (fun c48 => ?_) (fun c48 => ?_)
  · have h := h.2.1 c48
    refine zW.go 2 251 [(2, 261), (0, x1), z2, z3, z4] [(0, 62), (2, 261), (2, 261)] _ rfl ?_
    refine w_calli (as := [(2, 261), (0, 62)]) [(2, 261)] 254 rfl rfl rfl rfl (Nat.le_of_ble_eq_true rfl) (Nat.le_of_ble_eq_true rfl) (Nat.le_of_ble_eq_true rfl) (Or.inr rfl) (Ci.imp h (fun r49 mem50 h => ?_))
    refine w_if_eq rfl (by decide) (pc' := 257) rfl h.1 (fun c51 => ?_) (fun c51 => ?_)
    · have h := h.2.1 c51
      refine zW.go 1 264 [(2, 261), (0, x1), z2, z3, z4] [(0, 40), (2, 261)] _ rfl ?_
      exact h z2 z3 z4
    · have h := h.2.2 c51
      refine zW.go 2 264 [(2, 261), (0, x1), z2, z3, z4] [(0, 39), (2, 261)] _ rfl ?_
      exact h z2 z3 z4
  · have h := h.2.2 c48
    refine zW.go 2 264 [(2, 261), (0, x1), z2, z3, z4] [(0, 38), (2, 261)] _ rfl ?_
    exact h z2 z3 z4
set_option maxRecDepth 4000 in
theorem s_m_goesOn_112 {X : zX} {d : Nat} {rf mem : zF} {Q : Int → zF → Prop} (hR : zall rf zRK = true) {s1 : Int} (h : Cv X d 213 [(2, 261), (0, s1)] rf mem (fun mem52 => Ci X d 203 [(2, 261), (0, 43)] rf mem52 (fun r53 mem54 => (inI r53) ∧ ((r53 = 0 → Ci X d 203 [(2, 261), (0, 45)] rf mem54 (fun r56 mem57 => (inI r56) ∧ ((r56 = 0 → Ci X d 203 [(2, 261), (0, 42)] rf mem57 (fun r59 mem60 => (inI r59) ∧ ((r59 = 0 → Ci X d 203 [(2, 261), (0, 47)] rf mem60 (fun r62 mem63 => (inI r62) ∧ ((r62 = 0 → L_m_goesOn_174 X d rf Q mem63 35) ∧ (¬ r62 = 0 → L_m_goesOn_174 X d rf Q mem63 34)))) ∧ (¬ r59 = 0 → L_m_goesOn_174 X d rf Q mem60 33)))) ∧ (¬ r56 = 0 → L_m_goesOn_174 X d rf Q mem57 32)))) ∧ (¬ r53 = 0 → L_m_goesOn_174 X d rf Q mem54 31))))) : L_m_goesOn_112 X d rf Q mem s1 := by
  intro z1 z2 z3 z4
  refine w_callv (as := [(2, 261), (0, s1)]) [] 115 rfl rfl rfl rfl (Nat.le_of_ble_eq_true rfl) (Nat.le_of_ble_eq_true rfl) (Nat.le_of_ble_eq_true rfl) (Or.inr rfl) (Cv.imp h (fun mem52 h => ?_))
  refine zW.go 3 119 [(2, 261), z1, z2, z3, z4] [(0, 43), (2, 261), (2, 261)] _ rfl ?_
  refine w_calli (as := [(2, 261), (0, 43)]) [(2, 261)] 122 rfl rfl rfl rfl (Nat.le_of_ble_eq_true rfl) (Nat.le_of_ble_eq_true rfl) (Nat.le_of_ble_eq_true rfl) (Or.inr rfl) (Ci.imp h (fun r53 mem54 h => ?_))
  refine w_if_eq rfl (by decide) (pc' := 125) rfl h.1 (fun c55 => ?_) (fun c55 => ?_)
  · have h := h.2.1 c55
    refine zW.go 2 133 [(2, 261), z1, z2, z3, z4] [(0, 45), (2, 261), (2, 261)] _ rfl ?_
    refine w_calli (as := [(2, 261), (0, 45)]) [(2, 261)] 136 rfl rfl rfl rfl (Nat.le_of_ble_eq_true rfl) (Nat.le_of_ble_eq_true rfl) (Nat.le_of_ble_eq_true rfl) (Or.inr rfl) (Ci.imp h (fun r56 mem57 h => ?_))
    refine w_if_eq rfl (by decide) (pc' := 139) rfl h.1 (fun c58 => ?_) (fun c58 => ?_)
    · have h := h.2.1 c58
      refine zW.go 2 147 [(2, 261), z1, z2, z3, z4] [(0, 42), (2, 261), (2, 261)] _ rfl ?_
      refine w_calli (as := [(2, 261), (0, 42)]) [(2, 261)] 150 rfl rfl rfl rfl (Nat.le_of_ble_eq_true rfl) (Nat.le_of_ble_eq_true rfl) (Nat.le_of_ble_eq_true rfl) (Or.inr rfl) (Ci.imp h (fun r59 mem60 h => ?_))
      refine w_if_eq rfl (by decide) (pc' := 153) rfl h.1 (fun c61 => ?_) (fun c61 => ?_)
      · have h := h.2.1 c61
        refine zW.go 2 161 [(2, 261), z1, z2, z3, z4] [(0, 47), (2, 261), (2, 261)] _ rfl ?_
        refine w_calli (as := [(2, 261), (0, 47)]) [(2, 261)] 164 rfl rfl rfl rfl (Nat.le_of_ble_eq_true rfl) (Nat.le_of_ble_eq_true rfl) (Nat.le_of_ble_eq_true rfl) (Or.inr rfl) (Ci.imp h (fun r62 mem63 h => ?_))
        refine w_if_eq rfl (by decide) (pc' := 167) rfl h.1 (fun c64 => ?_) (fun c64 => ?_)
        · have h := h.2.1 c64
          refine zW.go 1 174 [(2, 261), z1, z2, z3, z4] [(0, 35), (2, 261)] _ rfl ?_
          exact h z1 z2 z3 z4
        · have h := h.2.2 c64
          refine zW.go 2 174 [(2, 261), z1, z2, z3, z4] [(0, 34), (2, 261)] _ rfl ?_
          exact h z1 z2 z3 z4
      · have h := h.2.2 c61
        refine zW.go 2 174 [(2, 261), z1, z2, z3, z4] [(0, 33), (2, 261)] _ rfl ?_
        exact h z1 z2 z3 z4
    · have h := h.2.2 c58
      refine zW.go 2 174 [(2, 261), z1, z2, z3, z4] [(0, 32), (2, 261)] _ rfl ?_
      exact h z1 z2 z3 z4
  · have h := h.2.2 c55
    refine zW.go 2 174 [(2, 261), z1, z2, z3, z4] [(0, 31), (2, 261)] _ rfl ?_
    exact h z1 z2 z3 z4
set_option maxRecDepth 4000 in
theorem s_m_goesOn_400 {X : zX} {d : Nat} {rf mem : zF} {Q : Int → zF → Prop} (hR : zall rf zRK = true) {x1 : Int} {x2 : Int} {x3 : Int} (h : (inI x3) ∧ ((x3 = 0 → L_m_goesOn_422 X d rf Q mem x1 x2) ∧ (¬ x3 = 0 → (0 ≤ x1 ∧ x1 < 20) ∧ ((inI (mem 287 (x1).toNat)) ∧ ((¬ (mem 287 (x1).toNat) = 0 → L_m_goesOn_422 X d rf Q mem x1 x2) ∧ ((mem 287 (x1).toNat) = 0 → Cv X d 198 [(2, 261), (0, 1), (0, (mem 261 4))] rf mem (fun mem67 => L_m_goesOn_422 X d rf Q mem67 x1 x2))))))) : L_m_goesOn_400 X d rf Q mem x1 x2 x3 := by
  intro z4
  refine zW.go 1 401 [(2, 261), (0, x1), (0, x2), (0, x3), z4] [(0, x3)] _ rfl ?_
  refine w_if_eq rfl (by decide) (pc' := 404) rfl h.1 (fun c65 => ?_) (fun c65 => ?_)
  · have h := h.2.1 c65
    exact h (0, x3) z4
  · have h := h.2.2 c65
    refine zW.go 1 405 [(2, 261), (0, x1), (0, x2), (0, x3), z4] [(2, 261)] _ rfl ?_
    refine w_getL (q := 261) (v := 287) rfl (by decide) (pc' := 408) rfl ⟨by decide, rfl⟩ rfl rfl (zall_at hR (by decide)) ?_
    refine zW.go 1 409 [(2, 261), (0, x1), (0, x2), (0, x3), z4] [(0, x1), (2, 287)] _ rfl ?_
    obtain ⟨g, h⟩ := h
    refine w_iald (q := 287) rfl (by decide) (pc' := 410) rfl ⟨by decide, rfl⟩ rfl g rfl ?_
    refine w_if_ne rfl (by decide) (pc' := 413) rfl h.1 (fun c66 => ?_) (fun c66 => ?_)
    · have h := h.2.1 c66
      exact h (0, x3) z4
    · have h := h.2.2 c66
      refine zW.go 3 416 [(2, 261), (0, x1), (0, x2), (0, x3), z4] [(2, 261), (0, 1), (2, 261)] _ rfl ?_
      refine w_getI (q := 261) rfl (by decide) (pc' := 419) rfl ⟨by decide, rfl⟩ rfl (by decide) ?_
      refine w_callv (as := [(2, 261), (0, 1), (0, (mem 261 4))]) [] 422 rfl rfl rfl rfl (Nat.le_of_ble_eq_true rfl) (Nat.le_of_ble_eq_true rfl) (Nat.le_of_ble_eq_true rfl) (Or.inr rfl) (Cv.imp h (fun mem67 h => ?_))
      exact h (0, x3) z4
set_option maxRecDepth 4000 in
theorem s_m_goesOn_309 {X : zX} {d : Nat} {rf mem : zF} {Q : Int → zF → Prop} (hR : zall rf zRK = true) {x1 : Int} (h : (0 ≤ x1 ∧ x1 < 20) ∧ ((inI (mem 287 (x1).toNat)) ∧ ((¬ (mem 287 (x1).toNat) = 0 → L_m_goesOn_327 X d rf Q mem x1) ∧ ((mem 287 (x1).toNat) = 0 → Cv X d 198 [(2, 261), (0, 1), (0, (mem 261 4))] rf mem (fun mem69 => L_m_goesOn_327 X d rf Q mem69 x1))))) : L_m_goesOn_309 X d rf Q mem x1 := by
  intro z2 z3 hz3 z4
  refine zW.go 1 310 [(2, 261), (0, x1), z2, z3, z4] [(2, 261)] _ rfl ?_
  refine w_getL (q := 261) (v := 287) rfl (by decide) (pc' := 313) rfl ⟨by decide, rfl⟩ rfl rfl (zall_at hR (by decide)) ?_
  refine zW.go 1 314 [(2, 261), (0, x1), z2, z3, z4] [(0, x1), (2, 287)] _ rfl ?_
  obtain ⟨g, h⟩ := h
  refine w_iald (q := 287) rfl (by decide) (pc' := 315) rfl ⟨by decide, rfl⟩ rfl g rfl ?_
  refine w_if_ne rfl (by decide) (pc' := 318) rfl h.1 (fun c68 => ?_) (fun c68 => ?_)
  · have h := h.2.1 c68
    exact h z2 z3 hz3 z4
  · have h := h.2.2 c68
    refine zW.go 3 321 [(2, 261), (0, x1), z2, z3, z4] [(2, 261), (0, 1), (2, 261)] _ rfl ?_
    refine w_getI (q := 261) rfl (by decide) (pc' := 324) rfl ⟨by decide, rfl⟩ rfl (by decide) ?_
    refine w_callv (as := [(2, 261), (0, 1), (0, (mem 261 4))]) [] 327 rfl rfl rfl rfl (Nat.le_of_ble_eq_true rfl) (Nat.le_of_ble_eq_true rfl) (Nat.le_of_ble_eq_true rfl) (Or.inr rfl) (Cv.imp h (fun mem69 h => ?_))
    exact h z2 z3 hz3 z4
set_option maxRecDepth 4000 in
theorem s_m_goesOn_264 {X : zX} {d : Nat} {rf mem : zF} {Q : Int → zF → Prop} (hR : zall rf zRK = true) {x1 : Int} {s1 : Int} (h : Cv X d 214 [(2, 261), (0, s1)] rf mem (fun mem70 => (0 ≤ x1 ∧ x1 < 20) ∧ (Cv X d 202 [(2, 261)] rf (zup mem70 287 (x1).toNat 1) (fun mem71 => Q 1 (zup mem71 261 49 0))))) : L_m_goesOn_264 X d rf Q mem x1 s1 := by
  intro z2 z3 z4
  refine w_callv (as := [(2, 261), (0, s1)]) [] 267 rfl rfl rfl rfl (Nat.le_of_ble_eq_true rfl) (Nat.le_of_ble_eq_true rfl) (Nat.le_of_ble_eq_true rfl) (Or.inr rfl) (Cv.imp h (fun mem70 h => ?_))
  refine zW.go 1 268 [(2, 261), (0, x1), z2, z3, z4] [(2, 261)] _ rfl ?_
  refine w_getL (q := 261) (v := 287) rfl (by decide) (pc' := 271) rfl ⟨by decide, rfl⟩ rfl rfl (zall_at hR (by decide)) ?_
  refine zW.go 2 273 [(2, 261), (0, x1), z2, z3, z4] [(0, 1), (0, x1), (2, 287)] _ rfl ?_
  obtain ⟨g, h⟩ := h
  refine w_iast (q := 287) rfl (by decide) (pc' := 274) rfl ⟨by decide, rfl⟩ rfl g rfl ?_
  refine zW.go 1 275 [(2, 261), (0, x1), z2, z3, z4] [(2, 261)] _ rfl ?_
  refine w_callv (as := [(2, 261)]) [] 278 rfl rfl rfl rfl (Nat.le_of_ble_eq_true rfl) (Nat.le_of_ble_eq_true rfl) (Nat.le_of_ble_eq_true rfl) (Or.inr rfl) (Cv.imp h (fun mem71 h => ?_))
  refine zW.go 2 280 [(2, 261), (0, x1), z2, z3, z4] [(0, 0), (2, 261)] _ rfl ?_
  refine w_putZ (q := 261) rfl (by decide) (pc' := 283) rfl ⟨by decide, rfl⟩ rfl (by decide) (by decide) ?_
  refine zW.go 1 284 [(2, 261), (0, x1), z2, z3, z4] [(0, 1)] _ rfl ?_
  exact w_retz rfl rfl (by decide) h
set_option maxRecDepth 4000 in
theorem s_m_goesOn_174 {X : zX} {d : Nat} {rf mem : zF} {Q : Int → zF → Prop} (hR : zall rf zRK = true) {s1 : Int} (h : Cv X d 214 [(2, 261), (0, s1)] rf mem (fun mem72 => Cv X d 202 [(2, 261)] rf mem72 (fun mem73 => Q 1 (zup mem73 261 49 0)))) : L_m_goesOn_174 X d rf Q mem s1 := by
  intro z1 z2 z3 z4
  refine w_callv (as := [(2, 261), (0, s1)]) [] 177 rfl rfl rfl rfl (Nat.le_of_ble_eq_true rfl) (Nat.le_of_ble_eq_true rfl) (Nat.le_of_ble_eq_true rfl) (Or.inr rfl) (Cv.imp h (fun mem72 h => ?_))
  refine zW.go 1 178 [(2, 261), z1, z2, z3, z4] [(2, 261)] _ rfl ?_
  refine w_callv (as := [(2, 261)]) [] 181 rfl rfl rfl rfl (Nat.le_of_ble_eq_true rfl) (Nat.le_of_ble_eq_true rfl) (Nat.le_of_ble_eq_true rfl) (Or.inr rfl) (Cv.imp h (fun mem73 h => ?_))
  refine zW.go 2 183 [(2, 261), z1, z2, z3, z4] [(0, 0), (2, 261)] _ rfl ?_
  refine w_putZ (q := 261) rfl (by decide) (pc' := 186) rfl ⟨by decide, rfl⟩ rfl (by decide) (by decide) ?_
  refine zW.go 1 187 [(2, 261), z1, z2, z3, z4] [(0, 1)] _ rfl ?_
  exact w_retz rfl rfl (by decide) h
set_option maxRecDepth 4000 in
theorem s_m_goesOn_422 {X : zX} {d : Nat} {rf mem : zF} {Q : Int → zF → Prop} (hR : zall rf zRK = true) {x1 : Int} {x2 : Int} (h : (inI x2) ∧ ((2 ≤ x2 → (inI x2) ∧ ((x2 = 3 → L_m_goesOn_452 X d rf Q mem x1 x2) ∧ (¬ x2 = 3 → (inI x2) ∧ ((¬ x2 = 6 → (inI x2) ∧ ((¬ x2 = 5 → L_m_goesOn_531 X d rf Q mem x1 x2 41) ∧ (x2 = 5 → L_m_goesOn_531 X d rf Q mem x1 x2 93))) ∧ (x2 = 6 → L_m_goesOn_452 X d rf Q mem x1 x2))))) ∧ (¬ 2 ≤ x2 → (inI (mem 261 8)) ∧ ((¬ (mem 261 8) = 0 → Q 0 mem) ∧ ((mem 261 8) = 0 → Cv X d 213 [(2, 261), (0, 1)] rf mem (fun mem79 => Q 0 mem79)))))) : L_m_goesOn_422 X d rf Q mem x1 x2 := by
  intro z3 z4
  refine zW.go 2 424 [(2, 261), (0, x1), (0, x2), z3, z4] [(0, 2), (0, x2)] _ rfl ?_
  refine w_ic_ge rfl (by decide) (pc' := 427) rfl ⟨h.1, by decide⟩ (fun c74 => ?_) (fun c74 => ?_)
  · have h := h.2.1 c74
    refine zW.go 2 443 [(2, 261), (0, x1), (0, x2), z3, z4] [(0, 3), (0, x2)] _ rfl ?_
    refine w_ic_eq rfl (by decide) (pc' := 446) rfl ⟨h.1, by decide⟩ (fun c75 => ?_) (fun c75 => ?_)
    · have h := h.2.1 c75
      exact h z3 z4
    · have h := h.2.2 c75
      refine zW.go 2 449 [(2, 261), (0, x1), (0, x2), z3, z4] [(0, 6), (0, x2)] _ rfl ?_
      refine w_ic_ne rfl (by decide) (pc' := 452) rfl ⟨h.1, by decide⟩ (fun c76 => ?_) (fun c76 => ?_)
      · have h := h.2.1 c76
        refine zW.go 3 521 [(2, 261), (0, x1), (0, x2), z3, z4] [(0, 5), (0, x2), (2, 261)] _ rfl ?_
        refine w_ic_ne rfl (by decide) (pc' := 524) rfl ⟨h.1, by decide⟩ (fun c77 => ?_) (fun c77 => ?_)
        · have h := h.2.1 c77
          refine zW.go 1 531 [(2, 261), (0, x1), (0, x2), z3, z4] [(0, 41), (2, 261)] _ rfl ?_
          exact h z3 z4
        · have h := h.2.2 c77
          refine zW.go 2 531 [(2, 261), (0, x1), (0, x2), z3, z4] [(0, 93), (2, 261)] _ rfl ?_
          exact h z3 z4
      · have h := h.2.2 c76
        exact h z3 z4
  · have h := h.2.2 c74
    refine zW.go 1 428 [(2, 261), (0, x1), (0, x2), z3, z4] [(2, 261)] _ rfl ?_
    refine w_getI (q := 261) rfl (by decide) (pc' := 431) rfl ⟨by decide, rfl⟩ rfl (by decide) ?_
    refine w_if_ne rfl (by decide) (pc' := 434) rfl h.1 (fun c78 => ?_) (fun c78 => ?_)
    · have h := h.2.1 c78
      refine zW.go 1 440 [(2, 261), (0, x1), (0, x2), z3, z4] [(0, 0)] _ rfl ?_
      exact w_retz rfl rfl (by decide) h
    · have h := h.2.2 c78
      refine zW.go 2 436 [(2, 261), (0, x1), (0, x2), z3, z4] [(0, 1), (2, 261)] _ rfl ?_
      refine w_callv (as := [(2, 261), (0, 1)]) [] 439 rfl rfl rfl rfl (Nat.le_of_ble_eq_true rfl) (Nat.le_of_ble_eq_true rfl) (Nat.le_of_ble_eq_true rfl) (Or.inr rfl) (Cv.imp h (fun mem79 h => ?_))
      refine zW.go 1 440 [(2, 261), (0, x1), (0, x2), z3, z4] [(0, 0)] _ rfl ?_
      exact w_retz rfl rfl (by decide) h
set_option maxRecDepth 4000 in
theorem s_m_goesOn_327 {X : zX} {d : Nat} {rf mem : zF} {Q : Int → zF → Prop} (hR : zall rf zRK = true) {x1 : Int} (h : (inI (mem 261 8)) ∧ (((mem 261 8) ≤ 0 → Ci X d 204 [(2, 261), (1, 6385252)] rf mem (fun r81 mem82 => (inI r81) ∧ ((r81 = 0 → L_m_goesOn_356 X d rf Q mem82 x1 r81 1) ∧ (¬ r81 = 0 → L_m_goesOn_356 X d rf Q mem82 x1 r81 2)))) ∧ (¬ (mem 261 8) ≤ 0 → Q 0 mem))) : L_m_goesOn_327 X d rf Q mem x1 := by
  intro z2 z3 hz3 z4
  refine zW.go 1 328 [(2, 261), (0, x1), z2, z3, z4] [(2, 261)] _ rfl ?_
  refine w_getI (q := 261) rfl (by decide) (pc' := 331) rfl ⟨by decide, rfl⟩ rfl (by decide) ?_
  refine w_if_le rfl (by decide) (pc' := 334) rfl h.1 (fun c80 => ?_) (fun c80 => ?_)
  · have h := h.2.1 c80
    refine zW.go 2 340 [(2, 261), (0, x1), z2, z3, z4] [(1, 6385252), (2, 261)] _ rfl ?_
    refine w_calli (as := [(2, 261), (1, 6385252)]) [] 343 rfl rfl rfl rfl (Nat.le_of_ble_eq_true rfl) (Nat.le_of_ble_eq_true rfl) (Nat.le_of_ble_eq_true rfl) (Or.inr rfl) (Ci.imp h (fun r81 mem82 h => ?_))
    refine zW.step 345 [(2, 261), (0, x1), z2, z3, (0, r81)] [] _ rfl (by decide) (by decide) (by show some (_, zst1 [(2, 261), (0, x1), z2, z3, z4] 4 _, _, _) = _; rw [zst1_z (ls := [(2, 261), (0, x1), z2, z3, z4]) (i := 4) hz3]; rfl) ?_
    refine zW.go 2 348 [(2, 261), (0, x1), z2, z3, (0, r81)] [(0, r81), (2, 261)] _ rfl ?_
    refine w_if_eq rfl (by decide) (pc' := 351) rfl h.1 (fun c83 => ?_) (fun c83 => ?_)
    · have h := h.2.1 c83
      refine zW.go 1 356 [(2, 261), (0, x1), z2, z3, (0, r81)] [(0, 1), (2, 261)] _ rfl ?_
      exact h z2 z3
    · have h := h.2.2 c83
      refine zW.go 2 356 [(2, 261), (0, x1), z2, z3, (0, r81)] [(0, 2), (2, 261)] _ rfl ?_
      exact h z2 z3
  · have h := h.2.2 c80
    refine zW.go 1 335 [(2, 261), (0, x1), z2, z3, z4] [(0, 0)] _ rfl ?_
    exact w_retz rfl rfl (by decide) h
set_option maxRecDepth 4000 in
theorem s_m_goesOn_452 {X : zX} {d : Nat} {rf mem : zF} {Q : Int → zF → Prop} (hR : zall rf zRK = true) {x1 : Int} {x2 : Int} (h : Ci X d 203 [(2, 261), (0, 44)] rf mem (fun r84 mem85 => (inI r84) ∧ ((¬ r84 = 0 → L_m_goesOn_470 X d rf Q mem85 x1 x2) ∧ (r84 = 0 → Cv X d 198 [(2, 261), (0, 1), (0, (mem85 261 4))] rf mem85 (fun mem87 => L_m_goesOn_470 X d rf Q mem87 x1 x2))))) : L_m_goesOn_452 X d rf Q mem x1 x2 := by
  intro z3 z4
  refine zW.go 2 455 [(2, 261), (0, x1), (0, x2), z3, z4] [(0, 44), (2, 261)] _ rfl ?_
  refine w_calli (as := [(2, 261), (0, 44)]) [] 458 rfl rfl rfl rfl (Nat.le_of_ble_eq_true rfl) (Nat.le_of_ble_eq_true rfl) (Nat.le_of_ble_eq_true rfl) (Or.inr rfl) (Ci.imp h (fun r84 mem85 h => ?_))
  refine w_if_ne rfl (by decide) (pc' := 461) rfl h.1 (fun c86 => ?_) (fun c86 => ?_)
  · have h := h.2.1 c86
    exact h z3 z4
  · have h := h.2.2 c86
    refine zW.go 3 464 [(2, 261), (0, x1), (0, x2), z3, z4] [(2, 261), (0, 1), (2, 261)] _ rfl ?_
    refine w_getI (q := 261) rfl (by decide) (pc' := 467) rfl ⟨by decide, rfl⟩ rfl (by decide) ?_
    refine w_callv (as := [(2, 261), (0, 1), (0, (mem85 261 4))]) [] 470 rfl rfl rfl rfl (Nat.le_of_ble_eq_true rfl) (Nat.le_of_ble_eq_true rfl) (Nat.le_of_ble_eq_true rfl) (Or.inr rfl) (Cv.imp h (fun mem87 h => ?_))
    exact h z3 z4
set_option maxRecDepth 4000 in
theorem s_m_goesOn_531 {X : zX} {d : Nat} {rf mem : zF} {Q : Int → zF → Prop} (hR : zall rf zRK = true) {x1 : Int} {x2 : Int} {s1 : Int} (h : Ci X d 203 [(2, 261), (0, s1)] rf mem (fun r88 mem89 => (inI r88) ∧ ((¬ r88 = 0 → L_m_goesOn_546 X d rf Q mem89 x1 x2) ∧ (r88 = 0 → Cv X d 198 [(2, 261), (0, 1), (0, (mem89 261 4))] rf mem89 (fun mem91 => L_m_goesOn_546 X d rf Q mem91 x1 x2))))) : L_m_goesOn_531 X d rf Q mem x1 x2 s1 := by
  intro z3 z4
  refine w_calli (as := [(2, 261), (0, s1)]) [] 534 rfl rfl rfl rfl (Nat.le_of_ble_eq_true rfl) (Nat.le_of_ble_eq_true rfl) (Nat.le_of_ble_eq_true rfl) (Or.inr rfl) (Ci.imp h (fun r88 mem89 h => ?_))
  refine w_if_ne rfl (by decide) (pc' := 537) rfl h.1 (fun c90 => ?_) (fun c90 => ?_)
  · have h := h.2.1 c90
    exact h z3 z4
  · have h := h.2.2 c90
    refine zW.go 3 540 [(2, 261), (0, x1), (0, x2), z3, z4] [(2, 261), (0, 1), (2, 261)] _ rfl ?_
    refine w_getI (q := 261) rfl (by decide) (pc' := 543) rfl ⟨by decide, rfl⟩ rfl (by decide) ?_
    refine w_callv (as := [(2, 261), (0, 1), (0, (mem89 261 4))]) [] 546 rfl rfl rfl rfl (Nat.le_of_ble_eq_true rfl) (Nat.le_of_ble_eq_true rfl) (Nat.le_of_ble_eq_true rfl) (Or.inr rfl) (Cv.imp h (fun mem91 h => ?_))
    exact h z3 z4
set_option maxRecDepth 4000 in
theorem s_m_goesOn_356 {X : zX} {d : Nat} {rf mem : zF} {Q : Int → zF → Prop} (hR : zall rf zRK = true) {x1 : Int} {x4 : Int} {s1 : Int} (h : Cv X d 213 [(2, 261), (0, s1)] rf mem (fun mem92 => (inI x4) ∧ ((x4 = 0 → L_m_goesOn_372 X d rf Q mem92 x1 42) ∧ (¬ x4 = 0 → L_m_goesOn_372 X d rf Q mem92 x1 41)))) : L_m_goesOn_356 X d rf Q mem x1 x4 s1 := by
  intro z2 z3
  refine w_callv (as := [(2, 261), (0, s1)]) [] 359 rfl rfl rfl rfl (Nat.le_of_ble_eq_true rfl) (Nat.le_of_ble_eq_true rfl) (Nat.le_of_ble_eq_true rfl) (Or.inr rfl) (Cv.imp h (fun mem92 h => ?_))
  refine zW.go 2 362 [(2, 261), (0, x1), z2, z3, (0, x4)] [(0, x4), (2, 261)] _ rfl ?_
  refine w_if_eq rfl (by decide) (pc' := 365) rfl h.1 (fun c93 => ?_) (fun c93 => ?_)
  · have h := h.2.1 c93
    refine zW.go 1 372 [(2, 261), (0, x1), z2, z3, (0, x4)] [(0, 42), (2, 261)] _ rfl ?_
    exact h z2 z3 (0, x4)
  · have h := h.2.2 c93
    refine zW.go 2 372 [(2, 261), (0, x1), z2, z3, (0, x4)] [(0, 41), (2, 261)] _ rfl ?_
    exact h z2 z3 (0, x4)
set_option maxRecDepth 4000 in
theorem s_m_goesOn_470 {X : zX} {d : Nat} {rf mem : zF} {Q : Int → zF → Prop} (hR : zall rf zRK = true) {x1 : Int} {x2 : Int} (h : (inI (mem 261 8)) ∧ (((mem 261 8) ≤ 0 → Cv X d 213 [(2, 261), (0, 1)] rf mem (fun mem95 => (inI x2) ∧ ((¬ x2 = 3 → L_m_goesOn_499 X d rf Q mem95 x1 x1 3) ∧ (x2 = 3 → L_m_goesOn_499 X d rf Q mem95 x1 x1 4)))) ∧ (¬ (mem 261 8) ≤ 0 → Q 0 mem))) : L_m_goesOn_470 X d rf Q mem x1 x2 := by
  intro z3 z4
  refine zW.go 1 471 [(2, 261), (0, x1), (0, x2), z3, z4] [(2, 261)] _ rfl ?_
  refine w_getI (q := 261) rfl (by decide) (pc' := 474) rfl ⟨by decide, rfl⟩ rfl (by decide) ?_
  refine w_if_le rfl (by decide) (pc' := 477) rfl h.1 (fun c94 => ?_) (fun c94 => ?_)
  · have h := h.2.1 c94
    refine zW.go 2 481 [(2, 261), (0, x1), (0, x2), z3, z4] [(0, 1), (2, 261)] _ rfl ?_
    refine w_callv (as := [(2, 261), (0, 1)]) [] 484 rfl rfl rfl rfl (Nat.le_of_ble_eq_true rfl) (Nat.le_of_ble_eq_true rfl) (Nat.le_of_ble_eq_true rfl) (Or.inr rfl) (Cv.imp h (fun mem95 h => ?_))
    refine zW.go 1 485 [(2, 261), (0, x1), (0, x2), z3, z4] [(2, 261)] _ rfl ?_
    refine w_getL (q := 261) (v := 286) rfl (by decide) (pc' := 488) rfl ⟨by decide, rfl⟩ rfl rfl (zall_at hR (by decide)) ?_
    refine zW.go 3 491 [(2, 261), (0, x1), (0, x2), z3, z4] [(0, 3), (0, x2), (0, x1), (2, 286)] _ rfl ?_
    refine w_ic_ne rfl (by decide) (pc' := 494) rfl ⟨h.1, by decide⟩ (fun c96 => ?_) (fun c96 => ?_)
    · have h := h.2.1 c96
      refine zW.go 1 499 [(2, 261), (0, x1), (0, x2), z3, z4] [(0, 3), (0, x1), (2, 286)] _ rfl ?_
      exact h (0, x2) z3 z4
    · have h := h.2.2 c96
      refine zW.go 2 499 [(2, 261), (0, x1), (0, x2), z3, z4] [(0, 4), (0, x1), (2, 286)] _ rfl ?_
      exact h (0, x2) z3 z4
  · have h := h.2.2 c94
    refine zW.go 1 478 [(2, 261), (0, x1), (0, x2), z3, z4] [(0, 0)] _ rfl ?_
    exact w_retz rfl rfl (by decide) h
set_option maxRecDepth 4000 in
theorem s_m_goesOn_546 {X : zX} {d : Nat} {rf mem : zF} {Q : Int → zF → Prop} (hR : zall rf zRK = true) {x1 : Int} {x2 : Int} (h : (inI (mem 261 8)) ∧ (((mem 261 8) ≤ 0 → Cv X d 213 [(2, 261), (0, 1)] rf mem (fun mem98 => (inI x2) ∧ ((¬ x2 = 4 → L_m_goesOn_596 X d rf Q (zup (zup mem98 261 45 ((mem98 261 45) - 1)) 261 46 ((mem98 261 46) - 1)) x2) ∧ (x2 = 4 → (0 ≤ x1 ∧ x1 < 20) ∧ (Cv X d 211 [(2, 261), (0, (mem98 289 (x1).toNat)), (0, 0)] rf (zup (zup mem98 261 45 ((mem98 261 45) - 1)) 261 46 ((mem98 261 46) - 1)) (fun mem100 => L_m_goesOn_596 X d rf Q mem100 x2)))))) ∧ (¬ (mem 261 8) ≤ 0 → Q 0 mem))) : L_m_goesOn_546 X d rf Q mem x1 x2 := by
  intro z3 z4
  refine zW.go 1 547 [(2, 261), (0, x1), (0, x2), z3, z4] [(2, 261)] _ rfl ?_
  refine w_getI (q := 261) rfl (by decide) (pc' := 550) rfl ⟨by decide, rfl⟩ rfl (by decide) ?_
  refine w_if_le rfl (by decide) (pc' := 553) rfl h.1 (fun c97 => ?_) (fun c97 => ?_)
  · have h := h.2.1 c97
    refine zW.go 2 557 [(2, 261), (0, x1), (0, x2), z3, z4] [(0, 1), (2, 261)] _ rfl ?_
    refine w_callv (as := [(2, 261), (0, 1)]) [] 560 rfl rfl rfl rfl (Nat.le_of_ble_eq_true rfl) (Nat.le_of_ble_eq_true rfl) (Nat.le_of_ble_eq_true rfl) (Or.inr rfl) (Cv.imp h (fun mem98 h => ?_))
    refine zW.go 2 562 [(2, 261), (0, x1), (0, x2), z3, z4] [(2, 261), (2, 261)] _ rfl ?_
    refine w_getI (q := 261) rfl (by decide) (pc' := 565) rfl ⟨by decide, rfl⟩ rfl (by decide) ?_
    refine zW.go 2 567 [(2, 261), (0, x1), (0, x2), z3, z4] [(0, ((mem98 261 45) - 1)), (2, 261)] _ rfl ?_
    refine w_putI (q := 261) rfl (by decide) (pc' := 570) rfl ⟨by decide, rfl⟩ rfl (by decide) ?_
    refine zW.go 2 572 [(2, 261), (0, x1), (0, x2), z3, z4] [(2, 261), (2, 261)] _ rfl ?_
    refine w_getI (q := 261) rfl (by decide) (pc' := 575) rfl ⟨by decide, rfl⟩ rfl (by decide) ?_
    refine zW.go 2 577 [(2, 261), (0, x1), (0, x2), z3, z4] [(0, ((mem98 261 46) - 1)), (2, 261)] _ rfl ?_
    refine w_putI (q := 261) rfl (by decide) (pc' := 580) rfl ⟨by decide, rfl⟩ rfl (by decide) ?_
    refine zW.go 2 582 [(2, 261), (0, x1), (0, x2), z3, z4] [(0, 4), (0, x2)] _ rfl ?_
    refine w_ic_ne rfl (by decide) (pc' := 585) rfl ⟨h.1, by decide⟩ (fun c99 => ?_) (fun c99 => ?_)
    · have h := h.2.1 c99
      exact h (0, x1) z3 z4
    · have h := h.2.2 c99
      refine zW.go 2 587 [(2, 261), (0, x1), (0, x2), z3, z4] [(2, 261), (2, 261)] _ rfl ?_
      refine w_getL (q := 261) (v := 289) rfl (by decide) (pc' := 590) rfl ⟨by decide, rfl⟩ rfl rfl (zall_at hR (by decide)) ?_
      refine zW.go 1 591 [(2, 261), (0, x1), (0, x2), z3, z4] [(0, x1), (2, 289), (2, 261)] _ rfl ?_
      obtain ⟨g, h⟩ := h
      refine w_iald (q := 289) rfl (by decide) (pc' := 592) rfl ⟨by decide, rfl⟩ rfl g rfl ?_
      refine zW.go 1 593 [(2, 261), (0, x1), (0, x2), z3, z4] [(0, 0), (0, (mem98 289 (x1).toNat)), (2, 261)] _ rfl ?_
      refine w_callv (as := [(2, 261), (0, (mem98 289 (x1).toNat)), (0, 0)]) [] 596 rfl rfl rfl rfl (Nat.le_of_ble_eq_true rfl) (Nat.le_of_ble_eq_true rfl) (Nat.le_of_ble_eq_true rfl) (Or.inr rfl) (Cv.imp h (fun mem100 h => ?_))
      exact h (0, x1) z3 z4
  · have h := h.2.2 c97
    refine zW.go 1 554 [(2, 261), (0, x1), (0, x2), z3, z4] [(0, 0)] _ rfl ?_
    exact w_retz rfl rfl (by decide) h
set_option maxRecDepth 4000 in
theorem s_m_goesOn_372 {X : zX} {d : Nat} {rf mem : zF} {Q : Int → zF → Prop} (hR : zall rf zRK = true) {x1 : Int} {s1 : Int} (h : Cv X d 214 [(2, 261), (0, s1)] rf mem (fun mem101 => (0 ≤ x1 ∧ x1 < 20) ∧ ((0 ≤ x1 ∧ x1 < 20) ∧ (Cv X d 202 [(2, 261)] rf (zup (zup mem101 287 (x1).toNat 0) 288 (x1).toNat 1) (fun mem102 => Q 1 (zup mem102 261 49 0)))))) : L_m_goesOn_372 X d rf Q mem x1 s1 := by
  intro z2 z3 z4
  refine w_callv (as := [(2, 261), (0, s1)]) [] 375 rfl rfl rfl rfl (Nat.le_of_ble_eq_true rfl) (Nat.le_of_ble_eq_true rfl) (Nat.le_of_ble_eq_true rfl) (Or.inr rfl) (Cv.imp h (fun mem101 h => ?_))
  refine zW.go 1 376 [(2, 261), (0, x1), z2, z3, z4] [(2, 261)] _ rfl ?_
  refine w_getL (q := 261) (v := 287) rfl (by decide) (pc' := 379) rfl ⟨by decide, rfl⟩ rfl rfl (zall_at hR (by decide)) ?_
  refine zW.go 2 381 [(2, 261), (0, x1), z2, z3, z4] [(0, 0), (0, x1), (2, 287)] _ rfl ?_
  obtain ⟨g, h⟩ := h
  refine w_iast (q := 287) rfl (by decide) (pc' := 382) rfl ⟨by decide, rfl⟩ rfl g rfl ?_
  refine zW.go 1 383 [(2, 261), (0, x1), z2, z3, z4] [(2, 261)] _ rfl ?_
  refine w_getL (q := 261) (v := 288) rfl (by decide) (pc' := 386) rfl ⟨by decide, rfl⟩ rfl rfl (zall_at hR (by decide)) ?_
  refine zW.go 2 388 [(2, 261), (0, x1), z2, z3, z4] [(0, 1), (0, x1), (2, 288)] _ rfl ?_
  obtain ⟨g, h⟩ := h
  refine w_zast (q := 288) rfl (by decide) (pc' := 389) rfl ⟨by decide, rfl⟩ rfl g rfl (by decide) (by decide) ?_
  refine zW.go 1 390 [(2, 261), (0, x1), z2, z3, z4] [(2, 261)] _ rfl ?_
  refine w_callv (as := [(2, 261)]) [] 393 rfl rfl rfl rfl (Nat.le_of_ble_eq_true rfl) (Nat.le_of_ble_eq_true rfl) (Nat.le_of_ble_eq_true rfl) (Or.inr rfl) (Cv.imp h (fun mem102 h => ?_))
  refine zW.go 2 395 [(2, 261), (0, x1), z2, z3, z4] [(0, 0), (2, 261)] _ rfl ?_
  refine w_putZ (q := 261) rfl (by decide) (pc' := 398) rfl ⟨by decide, rfl⟩ rfl (by decide) (by decide) ?_
  refine zW.go 1 399 [(2, 261), (0, x1), z2, z3, z4] [(0, 1)] _ rfl ?_
  exact w_retz rfl rfl (by decide) h
set_option maxRecDepth 4000 in
theorem s_m_goesOn_499 {X : zX} {d : Nat} {rf mem : zF} {Q : Int → zF → Prop} (hR : zall rf zRK = true) {x1 : Int} {s1 : Int} {s2 : Int} (h : (0 ≤ s1 ∧ s1 < 20) ∧ ((0 ≤ x1 ∧ x1 < 20) ∧ (Cv X d 202 [(2, 261)] rf (zup (zup mem 286 (s1).toNat s2) 287 (x1).toNat 0) (fun mem103 => Q 1 (zup mem103 261 49 0))))) : L_m_goesOn_499 X d rf Q mem x1 s1 s2 := by
  intro z2 z3 z4
  obtain ⟨g, h⟩ := h
  refine w_iast (q := 286) rfl (by decide) (pc' := 500) rfl ⟨by decide, rfl⟩ rfl g rfl ?_
  refine zW.go 1 501 [(2, 261), (0, x1), z2, z3, z4] [(2, 261)] _ rfl ?_
  refine w_getL (q := 261) (v := 287) rfl (by decide) (pc' := 504) rfl ⟨by decide, rfl⟩ rfl rfl (zall_at hR (by decide)) ?_
  refine zW.go 2 506 [(2, 261), (0, x1), z2, z3, z4] [(0, 0), (0, x1), (2, 287)] _ rfl ?_
  obtain ⟨g, h⟩ := h
  refine w_iast (q := 287) rfl (by decide) (pc' := 507) rfl ⟨by decide, rfl⟩ rfl g rfl ?_
  refine zW.go 1 508 [(2, 261), (0, x1), z2, z3, z4] [(2, 261)] _ rfl ?_
  refine w_callv (as := [(2, 261)]) [] 511 rfl rfl rfl rfl (Nat.le_of_ble_eq_true rfl) (Nat.le_of_ble_eq_true rfl) (Nat.le_of_ble_eq_true rfl) (Or.inr rfl) (Cv.imp h (fun mem103 h => ?_))
  refine zW.go 2 513 [(2, 261), (0, x1), z2, z3, z4] [(0, 0), (2, 261)] _ rfl ?_
  refine w_putZ (q := 261) rfl (by decide) (pc' := 516) rfl ⟨by decide, rfl⟩ rfl (by decide) (by decide) ?_
  refine zW.go 1 517 [(2, 261), (0, x1), z2, z3, z4] [(0, 1)] _ rfl ?_
  exact w_retz rfl rfl (by decide) h
set_option maxRecDepth 4000 in
theorem s_m_goesOn_596 {X : zX} {d : Nat} {rf mem : zF} {Q : Int → zF → Prop} (hR : zall rf zRK = true) {x2 : Int} (h : (inI x2) ∧ ((¬ x2 = 5 → Cv X d 202 [(2, 261)] rf mem (fun mem105 => Q 1 mem105)) ∧ (x2 = 5 → (0 ≤ ((mem 261 45) - 1) ∧ ((mem 261 45) - 1) < 20) ∧ (Cv X d 202 [(2, 261)] rf (zup mem 287 (((mem 261 45) - 1)).toNat 2) (fun mem106 => Q 1 mem106))))) : L_m_goesOn_596 X d rf Q mem x2 := by
  intro z1 z3 z4
  refine zW.go 2 598 [(2, 261), z1, (0, x2), z3, z4] [(0, 5), (0, x2)] _ rfl ?_
  refine w_ic_ne rfl (by decide) (pc' := 601) rfl ⟨h.1, by decide⟩ (fun c104 => ?_) (fun c104 => ?_)
  · have h := h.2.1 c104
    refine zW.go 1 614 [(2, 261), z1, (0, x2), z3, z4] [(2, 261)] _ rfl ?_
    refine w_callv (as := [(2, 261)]) [] 617 rfl rfl rfl rfl (Nat.le_of_ble_eq_true rfl) (Nat.le_of_ble_eq_true rfl) (Nat.le_of_ble_eq_true rfl) (Or.inr rfl) (Cv.imp h (fun mem105 h => ?_))
    refine zW.go 1 618 [(2, 261), z1, (0, x2), z3, z4] [(0, 1)] _ rfl ?_
    exact w_retz rfl rfl (by decide) h
  · have h := h.2.2 c104
    refine zW.go 1 602 [(2, 261), z1, (0, x2), z3, z4] [(2, 261)] _ rfl ?_
    refine w_getL (q := 261) (v := 287) rfl (by decide) (pc' := 605) rfl ⟨by decide, rfl⟩ rfl rfl (zall_at hR (by decide)) ?_
    refine zW.go 1 606 [(2, 261), z1, (0, x2), z3, z4] [(2, 261), (2, 287)] _ rfl ?_
    refine w_getI (q := 261) rfl (by decide) (pc' := 609) rfl ⟨by decide, rfl⟩ rfl (by decide) ?_
    refine zW.go 3 612 [(2, 261), z1, (0, x2), z3, z4] [(0, 2), (0, ((mem 261 45) - 1)), (2, 287)] _ rfl ?_
    obtain ⟨g, h⟩ := h
    refine w_iast (q := 287) rfl (by decide) (pc' := 613) rfl ⟨by decide, rfl⟩ rfl g rfl ?_
    refine zW.go 1 614 [(2, 261), z1, (0, x2), z3, z4] [(2, 261)] _ rfl ?_
    refine w_callv (as := [(2, 261)]) [] 617 rfl rfl rfl rfl (Nat.le_of_ble_eq_true rfl) (Nat.le_of_ble_eq_true rfl) (Nat.le_of_ble_eq_true rfl) (Or.inr rfl) (Cv.imp h (fun mem106 h => ?_))
    refine zW.go 1 618 [(2, 261), z1, (0, x2), z3, z4] [(0, 1)] _ rfl ?_
    exact w_retz rfl rfl (by decide) h
set_option maxRecDepth 4000 in
theorem s_m_goesOn {X : zX} {d : Nat} {rf mem : zF} {Q : Int → zF → Prop} (hR : zall rf zRK = true) (h : Cv X d 201 [(2, 261)] rf mem (fun mem1 => (inI (mem1 261 8)) ∧ (((mem1 261 8) ≤ 0 → (0 ≤ ((mem1 261 45) - 1) ∧ ((mem1 261 45) - 1) < 20) ∧ (Ci X d 217 [(0, (mem1 286 (((mem1 261 45) - 1)).toNat))] rf mem1 (fun r3 mem4 => (0 ≤ ((mem1 261 45) - 1) ∧ ((mem1 261 45) - 1) < 20) ∧ ((inI (mem4 287 (((mem1 261 45) - 1)).toNat)) ∧ ((2 ≤ (mem4 287 (((mem1 261 45) - 1)).toNat) → L_m_goesOn_188 X d rf Q mem4 ((mem1 261 45) - 1) (mem1 286 (((mem1 261 45) - 1)).toNat) r3) ∧ (¬ 2 ≤ (mem4 287 (((mem1 261 45) - 1)).toNat) → Ci X d 203 [(2, 261), (0, 43)] rf mem4 (fun r6 mem7 => (inI r6) ∧ ((¬ r6 = 0 → L_m_goesOn_87 X d rf Q mem7) ∧ (r6 = 0 → Ci X d 203 [(2, 261), (0, 45)] rf mem7 (fun r9 mem10 => (inI r9) ∧ ((¬ r9 = 0 → L_m_goesOn_87 X d rf Q mem10) ∧ (r9 = 0 → Ci X d 203 [(2, 261), (0, 42)] rf mem10 (fun r12 mem13 => (inI r12) ∧ ((¬ r12 = 0 → L_m_goesOn_87 X d rf Q mem13) ∧ (r12 = 0 → Ci X d 203 [(2, 261), (0, 47)] rf mem13 (fun r15 mem16 => (inI r15) ∧ ((¬ r15 = 0 → L_m_goesOn_87 X d rf Q mem16) ∧ (r15 = 0 → Ci X d 203 [(2, 261), (0, 37)] rf mem16 (fun r18 mem19 => (inI r18) ∧ ((r18 = 0 → L_m_goesOn_188 X d rf Q mem19 ((mem1 261 45) - 1) (mem1 286 (((mem1 261 45) - 1)).toNat) r3) ∧ (¬ r18 = 0 → L_m_goesOn_87 X d rf Q mem19))))))))))))))))))))) ∧ (¬ (mem1 261 8) ≤ 0 → Q 0 mem1)))) : Ci X (d + 1) 219 [(2, 261)] rf mem Q := by
  show zW X (d + 1) 219 0 [(2, 261), (9, 0), (9, 0), (9, 0), (9, 0)] [] (zty, rf, mem) (qi rf Q)
  refine zW.go 1 1 [(2, 261), (9, 0), (9, 0), (9, 0), (9, 0)] [(2, 261)] _ rfl ?_
  refine w_callv (as := [(2, 261)]) [] 4 rfl rfl rfl rfl (Nat.le_of_ble_eq_true rfl) (Nat.le_of_ble_eq_true rfl) (Nat.le_of_ble_eq_true rfl) (Or.inr rfl) (Cv.imp h (fun mem1 h => ?_))
  refine zW.go 1 5 [(2, 261), (9, 0), (9, 0), (9, 0), (9, 0)] [(2, 261)] _ rfl ?_
  refine w_getI (q := 261) rfl (by decide) (pc' := 8) rfl ⟨by decide, rfl⟩ rfl (by decide) ?_
  refine w_if_le rfl (by decide) (pc' := 11) rfl h.1 (fun c2 => ?_) (fun c2 => ?_)
  · have h := h.2.1 c2
    refine zW.go 1 14 [(2, 261), (9, 0), (9, 0), (9, 0), (9, 0)] [(2, 261)] _ rfl ?_
    refine w_getI (q := 261) rfl (by decide) (pc' := 17) rfl ⟨by decide, rfl⟩ rfl (by decide) ?_
    refine zW.go 4 21 [(2, 261), (0, ((mem1 261 45) - 1)), (9, 0), (9, 0), (9, 0)] [(2, 261)] _ rfl ?_
    refine w_getL (q := 261) (v := 286) rfl (by decide) (pc' := 24) rfl ⟨by decide, rfl⟩ rfl rfl (zall_at hR (by decide)) ?_
    refine zW.go 1 25 [(2, 261), (0, ((mem1 261 45) - 1)), (9, 0), (9, 0), (9, 0)] [(0, ((mem1 261 45) - 1)), (2, 286)] _ rfl ?_
    obtain ⟨g, h⟩ := h
    refine w_iald (q := 286) rfl (by decide) (pc' := 26) rfl ⟨by decide, rfl⟩ rfl g rfl ?_
    refine zW.go 2 28 [(2, 261), (0, ((mem1 261 45) - 1)), (0, (mem1 286 (((mem1 261 45) - 1)).toNat)), (9, 0), (9, 0)] [(0, (mem1 286 (((mem1 261 45) - 1)).toNat))] _ rfl ?_
    refine w_calli (as := [(0, (mem1 286 (((mem1 261 45) - 1)).toNat))]) [] 31 rfl rfl rfl rfl (Nat.le_of_ble_eq_true rfl) (Nat.le_of_ble_eq_true rfl) (Nat.le_of_ble_eq_true rfl) (Or.inl rfl) (Ci.imp h (fun r3 mem4 h => ?_))
    refine zW.go 2 33 [(2, 261), (0, ((mem1 261 45) - 1)), (0, (mem1 286 (((mem1 261 45) - 1)).toNat)), (0, r3), (9, 0)] [(2, 261)] _ rfl ?_
    refine w_getL (q := 261) (v := 287) rfl (by decide) (pc' := 36) rfl ⟨by decide, rfl⟩ rfl rfl (zall_at hR (by decide)) ?_
    refine zW.go 1 37 [(2, 261), (0, ((mem1 261 45) - 1)), (0, (mem1 286 (((mem1 261 45) - 1)).toNat)), (0, r3), (9, 0)] [(0, ((mem1 261 45) - 1)), (2, 287)] _ rfl ?_
    obtain ⟨g, h⟩ := h
    refine w_iald (q := 287) rfl (by decide) (pc' := 38) rfl ⟨by decide, rfl⟩ rfl g rfl ?_
    refine zW.go 1 39 [(2, 261), (0, ((mem1 261 45) - 1)), (0, (mem1 286 (((mem1 261 45) - 1)).toNat)), (0, r3), (9, 0)] [(0, 2), (0, (mem4 287 (((mem1 261 45) - 1)).toNat))] _ rfl ?_
    refine w_ic_ge rfl (by decide) (pc' := 42) rfl ⟨h.1, by decide⟩ (fun c5 => ?_) (fun c5 => ?_)
    · have h := h.2.1 c5
      exact h (9, 0)
    · have h := h.2.2 c5
      refine zW.go 2 45 [(2, 261), (0, ((mem1 261 45) - 1)), (0, (mem1 286 (((mem1 261 45) - 1)).toNat)), (0, r3), (9, 0)] [(0, 43), (2, 261)] _ rfl ?_
      refine w_calli (as := [(2, 261), (0, 43)]) [] 48 rfl rfl rfl rfl (Nat.le_of_ble_eq_true rfl) (Nat.le_of_ble_eq_true rfl) (Nat.le_of_ble_eq_true rfl) (Or.inr rfl) (Ci.imp h (fun r6 mem7 h => ?_))
      refine w_if_ne rfl (by decide) (pc' := 51) rfl h.1 (fun c8 => ?_) (fun c8 => ?_)
      · have h := h.2.1 c8
        exact h (0, ((mem1 261 45) - 1)) (0, (mem1 286 (((mem1 261 45) - 1)).toNat)) (0, r3) (9, 0)
      · have h := h.2.2 c8
        refine zW.go 2 54 [(2, 261), (0, ((mem1 261 45) - 1)), (0, (mem1 286 (((mem1 261 45) - 1)).toNat)), (0, r3), (9, 0)] [(0, 45), (2, 261)] _ rfl ?_
        refine w_calli (as := [(2, 261), (0, 45)]) [] 57 rfl rfl rfl rfl (Nat.le_of_ble_eq_true rfl) (Nat.le_of_ble_eq_true rfl) (Nat.le_of_ble_eq_true rfl) (Or.inr rfl) (Ci.imp h (fun r9 mem10 h => ?_))
        refine w_if_ne rfl (by decide) (pc' := 60) rfl h.1 (fun c11 => ?_) (fun c11 => ?_)
        · have h := h.2.1 c11
          exact h (0, ((mem1 261 45) - 1)) (0, (mem1 286 (((mem1 261 45) - 1)).toNat)) (0, r3) (9, 0)
        · have h := h.2.2 c11
          refine zW.go 2 63 [(2, 261), (0, ((mem1 261 45) - 1)), (0, (mem1 286 (((mem1 261 45) - 1)).toNat)), (0, r3), (9, 0)] [(0, 42), (2, 261)] _ rfl ?_
          refine w_calli (as := [(2, 261), (0, 42)]) [] 66 rfl rfl rfl rfl (Nat.le_of_ble_eq_true rfl) (Nat.le_of_ble_eq_true rfl) (Nat.le_of_ble_eq_true rfl) (Or.inr rfl) (Ci.imp h (fun r12 mem13 h => ?_))
          refine w_if_ne rfl (by decide) (pc' := 69) rfl h.1 (fun c14 => ?_) (fun c14 => ?_)
          · have h := h.2.1 c14
            exact h (0, ((mem1 261 45) - 1)) (0, (mem1 286 (((mem1 261 45) - 1)).toNat)) (0, r3) (9, 0)
          · have h := h.2.2 c14
            refine zW.go 2 72 [(2, 261), (0, ((mem1 261 45) - 1)), (0, (mem1 286 (((mem1 261 45) - 1)).toNat)), (0, r3), (9, 0)] [(0, 47), (2, 261)] _ rfl ?_
            refine w_calli (as := [(2, 261), (0, 47)]) [] 75 rfl rfl rfl rfl (Nat.le_of_ble_eq_true rfl) (Nat.le_of_ble_eq_true rfl) (Nat.le_of_ble_eq_true rfl) (Or.inr rfl) (Ci.imp h (fun r15 mem16 h => ?_))
            refine w_if_ne rfl (by decide) (pc' := 78) rfl h.1 (fun c17 => ?_) (fun c17 => ?_)
            · have h := h.2.1 c17
              exact h (0, ((mem1 261 45) - 1)) (0, (mem1 286 (((mem1 261 45) - 1)).toNat)) (0, r3) (9, 0)
            · have h := h.2.2 c17
              refine zW.go 2 81 [(2, 261), (0, ((mem1 261 45) - 1)), (0, (mem1 286 (((mem1 261 45) - 1)).toNat)), (0, r3), (9, 0)] [(0, 37), (2, 261)] _ rfl ?_
              refine w_calli (as := [(2, 261), (0, 37)]) [] 84 rfl rfl rfl rfl (Nat.le_of_ble_eq_true rfl) (Nat.le_of_ble_eq_true rfl) (Nat.le_of_ble_eq_true rfl) (Or.inr rfl) (Ci.imp h (fun r18 mem19 h => ?_))
              refine w_if_eq rfl (by decide) (pc' := 87) rfl h.1 (fun c20 => ?_) (fun c20 => ?_)
              · have h := h.2.1 c20
                exact h (9, 0)
              · have h := h.2.2 c20
                exact h (0, ((mem1 261 45) - 1)) (0, (mem1 286 (((mem1 261 45) - 1)).toNat)) (0, r3) (9, 0)
  · have h := h.2.2 c2
    refine zW.go 1 12 [(2, 261), (9, 0), (9, 0), (9, 0), (9, 0)] [(0, 0)] _ rfl ?_
    exact w_retz rfl rfl (by decide) h
def L_m_reads_43 (X : zX) (d : Nat) (rf : zF) (Q : zF → Prop) (mem : zF) (x2 : Int) : Prop := ∀ z1 : zV, z1.1 ≠ 1 → zW X (d + 1) 220 43 [(2, 261), z1, (0, x2)] [] (zty, rf, mem) (qv rf Q)
def L_m_reads_70 (X : zX) (d : Nat) (rf : zF) (Q : zF → Prop) (mem : zF) (x2 : Int) : Prop := ∀ z1 : zV, z1.1 ≠ 1 → zW X (d + 1) 220 70 [(2, 261), z1, (0, x2)] [] (zty, rf, mem) (qv rf Q)
set_option maxRecDepth 4000 in
theorem s_m_reads_43 {X : zX} {d : Nat} {rf mem : zF} {Q : zF → Prop} (hR : zall rf zRK = true) {x2 : Int} (h : (inI x2) ∧ ((x2 = 0 → Q mem) ∧ (¬ x2 = 0 → (inI (mem 261 49)) ∧ ((¬ (mem 261 49) = 0 → Ci X d 219 [(2, 261)] rf mem (fun r7 mem8 => L_m_reads_70 X d rf Q mem8 r7)) ∧ ((mem 261 49) = 0 → Ci X d 218 [(2, 261)] rf mem (fun r9 mem10 => (r9 = 0 ∨ r9 = 1) ∧ (L_m_reads_70 X d rf Q (zup mem10 261 49 r9) x2))))))) : L_m_reads_43 X d rf Q mem x2 := by
  intro z1 hz1
  refine zW.go 1 44 [(2, 261), z1, (0, x2)] [(0, x2)] _ rfl ?_
  refine w_if_eq rfl (by decide) (pc' := 47) rfl h.1 (fun c5 => ?_) (fun c5 => ?_)
  · have h := h.2.1 c5
    exact w_retv rfl rfl h
  · have h := h.2.2 c5
    refine zW.go 1 48 [(2, 261), z1, (0, x2)] [(2, 261)] _ rfl ?_
    refine w_getI (q := 261) rfl (by decide) (pc' := 51) rfl ⟨by decide, rfl⟩ rfl (by decide) ?_
    refine w_if_ne rfl (by decide) (pc' := 54) rfl h.1 (fun c6 => ?_) (fun c6 => ?_)
    · have h := h.2.1 c6
      refine zW.go 1 66 [(2, 261), z1, (0, x2)] [(2, 261)] _ rfl ?_
      refine w_calli (as := [(2, 261)]) [] 69 rfl rfl rfl rfl (Nat.le_of_ble_eq_true rfl) (Nat.le_of_ble_eq_true rfl) (Nat.le_of_ble_eq_true rfl) (Or.inr rfl) (Ci.imp h (fun r7 mem8 h => ?_))
      refine zW.step 70 [(2, 261), z1, (0, r7)] [] _ rfl (by decide) (by decide) (by show some (_, zst1 [(2, 261), z1, (0, x2)] 2 _, _, _) = _; rw [zst1_z (ls := [(2, 261), z1, (0, x2)]) (i := 2) hz1]; rfl) ?_
      exact h z1 hz1
    · have h := h.2.2 c6
      refine zW.go 2 56 [(2, 261), z1, (0, x2)] [(2, 261), (2, 261)] _ rfl ?_
      refine w_calli (as := [(2, 261)]) [(2, 261)] 59 rfl rfl rfl rfl (Nat.le_of_ble_eq_true rfl) (Nat.le_of_ble_eq_true rfl) (Nat.le_of_ble_eq_true rfl) (Or.inr rfl) (Ci.imp h (fun r9 mem10 h => ?_))
      obtain ⟨g2, h⟩ := h
      refine w_putZ (q := 261) rfl (by decide) (pc' := 62) rfl ⟨by decide, rfl⟩ rfl (by decide) g2 ?_
      refine zW.go 1 70 [(2, 261), z1, (0, x2)] [] _ rfl ?_
      exact h z1 hz1
set_option maxRecDepth 4000 in
theorem s_m_reads_70 {X : zX} {d : Nat} {rf mem : zF} {Q : zF → Prop} (hR : zall rf zRK = true) {x2 : Int} (h : (inI x2) ∧ ((x2 = 0 → L_m_reads_43 X d rf Q mem 0) ∧ (¬ x2 = 0 → (inI (mem 261 8)) ∧ ((¬ (mem 261 8) = 0 → L_m_reads_43 X d rf Q mem 0) ∧ ((mem 261 8) = 0 → L_m_reads_43 X d rf Q mem 1))))) : L_m_reads_70 X d rf Q mem x2 := by
  intro z1 hz1
  refine zW.go 1 71 [(2, 261), z1, (0, x2)] [(0, x2)] _ rfl ?_
  refine w_if_eq rfl (by decide) (pc' := 74) rfl h.1 (fun c11 => ?_) (fun c11 => ?_)
  · have h := h.2.1 c11
    refine zW.go 1 86 [(2, 261), z1, (0, x2)] [(0, 0)] _ rfl ?_
    refine zW.step 87 [(2, 261), z1, (0, 0)] [] _ rfl (by decide) (by decide) (by show some (_, zst1 [(2, 261), z1, (0, x2)] 2 _, _, _) = _; rw [zst1_z (ls := [(2, 261), z1, (0, x2)]) (i := 2) hz1]; rfl) ?_
    refine zW.go 1 43 [(2, 261), z1, (0, 0)] [] _ rfl ?_
    exact h z1 hz1
  · have h := h.2.2 c11
    refine zW.go 1 75 [(2, 261), z1, (0, x2)] [(2, 261)] _ rfl ?_
    refine w_getI (q := 261) rfl (by decide) (pc' := 78) rfl ⟨by decide, rfl⟩ rfl (by decide) ?_
    refine w_if_ne rfl (by decide) (pc' := 81) rfl h.1 (fun c12 => ?_) (fun c12 => ?_)
    · have h := h.2.1 c12
      refine zW.go 1 86 [(2, 261), z1, (0, x2)] [(0, 0)] _ rfl ?_
      refine zW.step 87 [(2, 261), z1, (0, 0)] [] _ rfl (by decide) (by decide) (by show some (_, zst1 [(2, 261), z1, (0, x2)] 2 _, _, _) = _; rw [zst1_z (ls := [(2, 261), z1, (0, x2)]) (i := 2) hz1]; rfl) ?_
      refine zW.go 1 43 [(2, 261), z1, (0, 0)] [] _ rfl ?_
      exact h z1 hz1
    · have h := h.2.2 c12
      refine zW.go 2 86 [(2, 261), z1, (0, x2)] [(0, 1)] _ rfl ?_
      refine zW.step 87 [(2, 261), z1, (0, 1)] [] _ rfl (by decide) (by decide) (by show some (_, zst1 [(2, 261), z1, (0, x2)] 2 _, _, _) = _; rw [zst1_z (ls := [(2, 261), z1, (0, x2)]) (i := 2) hz1]; rfl) ?_
      refine zW.go 1 43 [(2, 261), z1, (0, 1)] [] _ rfl ?_
      exact h z1 hz1
set_option maxRecDepth 4000 in
theorem s_m_reads {X : zX} {d : Nat} {rf mem : zF} {Q : zF → Prop} (hR : zall rf zRK = true) {x1 : Int} (h : (inI (mem 261 8)) ∧ (((mem 261 8) ≤ 0 → (inI x1) ∧ ((x1 = 0 → Cv X d 215 [(2, 261), (0, 0)] rf (zup (zup (zup (zup mem 261 45 0) 261 46 0) 261 48 0) 261 49 0) (fun mem3 => L_m_reads_43 X d rf Q mem3 1)) ∧ (¬ x1 = 0 → Cv X d 215 [(2, 261), (0, 1)] rf (zup (zup (zup (zup mem 261 45 0) 261 46 0) 261 48 0) 261 49 0) (fun mem4 => L_m_reads_43 X d rf Q mem4 1)))) ∧ (¬ (mem 261 8) ≤ 0 → Q mem))) : Cv X (d + 1) 220 [(2, 261), (0, x1)] rf mem Q := by
  show zW X (d + 1) 220 0 [(2, 261), (0, x1), (9, 0)] [] (zty, rf, mem) (qv rf Q)
  refine zW.go 1 1 [(2, 261), (0, x1), (9, 0)] [(2, 261)] _ rfl ?_
  refine w_getI (q := 261) rfl (by decide) (pc' := 4) rfl ⟨by decide, rfl⟩ rfl (by decide) ?_
  refine w_if_le rfl (by decide) (pc' := 7) rfl h.1 (fun c1 => ?_) (fun c1 => ?_)
  · have h := h.2.1 c1
    refine zW.go 2 10 [(2, 261), (0, x1), (9, 0)] [(0, 0), (2, 261)] _ rfl ?_
    refine w_putI (q := 261) rfl (by decide) (pc' := 13) rfl ⟨by decide, rfl⟩ rfl (by decide) ?_
    refine zW.go 2 15 [(2, 261), (0, x1), (9, 0)] [(0, 0), (2, 261)] _ rfl ?_
    refine w_putI (q := 261) rfl (by decide) (pc' := 18) rfl ⟨by decide, rfl⟩ rfl (by decide) ?_
    refine zW.go 2 20 [(2, 261), (0, x1), (9, 0)] [(0, 0), (2, 261)] _ rfl ?_
    refine w_putI (q := 261) rfl (by decide) (pc' := 23) rfl ⟨by decide, rfl⟩ rfl (by decide) ?_
    refine zW.go 2 25 [(2, 261), (0, x1), (9, 0)] [(0, 0), (2, 261)] _ rfl ?_
    refine w_putZ (q := 261) rfl (by decide) (pc' := 28) rfl ⟨by decide, rfl⟩ rfl (by decide) (by decide) ?_
    refine zW.go 2 30 [(2, 261), (0, x1), (9, 0)] [(0, x1), (2, 261)] _ rfl ?_
    refine w_if_eq rfl (by decide) (pc' := 33) rfl h.1 (fun c2 => ?_) (fun c2 => ?_)
    · have h := h.2.1 c2
      refine zW.go 1 38 [(2, 261), (0, x1), (9, 0)] [(0, 0), (2, 261)] _ rfl ?_
      refine w_callv (as := [(2, 261), (0, 0)]) [] 41 rfl rfl rfl rfl (Nat.le_of_ble_eq_true rfl) (Nat.le_of_ble_eq_true rfl) (Nat.le_of_ble_eq_true rfl) (Or.inr rfl) (Cv.imp h (fun mem3 h => ?_))
      refine zW.go 2 43 [(2, 261), (0, x1), (0, 1)] [] _ rfl ?_
      exact h (0, x1) (by show (0 : Nat) ≠ 1; decide)
    · have h := h.2.2 c2
      refine zW.go 2 38 [(2, 261), (0, x1), (9, 0)] [(0, 1), (2, 261)] _ rfl ?_
      refine w_callv (as := [(2, 261), (0, 1)]) [] 41 rfl rfl rfl rfl (Nat.le_of_ble_eq_true rfl) (Nat.le_of_ble_eq_true rfl) (Nat.le_of_ble_eq_true rfl) (Or.inr rfl) (Cv.imp h (fun mem4 h => ?_))
      refine zW.go 2 43 [(2, 261), (0, x1), (0, 1)] [] _ rfl ?_
      exact h (0, x1) (by show (0 : Nat) ≠ 1; decide)
  · have h := h.2.2 c1
    exact w_retv rfl rfl h
