set_option maxRecDepth 4000 in
theorem s_parser_sumCode {X : zX} {d : Nat} {rf mem : zF} {Q : Int → zF → Prop} (hR : zall rf zRK = true) {p : Nat} (hp : zPln rf p) (hpl : rf 3 1 = ((p : Nat) : Int)) (h : Ci X d 133 [(2, 4), (0, 43)] rf mem (fun r1 mem2 => (inI r1) ∧ ((r1 = 0 → Ci X d 133 [(2, 4), (0, 45)] rf mem2 (fun r4 mem5 => (inI r4) ∧ ((r4 = 0 → Q 0 mem5) ∧ (¬ r4 = 0 → Q (-8) mem5)))) ∧ (¬ r1 = 0 → Q (-7) mem2)))) : Ci X (d + 1) 44 [(2, 3)] rf mem Q := by
  show zW X (d + 1) 44 0 [(2, 3)] [] (zty, rf, mem) (qi rf Q)
  refine zW.go 1 1 [(2, 3)] [(2, 3)] _ rfl ?_
  refine w_getL (q := 3) (v := 4) rfl (by decide) (pc' := 4) rfl ⟨by decide, rfl⟩ rfl rfl (zall_at hR (by decide)) ?_
  refine zW.go 1 6 [(2, 3)] [(0, 43), (2, 4)] _ rfl ?_
  refine w_calli (as := [(2, 4), (0, 43)]) [] 9 rfl rfl rfl rfl (Nat.le_of_ble_eq_true rfl) (Nat.le_of_ble_eq_true rfl) (Nat.le_of_ble_eq_true rfl) (Or.inr rfl) (Ci.imp h (fun r1 mem2 h => ?_))
  refine w_if_eq rfl (by decide) (pc' := 12) rfl h.1 (fun c3 => ?_) (fun c3 => ?_)
  · have h := h.2.1 c3
    refine zW.go 1 18 [(2, 3)] [(2, 3)] _ rfl ?_
    refine w_getL (q := 3) (v := 4) rfl (by decide) (pc' := 21) rfl ⟨by decide, rfl⟩ rfl rfl (zall_at hR (by decide)) ?_
    refine zW.go 1 23 [(2, 3)] [(0, 45), (2, 4)] _ rfl ?_
    refine w_calli (as := [(2, 4), (0, 45)]) [] 26 rfl rfl rfl rfl (Nat.le_of_ble_eq_true rfl) (Nat.le_of_ble_eq_true rfl) (Nat.le_of_ble_eq_true rfl) (Or.inr rfl) (Ci.imp h (fun r4 mem5 h => ?_))
    refine w_if_eq rfl (by decide) (pc' := 29) rfl h.1 (fun c6 => ?_) (fun c6 => ?_)
    · have h := h.2.1 c6
      refine zW.go 1 35 [(2, 3)] [(0, 0)] _ rfl ?_
      exact w_reti rfl rfl h
    · have h := h.2.2 c6
      refine zW.go 2 35 [(2, 3)] [(0, (-8))] _ rfl ?_
      exact w_reti rfl rfl h
  · have h := h.2.2 c3
    refine zW.go 2 35 [(2, 3)] [(0, (-7))] _ rfl ?_
    exact w_reti rfl rfl h
def L_parser_readProduct_8 (X : zX) (d : Nat) (rf : zF) (Q : Int → zF → Prop) (mem : zF) (p : Nat) (x1 : Int) (x2 : Int) (x3 : Int) : Prop := ∀ z4 : zV, zW X (d + 1) 45 8 [(2, 3), (0, x1), (0, x2), (0, x3), z4] [] (zty, rf, mem) (qi rf Q)
set_option maxRecDepth 4000 in
theorem s_parser_readProduct_8 {X : zX} {d : Nat} {rf mem : zF} {Q : Int → zF → Prop} (hR : zall rf zRK = true) {p : Nat} (hp : zPln rf p) (hpl : rf 3 1 = ((p : Nat) : Int)) {x1 : Int} {x2 : Int} {x3 : Int} (h : (inI x2) ∧ ((x2 = 0 → (x2 = 0 ∨ x2 = 1) ∧ Q x2 mem) ∧ (¬ x2 = 0 → (inI x3) ∧ ((1600 ≤ x3 → (x2 = 0 ∨ x2 = 1) ∧ Q x2 mem) ∧ (¬ 1600 ≤ x3 → Ci X d 46 [(2, 3)] rf mem (fun r5 mem6 => (inI r5) ∧ ((r5 = 0 → (x2 = 0 ∨ x2 = 1) ∧ Q x2 mem6) ∧ (¬ r5 = 0 → Ci X d 46 [(2, 3)] rf mem6 (fun r8 mem9 => Cv X d 132 [(2, 4)] rf mem9 (fun mem10 => Ci X d 47 [(2, 3), (0, x1)] rf mem10 (fun r11 mem12 => Cv X d 77 [(2, ((p + 9 : Nat) : Int)), (0, r8)] rf mem12 (fun mem13 => L_parser_readProduct_8 X d rf Q mem13 p x1 r11 (x3 + 1))))))))))))) : L_parser_readProduct_8 X d rf Q mem p x1 x2 x3 := by
  intro z4
  refine zW.go 1 9 [(2, 3), (0, x1), (0, x2), (0, x3), z4] [(0, x2)] _ rfl ?_
  refine w_if_eq rfl (by decide) (pc' := 12) rfl h.1 (fun c3 => ?_) (fun c3 => ?_)
  · have h := h.2.1 c3
    refine zW.go 1 64 [(2, 3), (0, x1), (0, x2), (0, x3), z4] [(0, x2)] _ rfl ?_
    exact w_retz rfl rfl h.1 h.2
  · have h := h.2.2 c3
    refine zW.go 2 16 [(2, 3), (0, x1), (0, x2), (0, x3), z4] [(0, 1600), (0, x3)] _ rfl ?_
    refine w_ic_ge rfl (by decide) (pc' := 19) rfl ⟨h.1, by decide⟩ (fun c4 => ?_) (fun c4 => ?_)
    · have h := h.2.1 c4
      refine zW.go 1 64 [(2, 3), (0, x1), (0, x2), (0, x3), z4] [(0, x2)] _ rfl ?_
      exact w_retz rfl rfl h.1 h.2
    · have h := h.2.2 c4
      refine zW.go 1 20 [(2, 3), (0, x1), (0, x2), (0, x3), z4] [(2, 3)] _ rfl ?_
      refine w_calli (as := [(2, 3)]) [] 23 rfl rfl rfl rfl (Nat.le_of_ble_eq_true rfl) (Nat.le_of_ble_eq_true rfl) (Nat.le_of_ble_eq_true rfl) (Or.inr rfl) (Ci.imp h (fun r5 mem6 h => ?_))
      refine w_if_eq rfl (by decide) (pc' := 26) rfl h.1 (fun c7 => ?_) (fun c7 => ?_)
      · have h := h.2.1 c7
        refine zW.go 1 64 [(2, 3), (0, x1), (0, x2), (0, x3), z4] [(0, x2)] _ rfl ?_
        exact w_retz rfl rfl h.1 h.2
      · have h := h.2.2 c7
        refine zW.go 1 27 [(2, 3), (0, x1), (0, x2), (0, x3), z4] [(2, 3)] _ rfl ?_
        refine w_calli (as := [(2, 3)]) [] 30 rfl rfl rfl rfl (Nat.le_of_ble_eq_true rfl) (Nat.le_of_ble_eq_true rfl) (Nat.le_of_ble_eq_true rfl) (Or.inr rfl) (Ci.imp h (fun r8 mem9 h => ?_))
        refine zW.go 2 33 [(2, 3), (0, x1), (0, x2), (0, x3), (0, r8)] [(2, 3)] _ rfl ?_
        refine w_getL (q := 3) (v := 4) rfl (by decide) (pc' := 36) rfl ⟨by decide, rfl⟩ rfl rfl (zall_at hR (by decide)) ?_
        refine w_callv (as := [(2, 4)]) [] 39 rfl rfl rfl rfl (Nat.le_of_ble_eq_true rfl) (Nat.le_of_ble_eq_true rfl) (Nat.le_of_ble_eq_true rfl) (Or.inr rfl) (Cv.imp h (fun mem10 h => ?_))
        refine zW.go 2 41 [(2, 3), (0, x1), (0, x2), (0, x3), (0, r8)] [(0, x1), (2, 3)] _ rfl ?_
        refine w_calli (as := [(2, 3), (0, x1)]) [] 44 rfl rfl rfl rfl (Nat.le_of_ble_eq_true rfl) (Nat.le_of_ble_eq_true rfl) (Nat.le_of_ble_eq_true rfl) (Or.inr rfl) (Ci.imp h (fun r11 mem12 h => ?_))
        refine zW.go 2 46 [(2, 3), (0, x1), (0, r11), (0, x3), (0, r8)] [(2, 3)] _ rfl ?_
        refine w_getL (q := 3) (v := ((p : Nat) : Int)) rfl (by decide) (pc' := 49) rfl ⟨by decide, rfl⟩ rfl rfl hpl ?_
        refine w_getL (q := p) (v := ((p + 9 : Nat) : Int)) rfl (by decide) (pc' := 52) rfl ⟨Int.natCast_nonneg _, rfl⟩ (zPln_t0 hp) rfl (zPln_r0_14 hp) ?_
        refine zW.go 1 54 [(2, 3), (0, x1), (0, r11), (0, x3), (0, r8)] [(0, r8), (2, ((p + 9 : Nat) : Int))] _ rfl ?_
        refine w_callv (as := [(2, ((p + 9 : Nat) : Int)), (0, r8)]) [] 57 rfl rfl rfl rfl (Nat.le_of_ble_eq_true rfl) (Nat.le_of_ble_eq_true rfl) (Nat.le_of_ble_eq_true rfl) (Or.inr (zrcv_o (zPln_t9 hp))) (Cv.imp h (fun mem13 h => ?_))
        refine zW.go 2 8 [(2, 3), (0, x1), (0, r11), (0, (x3 + 1)), (0, r8)] [] _ rfl ?_
        exact h (0, r8)
set_option maxRecDepth 4000 in
theorem s_parser_readProduct {X : zX} {d : Nat} {rf mem : zF} {Q : Int → zF → Prop} (hR : zall rf zRK = true) {p : Nat} (hp : zPln rf p) (hpl : rf 3 1 = ((p : Nat) : Int)) {x1 : Int} (h : Ci X d 47 [(2, 3), (0, x1)] rf mem (fun r1 mem2 => L_parser_readProduct_8 X d rf Q mem2 p x1 r1 0)) : Ci X (d + 1) 45 [(2, 3), (0, x1)] rf mem Q := by
  show zW X (d + 1) 45 0 [(2, 3), (0, x1), (9, 0), (9, 0), (9, 0)] [] (zty, rf, mem) (qi rf Q)
  refine zW.go 2 2 [(2, 3), (0, x1), (9, 0), (9, 0), (9, 0)] [(0, x1), (2, 3)] _ rfl ?_
  refine w_calli (as := [(2, 3), (0, x1)]) [] 5 rfl rfl rfl rfl (Nat.le_of_ble_eq_true rfl) (Nat.le_of_ble_eq_true rfl) (Nat.le_of_ble_eq_true rfl) (Or.inr rfl) (Ci.imp h (fun r1 mem2 h => ?_))
  refine zW.go 3 8 [(2, 3), (0, x1), (0, r1), (0, 0), (9, 0)] [] _ rfl ?_
  exact h (9, 0)
set_option maxRecDepth 4000 in
theorem s_parser_productCode {X : zX} {d : Nat} {rf mem : zF} {Q : Int → zF → Prop} (hR : zall rf zRK = true) {p : Nat} (hp : zPln rf p) (hpl : rf 3 1 = ((p : Nat) : Int)) (h : Ci X d 133 [(2, 4), (0, 42)] rf mem (fun r1 mem2 => (inI r1) ∧ ((r1 = 0 → Ci X d 133 [(2, 4), (0, 47)] rf mem2 (fun r4 mem5 => (inI r4) ∧ ((r4 = 0 → Ci X d 133 [(2, 4), (0, 37)] rf mem5 (fun r7 mem8 => (inI r7) ∧ ((r7 = 0 → Q 0 mem8) ∧ (¬ r7 = 0 → Q (-11) mem8)))) ∧ (¬ r4 = 0 → Q (-10) mem5)))) ∧ (¬ r1 = 0 → Q (-9) mem2)))) : Ci X (d + 1) 46 [(2, 3)] rf mem Q := by
  show zW X (d + 1) 46 0 [(2, 3)] [] (zty, rf, mem) (qi rf Q)
  refine zW.go 1 1 [(2, 3)] [(2, 3)] _ rfl ?_
  refine w_getL (q := 3) (v := 4) rfl (by decide) (pc' := 4) rfl ⟨by decide, rfl⟩ rfl rfl (zall_at hR (by decide)) ?_
  refine zW.go 1 6 [(2, 3)] [(0, 42), (2, 4)] _ rfl ?_
  refine w_calli (as := [(2, 4), (0, 42)]) [] 9 rfl rfl rfl rfl (Nat.le_of_ble_eq_true rfl) (Nat.le_of_ble_eq_true rfl) (Nat.le_of_ble_eq_true rfl) (Or.inr rfl) (Ci.imp h (fun r1 mem2 h => ?_))
  refine w_if_eq rfl (by decide) (pc' := 12) rfl h.1 (fun c3 => ?_) (fun c3 => ?_)
  · have h := h.2.1 c3
    refine zW.go 1 16 [(2, 3)] [(2, 3)] _ rfl ?_
    refine w_getL (q := 3) (v := 4) rfl (by decide) (pc' := 19) rfl ⟨by decide, rfl⟩ rfl rfl (zall_at hR (by decide)) ?_
    refine zW.go 1 21 [(2, 3)] [(0, 47), (2, 4)] _ rfl ?_
    refine w_calli (as := [(2, 4), (0, 47)]) [] 24 rfl rfl rfl rfl (Nat.le_of_ble_eq_true rfl) (Nat.le_of_ble_eq_true rfl) (Nat.le_of_ble_eq_true rfl) (Or.inr rfl) (Ci.imp h (fun r4 mem5 h => ?_))
    refine w_if_eq rfl (by decide) (pc' := 27) rfl h.1 (fun c6 => ?_) (fun c6 => ?_)
    · have h := h.2.1 c6
      refine zW.go 1 33 [(2, 3)] [(2, 3)] _ rfl ?_
      refine w_getL (q := 3) (v := 4) rfl (by decide) (pc' := 36) rfl ⟨by decide, rfl⟩ rfl rfl (zall_at hR (by decide)) ?_
      refine zW.go 1 38 [(2, 3)] [(0, 37), (2, 4)] _ rfl ?_
      refine w_calli (as := [(2, 4), (0, 37)]) [] 41 rfl rfl rfl rfl (Nat.le_of_ble_eq_true rfl) (Nat.le_of_ble_eq_true rfl) (Nat.le_of_ble_eq_true rfl) (Or.inr rfl) (Ci.imp h (fun r7 mem8 h => ?_))
      refine w_if_eq rfl (by decide) (pc' := 44) rfl h.1 (fun c9 => ?_) (fun c9 => ?_)
      · have h := h.2.1 c9
        refine zW.go 1 50 [(2, 3)] [(0, 0)] _ rfl ?_
        exact w_reti rfl rfl h
      · have h := h.2.2 c9
        refine zW.go 2 50 [(2, 3)] [(0, (-11))] _ rfl ?_
        exact w_reti rfl rfl h
    · have h := h.2.2 c6
      refine zW.go 2 50 [(2, 3)] [(0, (-10))] _ rfl ?_
      exact w_reti rfl rfl h
  · have h := h.2.2 c3
    refine zW.go 1 14 [(2, 3)] [(0, (-9))] _ rfl ?_
    exact w_reti rfl rfl h
set_option maxRecDepth 4000 in
theorem s_parser_readPart {X : zX} {d : Nat} {rf mem : zF} {Q : Int → zF → Prop} (hR : zall rf zRK = true) {p : Nat} (hp : zPln rf p) (hpl : rf 3 1 = ((p : Nat) : Int)) {x1 : Int} (h : Ci X d 134 [(2, 4)] rf mem (fun r1 mem2 => (inI r1) ∧ ((r1 = 0 → Ci X d 133 [(2, 4), (0, 40)] rf mem2 (fun r4 mem5 => (inI r4) ∧ ((r4 = 0 → (inI (mem5 4 8)) ∧ (((mem5 4 8) = 20020 → Ci X d 50 [(2, 3), (0, x1)] rf mem5 (fun r7 mem8 => (r7 = 0 ∨ r7 = 1) ∧ Q r7 mem8)) ∧ ((mem5 4 8) = 20025 → Ci X d 49 [(2, 3), (0, (-12)), (0, x1)] rf mem5 (fun r9 mem10 => (r9 = 0 ∨ r9 = 1) ∧ Q r9 mem10)) ∧ ((mem5 4 8) = 20026 → Ci X d 49 [(2, 3), (0, (-13)), (0, x1)] rf mem5 (fun r11 mem12 => (r11 = 0 ∨ r11 = 1) ∧ Q r11 mem12)) ∧ (((mem5 4 8) ≠ 20020 ∧ (mem5 4 8) ≠ 20025 ∧ (mem5 4 8) ≠ 20026) → Ci X d 51 [(2, 3)] rf mem5 (fun r13 mem14 => (r13 = 0 ∨ r13 = 1) ∧ Q r13 mem14)))) ∧ (¬ r4 = 0 → Ci X d 48 [(2, 3), (0, 40), (0, x1)] rf mem5 (fun r15 mem16 => (inI r15) ∧ ((r15 = 0 → Q 0 mem16) ∧ (¬ r15 = 0 → Ci X d 43 [(2, 3), (0, (x1 + 1))] rf mem16 (fun r18 mem19 => (inI r18) ∧ ((r18 = 0 → Q 0 mem19) ∧ (¬ r18 = 0 → Ci X d 36 [(2, 3), (0, 41)] rf mem19 (fun r21 mem22 => (inI r21) ∧ ((r21 = 0 → Q 0 mem22) ∧ (¬ r21 = 0 → Q 1 mem22))))))))))))) ∧ (¬ r1 = 0 → Cv X d 77 [(2, ((p + 9 : Nat) : Int)), (0, (mem2 4 8))] rf mem2 (fun mem24 => Cv X d 132 [(2, 4)] rf mem24 (fun mem25 => Q 1 mem25)))))) : Ci X (d + 1) 47 [(2, 3), (0, x1)] rf mem Q := by
  show zW X (d + 1) 47 0 [(2, 3), (0, x1)] [] (zty, rf, mem) (qi rf Q)
  refine zW.go 1 1 [(2, 3), (0, x1)] [(2, 3)] _ rfl ?_
  refine w_getL (q := 3) (v := 4) rfl (by decide) (pc' := 4) rfl ⟨by decide, rfl⟩ rfl rfl (zall_at hR (by decide)) ?_
  refine w_calli (as := [(2, 4)]) [] 7 rfl rfl rfl rfl (Nat.le_of_ble_eq_true rfl) (Nat.le_of_ble_eq_true rfl) (Nat.le_of_ble_eq_true rfl) (Or.inr rfl) (Ci.imp h (fun r1 mem2 h => ?_))
  refine w_if_eq rfl (by decide) (pc' := 10) rfl h.1 (fun c3 => ?_) (fun c3 => ?_)
  · have h := h.2.1 c3
    refine zW.go 1 37 [(2, 3), (0, x1)] [(2, 3)] _ rfl ?_
    refine w_getL (q := 3) (v := 4) rfl (by decide) (pc' := 40) rfl ⟨by decide, rfl⟩ rfl rfl (zall_at hR (by decide)) ?_
    refine zW.go 1 42 [(2, 3), (0, x1)] [(0, 40), (2, 4)] _ rfl ?_
    refine w_calli (as := [(2, 4), (0, 40)]) [] 45 rfl rfl rfl rfl (Nat.le_of_ble_eq_true rfl) (Nat.le_of_ble_eq_true rfl) (Nat.le_of_ble_eq_true rfl) (Or.inr rfl) (Ci.imp h (fun r4 mem5 h => ?_))
    refine w_if_eq rfl (by decide) (pc' := 48) rfl h.1 (fun c6 => ?_) (fun c6 => ?_)
    · have h := h.2.1 c6
      refine zW.go 1 84 [(2, 3), (0, x1)] [(2, 3)] _ rfl ?_
      refine w_getL (q := 3) (v := 4) rfl (by decide) (pc' := 87) rfl ⟨by decide, rfl⟩ rfl rfl (zall_at hR (by decide)) ?_
      refine w_getI (q := 4) rfl (by decide) (pc' := 90) rfl ⟨by decide, rfl⟩ rfl (by decide) ?_
      obtain ⟨g, h⟩ := h
      by_cases e0 : (mem5 4 8) = 20020
      · refine w_look 140 rfl (by decide) g (by decide) (by rw [e0]; rfl) ?_
        have h := h.1 e0
        refine zW.go 2 142 [(2, 3), (0, x1)] [(0, x1), (2, 3)] _ rfl ?_
        refine w_calli (as := [(2, 3), (0, x1)]) [] 145 rfl rfl rfl rfl (Nat.le_of_ble_eq_true rfl) (Nat.le_of_ble_eq_true rfl) (Nat.le_of_ble_eq_true rfl) (Or.inr rfl) (Ci.imp h (fun r7 mem8 h => ?_))
        exact w_retz rfl rfl h.1 h.2
      · by_cases e1 : (mem5 4 8) = 20025
        · refine w_look 124 rfl (by decide) g (by decide) (by rw [e1]; rfl) ?_
          have h := h.2.1 e1
          refine zW.go 3 128 [(2, 3), (0, x1)] [(0, x1), (0, (-12)), (2, 3)] _ rfl ?_
          refine w_calli (as := [(2, 3), (0, (-12)), (0, x1)]) [] 131 rfl rfl rfl rfl (Nat.le_of_ble_eq_true rfl) (Nat.le_of_ble_eq_true rfl) (Nat.le_of_ble_eq_true rfl) (Or.inr rfl) (Ci.imp h (fun r9 mem10 h => ?_))
          exact w_retz rfl rfl h.1 h.2
        · by_cases e2 : (mem5 4 8) = 20026
          · refine w_look 132 rfl (by decide) g (by decide) (by rw [e2]; rfl) ?_
            have h := h.2.2.1 e2
            refine zW.go 3 136 [(2, 3), (0, x1)] [(0, x1), (0, (-13)), (2, 3)] _ rfl ?_
            refine w_calli (as := [(2, 3), (0, (-13)), (0, x1)]) [] 139 rfl rfl rfl rfl (Nat.le_of_ble_eq_true rfl) (Nat.le_of_ble_eq_true rfl) (Nat.le_of_ble_eq_true rfl) (Or.inr rfl) (Ci.imp h (fun r11 mem12 h => ?_))
            exact w_retz rfl rfl h.1 h.2
          · refine w_look 146 rfl (by decide) g (by decide) (by simp [Op.lookupswitch.offset, e0, Ne.symm e0, e1, Ne.symm e1, e2, Ne.symm e2]) ?_
            have h := h.2.2.2 ⟨e0, e1, e2⟩
            refine zW.go 1 147 [(2, 3), (0, x1)] [(2, 3)] _ rfl ?_
            refine w_calli (as := [(2, 3)]) [] 150 rfl rfl rfl rfl (Nat.le_of_ble_eq_true rfl) (Nat.le_of_ble_eq_true rfl) (Nat.le_of_ble_eq_true rfl) (Or.inr rfl) (Ci.imp h (fun r13 mem14 h => ?_))
            exact w_retz rfl rfl h.1 h.2
    · have h := h.2.2 c6
      refine zW.go 3 52 [(2, 3), (0, x1)] [(0, x1), (0, 40), (2, 3)] _ rfl ?_
      refine w_calli (as := [(2, 3), (0, 40), (0, x1)]) [] 55 rfl rfl rfl rfl (Nat.le_of_ble_eq_true rfl) (Nat.le_of_ble_eq_true rfl) (Nat.le_of_ble_eq_true rfl) (Or.inr rfl) (Ci.imp h (fun r15 mem16 h => ?_))
      refine w_if_eq rfl (by decide) (pc' := 58) rfl h.1 (fun c17 => ?_) (fun c17 => ?_)
      · have h := h.2.1 c17
        refine zW.go 1 82 [(2, 3), (0, x1)] [(0, 0)] _ rfl ?_
        exact w_retz rfl rfl (by decide) h
      · have h := h.2.2 c17
        refine zW.go 4 62 [(2, 3), (0, x1)] [(0, (x1 + 1)), (2, 3)] _ rfl ?_
        refine w_calli (as := [(2, 3), (0, (x1 + 1))]) [] 65 rfl rfl rfl rfl (Nat.le_of_ble_eq_true rfl) (Nat.le_of_ble_eq_true rfl) (Nat.le_of_ble_eq_true rfl) (Or.inr rfl) (Ci.imp h (fun r18 mem19 h => ?_))
        refine w_if_eq rfl (by decide) (pc' := 68) rfl h.1 (fun c20 => ?_) (fun c20 => ?_)
        · have h := h.2.1 c20
          refine zW.go 1 82 [(2, 3), (0, x1)] [(0, 0)] _ rfl ?_
          exact w_retz rfl rfl (by decide) h
        · have h := h.2.2 c20
          refine zW.go 2 71 [(2, 3), (0, x1)] [(0, 41), (2, 3)] _ rfl ?_
          refine w_calli (as := [(2, 3), (0, 41)]) [] 74 rfl rfl rfl rfl (Nat.le_of_ble_eq_true rfl) (Nat.le_of_ble_eq_true rfl) (Nat.le_of_ble_eq_true rfl) (Or.inr rfl) (Ci.imp h (fun r21 mem22 h => ?_))
          refine w_if_eq rfl (by decide) (pc' := 77) rfl h.1 (fun c23 => ?_) (fun c23 => ?_)
          · have h := h.2.1 c23
            refine zW.go 1 82 [(2, 3), (0, x1)] [(0, 0)] _ rfl ?_
            exact w_retz rfl rfl (by decide) h
          · have h := h.2.2 c23
            refine zW.go 2 82 [(2, 3), (0, x1)] [(0, 1)] _ rfl ?_
            exact w_retz rfl rfl (by decide) h
  · have h := h.2.2 c3
    refine zW.go 1 11 [(2, 3), (0, x1)] [(2, 3)] _ rfl ?_
    refine w_getL (q := 3) (v := ((p : Nat) : Int)) rfl (by decide) (pc' := 14) rfl ⟨by decide, rfl⟩ rfl rfl hpl ?_
    refine w_getL (q := p) (v := ((p + 9 : Nat) : Int)) rfl (by decide) (pc' := 17) rfl ⟨Int.natCast_nonneg _, rfl⟩ (zPln_t0 hp) rfl (zPln_r0_14 hp) ?_
    refine zW.go 1 18 [(2, 3), (0, x1)] [(2, 3), (2, ((p + 9 : Nat) : Int))] _ rfl ?_
    refine w_getL (q := 3) (v := 4) rfl (by decide) (pc' := 21) rfl ⟨by decide, rfl⟩ rfl rfl (zall_at hR (by decide)) ?_
    refine w_getI (q := 4) rfl (by decide) (pc' := 24) rfl ⟨by decide, rfl⟩ rfl (by decide) ?_
    refine w_callv (as := [(2, ((p + 9 : Nat) : Int)), (0, (mem2 4 8))]) [] 27 rfl rfl rfl rfl (Nat.le_of_ble_eq_true rfl) (Nat.le_of_ble_eq_true rfl) (Nat.le_of_ble_eq_true rfl) (Or.inr (zrcv_o (zPln_t9 hp))) (Cv.imp h (fun mem24 h => ?_))
    refine zW.go 1 28 [(2, 3), (0, x1)] [(2, 3)] _ rfl ?_
    refine w_getL (q := 3) (v := 4) rfl (by decide) (pc' := 31) rfl ⟨by decide, rfl⟩ rfl rfl (zall_at hR (by decide)) ?_
    refine w_callv (as := [(2, 4)]) [] 34 rfl rfl rfl rfl (Nat.le_of_ble_eq_true rfl) (Nat.le_of_ble_eq_true rfl) (Nat.le_of_ble_eq_true rfl) (Or.inr rfl) (Cv.imp h (fun mem25 h => ?_))
    refine zW.go 1 35 [(2, 3), (0, x1)] [(0, 1)] _ rfl ?_
    exact w_retz rfl rfl (by decide) h
set_option maxRecDepth 4000 in
theorem s_parser_readOpening {X : zX} {d : Nat} {rf mem : zF} {Q : Int → zF → Prop} (hR : zall rf zRK = true) {p : Nat} (hp : zPln rf p) (hpl : rf 3 1 = ((p : Nat) : Int)) {x1 : Int} {x2 : Int} (h : Ci X d 133 [(2, 4), (0, x1)] rf mem (fun r1 mem2 => (inI r1) ∧ ((r1 = 0 → Ci X d 36 [(2, 3), (0, x1)] rf mem2 (fun r4 mem5 => (r4 = 0 ∨ r4 = 1) ∧ Q r4 mem5)) ∧ (¬ r1 = 0 → (inI x2) ∧ ((x2 < 7 → Ci X d 36 [(2, 3), (0, x1)] rf mem2 (fun r7 mem8 => (r7 = 0 ∨ r7 = 1) ∧ Q r7 mem8)) ∧ (¬ x2 < 7 → Ci X d 26 [(2, 3), (0, 5)] rf mem2 (fun r9 mem10 => (r9 = 0 ∨ r9 = 1) ∧ Q r9 mem10))))))) : Ci X (d + 1) 48 [(2, 3), (0, x1), (0, x2)] rf mem Q := by
  show zW X (d + 1) 48 0 [(2, 3), (0, x1), (0, x2)] [] (zty, rf, mem) (qi rf Q)
  refine zW.go 1 1 [(2, 3), (0, x1), (0, x2)] [(2, 3)] _ rfl ?_
  refine w_getL (q := 3) (v := 4) rfl (by decide) (pc' := 4) rfl ⟨by decide, rfl⟩ rfl rfl (zall_at hR (by decide)) ?_
  refine zW.go 1 5 [(2, 3), (0, x1), (0, x2)] [(0, x1), (2, 4)] _ rfl ?_
  refine w_calli (as := [(2, 4), (0, x1)]) [] 8 rfl rfl rfl rfl (Nat.le_of_ble_eq_true rfl) (Nat.le_of_ble_eq_true rfl) (Nat.le_of_ble_eq_true rfl) (Or.inr rfl) (Ci.imp h (fun r1 mem2 h => ?_))
  refine w_if_eq rfl (by decide) (pc' := 11) rfl h.1 (fun c3 => ?_) (fun c3 => ?_)
  · have h := h.2.1 c3
    refine zW.go 2 25 [(2, 3), (0, x1), (0, x2)] [(0, x1), (2, 3)] _ rfl ?_
    refine w_calli (as := [(2, 3), (0, x1)]) [] 28 rfl rfl rfl rfl (Nat.le_of_ble_eq_true rfl) (Nat.le_of_ble_eq_true rfl) (Nat.le_of_ble_eq_true rfl) (Or.inr rfl) (Ci.imp h (fun r4 mem5 h => ?_))
    exact w_retz rfl rfl h.1 h.2
  · have h := h.2.2 c3
    refine zW.go 2 14 [(2, 3), (0, x1), (0, x2)] [(0, 7), (0, x2)] _ rfl ?_
    refine w_ic_lt rfl (by decide) (pc' := 17) rfl ⟨h.1, by decide⟩ (fun c6 => ?_) (fun c6 => ?_)
    · have h := h.2.1 c6
      refine zW.go 2 25 [(2, 3), (0, x1), (0, x2)] [(0, x1), (2, 3)] _ rfl ?_
      refine w_calli (as := [(2, 3), (0, x1)]) [] 28 rfl rfl rfl rfl (Nat.le_of_ble_eq_true rfl) (Nat.le_of_ble_eq_true rfl) (Nat.le_of_ble_eq_true rfl) (Or.inr rfl) (Ci.imp h (fun r7 mem8 h => ?_))
      exact w_retz rfl rfl h.1 h.2
    · have h := h.2.2 c6
      refine zW.go 2 19 [(2, 3), (0, x1), (0, x2)] [(0, 5), (2, 3)] _ rfl ?_
      refine w_calli (as := [(2, 3), (0, 5)]) [] 22 rfl rfl rfl rfl (Nat.le_of_ble_eq_true rfl) (Nat.le_of_ble_eq_true rfl) (Nat.le_of_ble_eq_true rfl) (Or.inr rfl) (Ci.imp h (fun r9 mem10 h => ?_))
      exact w_retz rfl rfl h.1 h.2
def L_parser_readPair_60 (X : zX) (d : Nat) (rf : zF) (Q : Int → zF → Prop) (mem : zF) (p : Nat) (x1 : Int) (s0 : Int) : Prop := ∀ z2 : zV, z2.1 ≠ 1 → ∀ z3 : zV, zW X (d + 1) 49 60 [(2, 3), (0, x1), z2, z3] [(0, s0)] (zty, rf, mem) (qi rf Q)
set_option maxRecDepth 4000 in
theorem s_parser_readPair_60 {X : zX} {d : Nat} {rf mem : zF} {Q : Int → zF → Prop} (hR : zall rf zRK = true) {p : Nat} (hp : zPln rf p) (hpl : rf 3 1 = ((p : Nat) : Int)) {x1 : Int} {s0 : Int} (h : Cv X d 77 [(2, ((p + 9 : Nat) : Int)), (0, x1)] rf mem (fun mem17 => (s0 = 0 ∨ s0 = 1) ∧ Q s0 mem17)) : L_parser_readPair_60 X d rf Q mem p x1 s0 := by
  intro z2 hz2 z3
  refine zW.step 61 [(2, 3), (0, x1), z2, (0, s0)] [] _ rfl (by decide) (by decide) (by show some (_, zst1 [(2, 3), (0, x1), z2, z3] 3 _, _, _) = _; rw [zst1_z (ls := [(2, 3), (0, x1), z2, z3]) (i := 3) hz2]; rfl) ?_
  refine zW.go 1 62 [(2, 3), (0, x1), z2, (0, s0)] [(2, 3)] _ rfl ?_
  refine w_getL (q := 3) (v := ((p : Nat) : Int)) rfl (by decide) (pc' := 65) rfl ⟨by decide, rfl⟩ rfl rfl hpl ?_
  refine w_getL (q := p) (v := ((p + 9 : Nat) : Int)) rfl (by decide) (pc' := 68) rfl ⟨Int.natCast_nonneg _, rfl⟩ (zPln_t0 hp) rfl (zPln_r0_14 hp) ?_
  refine zW.go 1 69 [(2, 3), (0, x1), z2, (0, s0)] [(0, x1), (2, ((p + 9 : Nat) : Int))] _ rfl ?_
  refine w_callv (as := [(2, ((p + 9 : Nat) : Int)), (0, x1)]) [] 72 rfl rfl rfl rfl (Nat.le_of_ble_eq_true rfl) (Nat.le_of_ble_eq_true rfl) (Nat.le_of_ble_eq_true rfl) (Or.inr (zrcv_o (zPln_t9 hp))) (Cv.imp h (fun mem17 h => ?_))
  refine zW.go 1 73 [(2, 3), (0, x1), z2, (0, s0)] [(0, s0)] _ rfl ?_
  exact w_retz rfl rfl h.1 h.2
set_option maxRecDepth 4000 in
theorem s_parser_readPair {X : zX} {d : Nat} {rf mem : zF} {Q : Int → zF → Prop} (hR : zall rf zRK = true) {p : Nat} (hp : zPln rf p) (hpl : rf 3 1 = ((p : Nat) : Int)) {x1 : Int} {x2 : Int} (h : Cv X d 132 [(2, 4)] rf mem (fun mem1 => Ci X d 48 [(2, 3), (0, 40), (0, x2)] rf mem1 (fun r2 mem3 => (inI r2) ∧ ((r2 = 0 → L_parser_readPair_60 X d rf Q mem3 p x1 0) ∧ (¬ r2 = 0 → Ci X d 43 [(2, 3), (0, (x2 + 1))] rf mem3 (fun r5 mem6 => (inI r5) ∧ ((r5 = 0 → L_parser_readPair_60 X d rf Q mem6 p x1 0) ∧ (¬ r5 = 0 → Ci X d 36 [(2, 3), (0, 44)] rf mem6 (fun r8 mem9 => (inI r8) ∧ ((r8 = 0 → L_parser_readPair_60 X d rf Q mem9 p x1 0) ∧ (¬ r8 = 0 → Ci X d 43 [(2, 3), (0, (x2 + 1))] rf mem9 (fun r11 mem12 => (inI r11) ∧ ((r11 = 0 → L_parser_readPair_60 X d rf Q mem12 p x1 0) ∧ (¬ r11 = 0 → Ci X d 36 [(2, 3), (0, 41)] rf mem12 (fun r14 mem15 => (inI r14) ∧ ((r14 = 0 → L_parser_readPair_60 X d rf Q mem15 p x1 0) ∧ (¬ r14 = 0 → L_parser_readPair_60 X d rf Q mem15 p x1 1))))))))))))))))) : Ci X (d + 1) 49 [(2, 3), (0, x1), (0, x2)] rf mem Q := by
  show zW X (d + 1) 49 0 [(2, 3), (0, x1), (0, x2), (9, 0)] [] (zty, rf, mem) (qi rf Q)
  refine zW.go 1 1 [(2, 3), (0, x1), (0, x2), (9, 0)] [(2, 3)] _ rfl ?_
  refine w_getL (q := 3) (v := 4) rfl (by decide) (pc' := 4) rfl ⟨by decide, rfl⟩ rfl rfl (zall_at hR (by decide)) ?_
  refine w_callv (as := [(2, 4)]) [] 7 rfl rfl rfl rfl (Nat.le_of_ble_eq_true rfl) (Nat.le_of_ble_eq_true rfl) (Nat.le_of_ble_eq_true rfl) (Or.inr rfl) (Cv.imp h (fun mem1 h => ?_))
  refine zW.go 3 11 [(2, 3), (0, x1), (0, x2), (9, 0)] [(0, x2), (0, 40), (2, 3)] _ rfl ?_
  refine w_calli (as := [(2, 3), (0, 40), (0, x2)]) [] 14 rfl rfl rfl rfl (Nat.le_of_ble_eq_true rfl) (Nat.le_of_ble_eq_true rfl) (Nat.le_of_ble_eq_true rfl) (Or.inr rfl) (Ci.imp h (fun r2 mem3 h => ?_))
  refine w_if_eq rfl (by decide) (pc' := 17) rfl h.1 (fun c4 => ?_) (fun c4 => ?_)
  · have h := h.2.1 c4
    refine zW.go 1 60 [(2, 3), (0, x1), (0, x2), (9, 0)] [(0, 0)] _ rfl ?_
    exact h (0, x2) (by show (0 : Nat) ≠ 1; decide) (9, 0)
  · have h := h.2.2 c4
    refine zW.go 4 21 [(2, 3), (0, x1), (0, x2), (9, 0)] [(0, (x2 + 1)), (2, 3)] _ rfl ?_
    refine w_calli (as := [(2, 3), (0, (x2 + 1))]) [] 24 rfl rfl rfl rfl (Nat.le_of_ble_eq_true rfl) (Nat.le_of_ble_eq_true rfl) (Nat.le_of_ble_eq_true rfl) (Or.inr rfl) (Ci.imp h (fun r5 mem6 h => ?_))
    refine w_if_eq rfl (by decide) (pc' := 27) rfl h.1 (fun c7 => ?_) (fun c7 => ?_)
    · have h := h.2.1 c7
      refine zW.go 1 60 [(2, 3), (0, x1), (0, x2), (9, 0)] [(0, 0)] _ rfl ?_
      exact h (0, x2) (by show (0 : Nat) ≠ 1; decide) (9, 0)
    · have h := h.2.2 c7
      refine zW.go 2 30 [(2, 3), (0, x1), (0, x2), (9, 0)] [(0, 44), (2, 3)] _ rfl ?_
      refine w_calli (as := [(2, 3), (0, 44)]) [] 33 rfl rfl rfl rfl (Nat.le_of_ble_eq_true rfl) (Nat.le_of_ble_eq_true rfl) (Nat.le_of_ble_eq_true rfl) (Or.inr rfl) (Ci.imp h (fun r8 mem9 h => ?_))
      refine w_if_eq rfl (by decide) (pc' := 36) rfl h.1 (fun c10 => ?_) (fun c10 => ?_)
      · have h := h.2.1 c10
        refine zW.go 1 60 [(2, 3), (0, x1), (0, x2), (9, 0)] [(0, 0)] _ rfl ?_
        exact h (0, x2) (by show (0 : Nat) ≠ 1; decide) (9, 0)
      · have h := h.2.2 c10
        refine zW.go 4 40 [(2, 3), (0, x1), (0, x2), (9, 0)] [(0, (x2 + 1)), (2, 3)] _ rfl ?_
        refine w_calli (as := [(2, 3), (0, (x2 + 1))]) [] 43 rfl rfl rfl rfl (Nat.le_of_ble_eq_true rfl) (Nat.le_of_ble_eq_true rfl) (Nat.le_of_ble_eq_true rfl) (Or.inr rfl) (Ci.imp h (fun r11 mem12 h => ?_))
        refine w_if_eq rfl (by decide) (pc' := 46) rfl h.1 (fun c13 => ?_) (fun c13 => ?_)
        · have h := h.2.1 c13
          refine zW.go 1 60 [(2, 3), (0, x1), (0, x2), (9, 0)] [(0, 0)] _ rfl ?_
          exact h (0, x2) (by show (0 : Nat) ≠ 1; decide) (9, 0)
        · have h := h.2.2 c13
          refine zW.go 2 49 [(2, 3), (0, x1), (0, x2), (9, 0)] [(0, 41), (2, 3)] _ rfl ?_
          refine w_calli (as := [(2, 3), (0, 41)]) [] 52 rfl rfl rfl rfl (Nat.le_of_ble_eq_true rfl) (Nat.le_of_ble_eq_true rfl) (Nat.le_of_ble_eq_true rfl) (Or.inr rfl) (Ci.imp h (fun r14 mem15 h => ?_))
          refine w_if_eq rfl (by decide) (pc' := 55) rfl h.1 (fun c16 => ?_) (fun c16 => ?_)
          · have h := h.2.1 c16
            refine zW.go 1 60 [(2, 3), (0, x1), (0, x2), (9, 0)] [(0, 0)] _ rfl ?_
            exact h (0, x2) (by show (0 : Nat) ≠ 1; decide) (9, 0)
          · have h := h.2.2 c16
            refine zW.go 2 60 [(2, 3), (0, x1), (0, x2), (9, 0)] [(0, 1)] _ rfl ?_
            exact h (0, x2) (by show (0 : Nat) ≠ 1; decide) (9, 0)
def L_parser_readChoice_79 (X : zX) (d : Nat) (rf : zF) (Q : Int → zF → Prop) (mem : zF) (p : Nat) (s0 : Int) : Prop := ∀ z1 : zV, z1.1 ≠ 1 → ∀ z2 : zV, zW X (d + 1) 50 79 [(2, 3), z1, z2] [(0, s0)] (zty, rf, mem) (qi rf Q)
set_option maxRecDepth 4000 in
theorem s_parser_readChoice_79 {X : zX} {d : Nat} {rf mem : zF} {Q : Int → zF → Prop} (hR : zall rf zRK = true) {p : Nat} (hp : zPln rf p) (hpl : rf 3 1 = ((p : Nat) : Int)) {s0 : Int} (h : Cv X d 77 [(2, ((p + 9 : Nat) : Int)), (0, (-20))] rf mem (fun mem23 => (s0 = 0 ∨ s0 = 1) ∧ Q s0 mem23)) : L_parser_readChoice_79 X d rf Q mem p s0 := by
  intro z1 hz1 z2
  refine zW.step 80 [(2, 3), z1, (0, s0)] [] _ rfl (by decide) (by decide) (by show some (_, zst1 [(2, 3), z1, z2] 2 _, _, _) = _; rw [zst1_z (ls := [(2, 3), z1, z2]) (i := 2) hz1]; rfl) ?_
  refine zW.go 1 81 [(2, 3), z1, (0, s0)] [(2, 3)] _ rfl ?_
  refine w_getL (q := 3) (v := ((p : Nat) : Int)) rfl (by decide) (pc' := 84) rfl ⟨by decide, rfl⟩ rfl rfl hpl ?_
  refine w_getL (q := p) (v := ((p + 9 : Nat) : Int)) rfl (by decide) (pc' := 87) rfl ⟨Int.natCast_nonneg _, rfl⟩ (zPln_t0 hp) rfl (zPln_r0_14 hp) ?_
  refine zW.go 1 89 [(2, 3), z1, (0, s0)] [(0, (-20)), (2, ((p + 9 : Nat) : Int))] _ rfl ?_
  refine w_callv (as := [(2, ((p + 9 : Nat) : Int)), (0, (-20))]) [] 92 rfl rfl rfl rfl (Nat.le_of_ble_eq_true rfl) (Nat.le_of_ble_eq_true rfl) (Nat.le_of_ble_eq_true rfl) (Or.inr (zrcv_o (zPln_t9 hp))) (Cv.imp h (fun mem23 h => ?_))
  refine zW.go 1 93 [(2, 3), z1, (0, s0)] [(0, s0)] _ rfl ?_
  exact w_retz rfl rfl h.1 h.2
set_option maxRecDepth 4000 in
theorem s_parser_readChoice {X : zX} {d : Nat} {rf mem : zF} {Q : Int → zF → Prop} (hR : zall rf zRK = true) {p : Nat} (hp : zPln rf p) (hpl : rf 3 1 = ((p : Nat) : Int)) {x1 : Int} (h : Cv X d 132 [(2, 4)] rf mem (fun mem1 => Ci X d 48 [(2, 3), (0, 40), (0, x1)] rf mem1 (fun r2 mem3 => (inI r2) ∧ ((r2 = 0 → L_parser_readChoice_79 X d rf Q mem3 p 0) ∧ (¬ r2 = 0 → Ci X d 53 [(2, 3), (0, (x1 + 1))] rf mem3 (fun r5 mem6 => (inI r5) ∧ ((r5 = 0 → L_parser_readChoice_79 X d rf Q mem6 p 0) ∧ (¬ r5 = 0 → Ci X d 36 [(2, 3), (0, 44)] rf mem6 (fun r8 mem9 => (inI r8) ∧ ((r8 = 0 → L_parser_readChoice_79 X d rf Q mem9 p 0) ∧ (¬ r8 = 0 → Ci X d 43 [(2, 3), (0, (x1 + 1))] rf mem9 (fun r11 mem12 => (inI r11) ∧ ((r11 = 0 → L_parser_readChoice_79 X d rf Q mem12 p 0) ∧ (¬ r11 = 0 → Ci X d 36 [(2, 3), (0, 44)] rf mem12 (fun r14 mem15 => (inI r14) ∧ ((r14 = 0 → L_parser_readChoice_79 X d rf Q mem15 p 0) ∧ (¬ r14 = 0 → Ci X d 43 [(2, 3), (0, (x1 + 1))] rf mem15 (fun r17 mem18 => (inI r17) ∧ ((r17 = 0 → L_parser_readChoice_79 X d rf Q mem18 p 0) ∧ (¬ r17 = 0 → Ci X d 36 [(2, 3), (0, 41)] rf mem18 (fun r20 mem21 => (inI r20) ∧ ((r20 = 0 → L_parser_readChoice_79 X d rf Q mem21 p 0) ∧ (¬ r20 = 0 → L_parser_readChoice_79 X d rf Q mem21 p 1))))))))))))))))))))))) : Ci X (d + 1) 50 [(2, 3), (0, x1)] rf mem Q := by
  show zW X (d + 1) 50 0 [(2, 3), (0, x1), (9, 0)] [] (zty, rf, mem) (qi rf Q)
  refine zW.go 1 1 [(2, 3), (0, x1), (9, 0)] [(2, 3)] _ rfl ?_
  refine w_getL (q := 3) (v := 4) rfl (by decide) (pc' := 4) rfl ⟨by decide, rfl⟩ rfl rfl (zall_at hR (by decide)) ?_
  refine w_callv (as := [(2, 4)]) [] 7 rfl rfl rfl rfl (Nat.le_of_ble_eq_true rfl) (Nat.le_of_ble_eq_true rfl) (Nat.le_of_ble_eq_true rfl) (Or.inr rfl) (Cv.imp h (fun mem1 h => ?_))
  refine zW.go 3 11 [(2, 3), (0, x1), (9, 0)] [(0, x1), (0, 40), (2, 3)] _ rfl ?_
  refine w_calli (as := [(2, 3), (0, 40), (0, x1)]) [] 14 rfl rfl rfl rfl (Nat.le_of_ble_eq_true rfl) (Nat.le_of_ble_eq_true rfl) (Nat.le_of_ble_eq_true rfl) (Or.inr rfl) (Ci.imp h (fun r2 mem3 h => ?_))
  refine w_if_eq rfl (by decide) (pc' := 17) rfl h.1 (fun c4 => ?_) (fun c4 => ?_)
  · have h := h.2.1 c4
    refine zW.go 1 79 [(2, 3), (0, x1), (9, 0)] [(0, 0)] _ rfl ?_
    exact h (0, x1) (by show (0 : Nat) ≠ 1; decide) (9, 0)
  · have h := h.2.2 c4
    refine zW.go 4 21 [(2, 3), (0, x1), (9, 0)] [(0, (x1 + 1)), (2, 3)] _ rfl ?_
    refine w_calli (as := [(2, 3), (0, (x1 + 1))]) [] 24 rfl rfl rfl rfl (Nat.le_of_ble_eq_true rfl) (Nat.le_of_ble_eq_true rfl) (Nat.le_of_ble_eq_true rfl) (Or.inr rfl) (Ci.imp h (fun r5 mem6 h => ?_))
    refine w_if_eq rfl (by decide) (pc' := 27) rfl h.1 (fun c7 => ?_) (fun c7 => ?_)
    · have h := h.2.1 c7
      refine zW.go 1 79 [(2, 3), (0, x1), (9, 0)] [(0, 0)] _ rfl ?_
      exact h (0, x1) (by show (0 : Nat) ≠ 1; decide) (9, 0)
    · have h := h.2.2 c7
      refine zW.go 2 30 [(2, 3), (0, x1), (9, 0)] [(0, 44), (2, 3)] _ rfl ?_
      refine w_calli (as := [(2, 3), (0, 44)]) [] 33 rfl rfl rfl rfl (Nat.le_of_ble_eq_true rfl) (Nat.le_of_ble_eq_true rfl) (Nat.le_of_ble_eq_true rfl) (Or.inr rfl) (Ci.imp h (fun r8 mem9 h => ?_))
      refine w_if_eq rfl (by decide) (pc' := 36) rfl h.1 (fun c10 => ?_) (fun c10 => ?_)
      · have h := h.2.1 c10
        refine zW.go 1 79 [(2, 3), (0, x1), (9, 0)] [(0, 0)] _ rfl ?_
        exact h (0, x1) (by show (0 : Nat) ≠ 1; decide) (9, 0)
      · have h := h.2.2 c10
        refine zW.go 4 40 [(2, 3), (0, x1), (9, 0)] [(0, (x1 + 1)), (2, 3)] _ rfl ?_
        refine w_calli (as := [(2, 3), (0, (x1 + 1))]) [] 43 rfl rfl rfl rfl (Nat.le_of_ble_eq_true rfl) (Nat.le_of_ble_eq_true rfl) (Nat.le_of_ble_eq_true rfl) (Or.inr rfl) (Ci.imp h (fun r11 mem12 h => ?_))
        refine w_if_eq rfl (by decide) (pc' := 46) rfl h.1 (fun c13 => ?_) (fun c13 => ?_)
        · have h := h.2.1 c13
          refine zW.go 1 79 [(2, 3), (0, x1), (9, 0)] [(0, 0)] _ rfl ?_
          exact h (0, x1) (by show (0 : Nat) ≠ 1; decide) (9, 0)
        · have h := h.2.2 c13
          refine zW.go 2 49 [(2, 3), (0, x1), (9, 0)] [(0, 44), (2, 3)] _ rfl ?_
          refine w_calli (as := [(2, 3), (0, 44)]) [] 52 rfl rfl rfl rfl (Nat.le_of_ble_eq_true rfl) (Nat.le_of_ble_eq_true rfl) (Nat.le_of_ble_eq_true rfl) (Or.inr rfl) (Ci.imp h (fun r14 mem15 h => ?_))
          refine w_if_eq rfl (by decide) (pc' := 55) rfl h.1 (fun c16 => ?_) (fun c16 => ?_)
          · have h := h.2.1 c16
            refine zW.go 1 79 [(2, 3), (0, x1), (9, 0)] [(0, 0)] _ rfl ?_
            exact h (0, x1) (by show (0 : Nat) ≠ 1; decide) (9, 0)
          · have h := h.2.2 c16
            refine zW.go 4 59 [(2, 3), (0, x1), (9, 0)] [(0, (x1 + 1)), (2, 3)] _ rfl ?_
            refine w_calli (as := [(2, 3), (0, (x1 + 1))]) [] 62 rfl rfl rfl rfl (Nat.le_of_ble_eq_true rfl) (Nat.le_of_ble_eq_true rfl) (Nat.le_of_ble_eq_true rfl) (Or.inr rfl) (Ci.imp h (fun r17 mem18 h => ?_))
            refine w_if_eq rfl (by decide) (pc' := 65) rfl h.1 (fun c19 => ?_) (fun c19 => ?_)
            · have h := h.2.1 c19
              refine zW.go 1 79 [(2, 3), (0, x1), (9, 0)] [(0, 0)] _ rfl ?_
              exact h (0, x1) (by show (0 : Nat) ≠ 1; decide) (9, 0)
            · have h := h.2.2 c19
              refine zW.go 2 68 [(2, 3), (0, x1), (9, 0)] [(0, 41), (2, 3)] _ rfl ?_
              refine w_calli (as := [(2, 3), (0, 41)]) [] 71 rfl rfl rfl rfl (Nat.le_of_ble_eq_true rfl) (Nat.le_of_ble_eq_true rfl) (Nat.le_of_ble_eq_true rfl) (Or.inr rfl) (Ci.imp h (fun r20 mem21 h => ?_))
              refine w_if_eq rfl (by decide) (pc' := 74) rfl h.1 (fun c22 => ?_) (fun c22 => ?_)
              · have h := h.2.1 c22
                refine zW.go 1 79 [(2, 3), (0, x1), (9, 0)] [(0, 0)] _ rfl ?_
                exact h (0, x1) (by show (0 : Nat) ≠ 1; decide) (9, 0)
              · have h := h.2.2 c22
                refine zW.go 2 79 [(2, 3), (0, x1), (9, 0)] [(0, 1)] _ rfl ?_
                exact h (0, x1) (by show (0 : Nat) ≠ 1; decide) (9, 0)
set_option maxRecDepth 4000 in
theorem s_parser_readQuality {X : zX} {d : Nat} {rf mem : zF} {Q : Int → zF → Prop} (hR : zall rf zRK = true) {p : Nat} (hp : zPln rf p) (hpl : rf 3 1 = ((p : Nat) : Int)) (h : Ci X d 52 [(2, 3)] rf mem (fun r1 mem2 => (inI r1) ∧ ((¬ r1 = 0 → Cv X d 77 [(2, ((p + 9 : Nat) : Int)), (0, r1)] rf mem2 (fun mem4 => Cv X d 132 [(2, 4)] rf mem4 (fun mem5 => Q 1 mem5))) ∧ (r1 = 0 → Ci X d 26 [(2, 3), (0, 1)] rf mem2 (fun r6 mem7 => (r6 = 0 ∨ r6 = 1) ∧ Q r6 mem7))))) : Ci X (d + 1) 51 [(2, 3)] rf mem Q := by
  show zW X (d + 1) 51 0 [(2, 3), (9, 0)] [] (zty, rf, mem) (qi rf Q)
  refine zW.go 1 1 [(2, 3), (9, 0)] [(2, 3)] _ rfl ?_
  refine w_calli (as := [(2, 3)]) [] 4 rfl rfl rfl rfl (Nat.le_of_ble_eq_true rfl) (Nat.le_of_ble_eq_true rfl) (Nat.le_of_ble_eq_true rfl) (Or.inr rfl) (Ci.imp h (fun r1 mem2 h => ?_))
  refine zW.go 2 6 [(2, 3), (0, r1)] [(0, r1)] _ rfl ?_
  refine w_if_ne rfl (by decide) (pc' := 9) rfl h.1 (fun c3 => ?_) (fun c3 => ?_)
  · have h := h.2.1 c3
    refine zW.go 1 16 [(2, 3), (0, r1)] [(2, 3)] _ rfl ?_
    refine w_getL (q := 3) (v := ((p : Nat) : Int)) rfl (by decide) (pc' := 19) rfl ⟨by decide, rfl⟩ rfl rfl hpl ?_
    refine w_getL (q := p) (v := ((p + 9 : Nat) : Int)) rfl (by decide) (pc' := 22) rfl ⟨Int.natCast_nonneg _, rfl⟩ (zPln_t0 hp) rfl (zPln_r0_14 hp) ?_
    refine zW.go 1 23 [(2, 3), (0, r1)] [(0, r1), (2, ((p + 9 : Nat) : Int))] _ rfl ?_
    refine w_callv (as := [(2, ((p + 9 : Nat) : Int)), (0, r1)]) [] 26 rfl rfl rfl rfl (Nat.le_of_ble_eq_true rfl) (Nat.le_of_ble_eq_true rfl) (Nat.le_of_ble_eq_true rfl) (Or.inr (zrcv_o (zPln_t9 hp))) (Cv.imp h (fun mem4 h => ?_))
    refine zW.go 1 27 [(2, 3), (0, r1)] [(2, 3)] _ rfl ?_
    refine w_getL (q := 3) (v := 4) rfl (by decide) (pc' := 30) rfl ⟨by decide, rfl⟩ rfl rfl (zall_at hR (by decide)) ?_
    refine w_callv (as := [(2, 4)]) [] 33 rfl rfl rfl rfl (Nat.le_of_ble_eq_true rfl) (Nat.le_of_ble_eq_true rfl) (Nat.le_of_ble_eq_true rfl) (Or.inr rfl) (Cv.imp h (fun mem5 h => ?_))
    refine zW.go 1 34 [(2, 3), (0, r1)] [(0, 1)] _ rfl ?_
    exact w_retz rfl rfl (by decide) h
  · have h := h.2.2 c3
    refine zW.go 2 11 [(2, 3), (0, r1)] [(0, 1), (2, 3)] _ rfl ?_
    refine w_calli (as := [(2, 3), (0, 1)]) [] 14 rfl rfl rfl rfl (Nat.le_of_ble_eq_true rfl) (Nat.le_of_ble_eq_true rfl) (Nat.le_of_ble_eq_true rfl) (Or.inr rfl) (Ci.imp h (fun r6 mem7 h => ?_))
    exact w_retz rfl rfl h.1 h.2
set_option maxRecDepth 4000 in
theorem s_parser_qualityCode {X : zX} {d : Nat} {rf mem : zF} {Q : Int → zF → Prop} (hR : zall rf zRK = true) {p : Nat} (hp : zPln rf p) (hpl : rf 3 1 = ((p : Nat) : Int)) (h : (inI (mem 4 8)) ∧ (((mem 4 8) = 20009 → (inI (mem 3 2)) ∧ ((¬ (mem 3 2) = 1 → Q 0 mem) ∧ ((mem 3 2) = 1 → Q (-5) mem))) ∧ ((mem 4 8) = 20010 → Q 0 mem) ∧ ((mem 4 8) = 20011 → Q (-1) mem) ∧ ((mem 4 8) = 20012 → Q (-2) mem) ∧ ((mem 4 8) = 20013 → Q 0 mem) ∧ ((mem 4 8) = 20014 → Q 0 mem) ∧ ((mem 4 8) = 20015 → Q 0 mem) ∧ ((mem 4 8) = 20016 → Q 0 mem) ∧ ((mem 4 8) = 20017 → Q (-3) mem) ∧ ((mem 4 8) = 20018 → (inI (mem 3 2)) ∧ ((¬ (mem 3 2) = 0 → Q 0 mem) ∧ ((mem 3 2) = 0 → Q (-4) mem))) ∧ ((mem 4 8) = 20019 → (inI (mem 3 2)) ∧ ((¬ (mem 3 2) = 2 → Q 0 mem) ∧ ((mem 3 2) = 2 → Q (-6) mem))) ∧ (((mem 4 8) ≠ 20009 ∧ (mem 4 8) ≠ 20010 ∧ (mem 4 8) ≠ 20011 ∧ (mem 4 8) ≠ 20012 ∧ (mem 4 8) ≠ 20013 ∧ (mem 4 8) ≠ 20014 ∧ (mem 4 8) ≠ 20015 ∧ (mem 4 8) ≠ 20016 ∧ (mem 4 8) ≠ 20017 ∧ (mem 4 8) ≠ 20018 ∧ (mem 4 8) ≠ 20019) → Q 0 mem))) : Ci X d 52 [(2, 3)] rf mem Q := by
  show zW X d 52 0 [(2, 3)] [] (zty, rf, mem) (qi rf Q)
  refine zW.go 1 1 [(2, 3)] [(2, 3)] _ rfl ?_
  refine w_getL (q := 3) (v := 4) rfl (by decide) (pc' := 4) rfl ⟨by decide, rfl⟩ rfl rfl (zall_at hR (by decide)) ?_
  refine w_getI (q := 4) rfl (by decide) (pc' := 7) rfl ⟨by decide, rfl⟩ rfl (by decide) ?_
  obtain ⟨g, h⟩ := h
  by_cases e0 : (mem 4 8) = 20009
  · refine w_tabIn 86 rfl (by decide) g (by omega) (by rw [e0]; rfl) rfl ?_
    have h := h.1 e0
    refine zW.go 1 87 [(2, 3)] [(2, 3)] _ rfl ?_
    refine w_getI (q := 3) rfl (by decide) (pc' := 90) rfl ⟨by decide, rfl⟩ rfl (by decide) ?_
    refine zW.go 1 91 [(2, 3)] [(0, 1), (0, (mem 3 2))] _ rfl ?_
    refine w_ic_ne rfl (by decide) (pc' := 94) rfl ⟨h.1, by decide⟩ (fun c1 => ?_) (fun c1 => ?_)
    · have h := h.2.1 c1
      refine zW.go 1 100 [(2, 3)] [(0, 0)] _ rfl ?_
      exact w_reti rfl rfl h
    · have h := h.2.2 c1
      refine zW.go 2 100 [(2, 3)] [(0, (-5))] _ rfl ?_
      exact w_reti rfl rfl h
  · by_cases e1 : (mem 4 8) = 20010
    · refine w_tabIn 116 rfl (by decide) g (by omega) (by rw [e1]; rfl) rfl ?_
      have h := h.2.1 e1
      refine zW.go 1 117 [(2, 3)] [(0, 0)] _ rfl ?_
      exact w_reti rfl rfl h
    · by_cases e2 : (mem 4 8) = 20011
      · refine w_tabIn 64 rfl (by decide) g (by omega) (by rw [e2]; rfl) rfl ?_
        have h := h.2.2.1 e2
        refine zW.go 1 65 [(2, 3)] [(0, (-1))] _ rfl ?_
        exact w_reti rfl rfl h
      · by_cases e3 : (mem 4 8) = 20012
        · refine w_tabIn 66 rfl (by decide) g (by omega) (by rw [e3]; rfl) rfl ?_
          have h := h.2.2.2.1 e3
          refine zW.go 1 68 [(2, 3)] [(0, (-2))] _ rfl ?_
          exact w_reti rfl rfl h
        · by_cases e4 : (mem 4 8) = 20013
          · refine w_tabIn 116 rfl (by decide) g (by omega) (by rw [e4]; rfl) rfl ?_
            have h := h.2.2.2.2.1 e4
            refine zW.go 1 117 [(2, 3)] [(0, 0)] _ rfl ?_
            exact w_reti rfl rfl h
          · by_cases e5 : (mem 4 8) = 20014
            · refine w_tabIn 116 rfl (by decide) g (by omega) (by rw [e5]; rfl) rfl ?_
              have h := h.2.2.2.2.2.1 e5
              refine zW.go 1 117 [(2, 3)] [(0, 0)] _ rfl ?_
              exact w_reti rfl rfl h
            · by_cases e6 : (mem 4 8) = 20015
              · refine w_tabIn 116 rfl (by decide) g (by omega) (by rw [e6]; rfl) rfl ?_
                have h := h.2.2.2.2.2.2.1 e6
                refine zW.go 1 117 [(2, 3)] [(0, 0)] _ rfl ?_
                exact w_reti rfl rfl h
              · by_cases e7 : (mem 4 8) = 20016
                · refine w_tabIn 116 rfl (by decide) g (by omega) (by rw [e7]; rfl) rfl ?_
                  have h := h.2.2.2.2.2.2.2.1 e7
                  refine zW.go 1 117 [(2, 3)] [(0, 0)] _ rfl ?_
                  exact w_reti rfl rfl h
                · by_cases e8 : (mem 4 8) = 20017
                  · refine w_tabIn 69 rfl (by decide) g (by omega) (by rw [e8]; rfl) rfl ?_
                    have h := h.2.2.2.2.2.2.2.2.1 e8
                    refine zW.go 1 71 [(2, 3)] [(0, (-3))] _ rfl ?_
                    exact w_reti rfl rfl h
                  · by_cases e9 : (mem 4 8) = 20018
                    · refine w_tabIn 72 rfl (by decide) g (by omega) (by rw [e9]; rfl) rfl ?_
                      have h := h.2.2.2.2.2.2.2.2.2.1 e9
                      refine zW.go 1 73 [(2, 3)] [(2, 3)] _ rfl ?_
                      refine w_getI (q := 3) rfl (by decide) (pc' := 76) rfl ⟨by decide, rfl⟩ rfl (by decide) ?_
                      refine w_if_ne rfl (by decide) (pc' := 79) rfl h.1 (fun c2 => ?_) (fun c2 => ?_)
                      · have h := h.2.1 c2
                        refine zW.go 1 85 [(2, 3)] [(0, 0)] _ rfl ?_
                        exact w_reti rfl rfl h
                      · have h := h.2.2 c2
                        refine zW.go 2 85 [(2, 3)] [(0, (-4))] _ rfl ?_
                        exact w_reti rfl rfl h
                    · by_cases e10 : (mem 4 8) = 20019
                      · refine w_tabIn 101 rfl (by decide) g (by omega) (by rw [e10]; rfl) rfl ?_
                        have h := h.2.2.2.2.2.2.2.2.2.2.1 e10
                        refine zW.go 1 102 [(2, 3)] [(2, 3)] _ rfl ?_
                        refine w_getI (q := 3) rfl (by decide) (pc' := 105) rfl ⟨by decide, rfl⟩ rfl (by decide) ?_
                        refine zW.go 1 106 [(2, 3)] [(0, 2), (0, (mem 3 2))] _ rfl ?_
                        refine w_ic_ne rfl (by decide) (pc' := 109) rfl ⟨h.1, by decide⟩ (fun c3 => ?_) (fun c3 => ?_)
                        · have h := h.2.1 c3
                          refine zW.go 1 115 [(2, 3)] [(0, 0)] _ rfl ?_
                          exact w_reti rfl rfl h
                        · have h := h.2.2 c3
                          refine zW.go 2 115 [(2, 3)] [(0, (-6))] _ rfl ?_
                          exact w_reti rfl rfl h
                      · refine w_tabOut 116 rfl (by decide) g (by omega) rfl ?_
                        have h := h.2.2.2.2.2.2.2.2.2.2.2 ⟨e0, e1, e2, e3, e4, e5, e6, e7, e8, e9, e10⟩
                        refine zW.go 1 117 [(2, 3)] [(0, 0)] _ rfl ?_
                        exact w_reti rfl rfl h
def L_parser_readTest_8 (X : zX) (d : Nat) (rf : zF) (Q : Int → zF → Prop) (mem : zF) (p : Nat) (x1 : Int) (x2 : Int) (x3 : Int) : Prop := zW X (d + 1) 53 8 [(2, 3), (0, x1), (0, x2), (0, x3)] [] (zty, rf, mem) (qi rf Q)
set_option maxRecDepth 4000 in
theorem s_parser_readTest_8 {X : zX} {d : Nat} {rf mem : zF} {Q : Int → zF → Prop} (hR : zall rf zRK = true) {p : Nat} (hp : zPln rf p) (hpl : rf 3 1 = ((p : Nat) : Int)) {x1 : Int} {x2 : Int} {x3 : Int} (h : (inI x2) ∧ ((x2 = 0 → (x2 = 0 ∨ x2 = 1) ∧ Q x2 mem) ∧ (¬ x2 = 0 → (inI x3) ∧ ((1600 ≤ x3 → (x2 = 0 ∨ x2 = 1) ∧ Q x2 mem) ∧ (¬ 1600 ≤ x3 → (inI (mem 4 8)) ∧ ((¬ (mem 4 8) = 20021 → (x2 = 0 ∨ x2 = 1) ∧ Q x2 mem) ∧ ((mem 4 8) = 20021 → Cv X d 132 [(2, 4)] rf mem (fun mem6 => Ci X d 54 [(2, 3), (0, x1)] rf mem6 (fun r7 mem8 => Cv X d 77 [(2, ((p + 9 : Nat) : Int)), (0, (-18))] rf mem8 (fun mem9 => L_parser_readTest_8 X d rf Q mem9 p x1 r7 (x3 + 1))))))))))) : L_parser_readTest_8 X d rf Q mem p x1 x2 x3 := by
  refine zW.go 1 9 [(2, 3), (0, x1), (0, x2), (0, x3)] [(0, x2)] _ rfl ?_
  refine w_if_eq rfl (by decide) (pc' := 12) rfl h.1 (fun c3 => ?_) (fun c3 => ?_)
  · have h := h.2.1 c3
    refine zW.go 1 64 [(2, 3), (0, x1), (0, x2), (0, x3)] [(0, x2)] _ rfl ?_
    exact w_retz rfl rfl h.1 h.2
  · have h := h.2.2 c3
    refine zW.go 2 16 [(2, 3), (0, x1), (0, x2), (0, x3)] [(0, 1600), (0, x3)] _ rfl ?_
    refine w_ic_ge rfl (by decide) (pc' := 19) rfl ⟨h.1, by decide⟩ (fun c4 => ?_) (fun c4 => ?_)
    · have h := h.2.1 c4
      refine zW.go 1 64 [(2, 3), (0, x1), (0, x2), (0, x3)] [(0, x2)] _ rfl ?_
      exact w_retz rfl rfl h.1 h.2
    · have h := h.2.2 c4
      refine zW.go 1 20 [(2, 3), (0, x1), (0, x2), (0, x3)] [(2, 3)] _ rfl ?_
      refine w_getL (q := 3) (v := 4) rfl (by decide) (pc' := 23) rfl ⟨by decide, rfl⟩ rfl rfl (zall_at hR (by decide)) ?_
      refine w_getI (q := 4) rfl (by decide) (pc' := 26) rfl ⟨by decide, rfl⟩ rfl (by decide) ?_
      refine zW.go 1 29 [(2, 3), (0, x1), (0, x2), (0, x3)] [(0, 20021), (0, (mem 4 8))] _ rfl ?_
      refine w_ic_ne rfl (by decide) (pc' := 32) rfl ⟨h.1, by decide⟩ (fun c5 => ?_) (fun c5 => ?_)
      · have h := h.2.1 c5
        refine zW.go 1 64 [(2, 3), (0, x1), (0, x2), (0, x3)] [(0, x2)] _ rfl ?_
        exact w_retz rfl rfl h.1 h.2
      · have h := h.2.2 c5
        refine zW.go 1 33 [(2, 3), (0, x1), (0, x2), (0, x3)] [(2, 3)] _ rfl ?_
        refine w_getL (q := 3) (v := 4) rfl (by decide) (pc' := 36) rfl ⟨by decide, rfl⟩ rfl rfl (zall_at hR (by decide)) ?_
        refine w_callv (as := [(2, 4)]) [] 39 rfl rfl rfl rfl (Nat.le_of_ble_eq_true rfl) (Nat.le_of_ble_eq_true rfl) (Nat.le_of_ble_eq_true rfl) (Or.inr rfl) (Cv.imp h (fun mem6 h => ?_))
        refine zW.go 2 41 [(2, 3), (0, x1), (0, x2), (0, x3)] [(0, x1), (2, 3)] _ rfl ?_
        refine w_calli (as := [(2, 3), (0, x1)]) [] 44 rfl rfl rfl rfl (Nat.le_of_ble_eq_true rfl) (Nat.le_of_ble_eq_true rfl) (Nat.le_of_ble_eq_true rfl) (Or.inr rfl) (Ci.imp h (fun r7 mem8 h => ?_))
        refine zW.go 2 46 [(2, 3), (0, x1), (0, r7), (0, x3)] [(2, 3)] _ rfl ?_
        refine w_getL (q := 3) (v := ((p : Nat) : Int)) rfl (by decide) (pc' := 49) rfl ⟨by decide, rfl⟩ rfl rfl hpl ?_
        refine w_getL (q := p) (v := ((p + 9 : Nat) : Int)) rfl (by decide) (pc' := 52) rfl ⟨Int.natCast_nonneg _, rfl⟩ (zPln_t0 hp) rfl (zPln_r0_14 hp) ?_
        refine zW.go 1 54 [(2, 3), (0, x1), (0, r7), (0, x3)] [(0, (-18)), (2, ((p + 9 : Nat) : Int))] _ rfl ?_
        refine w_callv (as := [(2, ((p + 9 : Nat) : Int)), (0, (-18))]) [] 57 rfl rfl rfl rfl (Nat.le_of_ble_eq_true rfl) (Nat.le_of_ble_eq_true rfl) (Nat.le_of_ble_eq_true rfl) (Or.inr (zrcv_o (zPln_t9 hp))) (Cv.imp h (fun mem9 h => ?_))
        refine zW.go 2 8 [(2, 3), (0, x1), (0, r7), (0, (x3 + 1))] [] _ rfl ?_
        exact h
set_option maxRecDepth 4000 in
theorem s_parser_readTest {X : zX} {d : Nat} {rf mem : zF} {Q : Int → zF → Prop} (hR : zall rf zRK = true) {p : Nat} (hp : zPln rf p) (hpl : rf 3 1 = ((p : Nat) : Int)) {x1 : Int} (h : Ci X d 54 [(2, 3), (0, x1)] rf mem (fun r1 mem2 => L_parser_readTest_8 X d rf Q mem2 p x1 r1 0)) : Ci X (d + 1) 53 [(2, 3), (0, x1)] rf mem Q := by
  show zW X (d + 1) 53 0 [(2, 3), (0, x1), (9, 0), (9, 0)] [] (zty, rf, mem) (qi rf Q)
  refine zW.go 2 2 [(2, 3), (0, x1), (9, 0), (9, 0)] [(0, x1), (2, 3)] _ rfl ?_
  refine w_calli (as := [(2, 3), (0, x1)]) [] 5 rfl rfl rfl rfl (Nat.le_of_ble_eq_true rfl) (Nat.le_of_ble_eq_true rfl) (Nat.le_of_ble_eq_true rfl) (Or.inr rfl) (Ci.imp h (fun r1 mem2 h => ?_))
  refine zW.go 3 8 [(2, 3), (0, x1), (0, r1), (0, 0)] [] _ rfl ?_
  exact h
def L_parser_readBoth_8 (X : zX) (d : Nat) (rf : zF) (Q : Int → zF → Prop) (mem : zF) (p : Nat) (x1 : Int) (x2 : Int) (x3 : Int) : Prop := zW X (d + 1) 54 8 [(2, 3), (0, x1), (0, x2), (0, x3)] [] (zty, rf, mem) (qi rf Q)
set_option maxRecDepth 4000 in
theorem s_parser_readBoth_8 {X : zX} {d : Nat} {rf mem : zF} {Q : Int → zF → Prop} (hR : zall rf zRK = true) {p : Nat} (hp : zPln rf p) (hpl : rf 3 1 = ((p : Nat) : Int)) {x1 : Int} {x2 : Int} {x3 : Int} (h : (inI x2) ∧ ((x2 = 0 → (x2 = 0 ∨ x2 = 1) ∧ Q x2 mem) ∧ (¬ x2 = 0 → (inI x3) ∧ ((1600 ≤ x3 → (x2 = 0 ∨ x2 = 1) ∧ Q x2 mem) ∧ (¬ 1600 ≤ x3 → (inI (mem 4 8)) ∧ ((¬ (mem 4 8) = 20022 → (x2 = 0 ∨ x2 = 1) ∧ Q x2 mem) ∧ ((mem 4 8) = 20022 → Cv X d 132 [(2, 4)] rf mem (fun mem6 => Ci X d 55 [(2, 3), (0, x1)] rf mem6 (fun r7 mem8 => Cv X d 77 [(2, ((p + 9 : Nat) : Int)), (0, (-17))] rf mem8 (fun mem9 => L_parser_readBoth_8 X d rf Q mem9 p x1 r7 (x3 + 1))))))))))) : L_parser_readBoth_8 X d rf Q mem p x1 x2 x3 := by
  refine zW.go 1 9 [(2, 3), (0, x1), (0, x2), (0, x3)] [(0, x2)] _ rfl ?_
  refine w_if_eq rfl (by decide) (pc' := 12) rfl h.1 (fun c3 => ?_) (fun c3 => ?_)
  · have h := h.2.1 c3
    refine zW.go 1 64 [(2, 3), (0, x1), (0, x2), (0, x3)] [(0, x2)] _ rfl ?_
    exact w_retz rfl rfl h.1 h.2
  · have h := h.2.2 c3
    refine zW.go 2 16 [(2, 3), (0, x1), (0, x2), (0, x3)] [(0, 1600), (0, x3)] _ rfl ?_
    refine w_ic_ge rfl (by decide) (pc' := 19) rfl ⟨h.1, by decide⟩ (fun c4 => ?_) (fun c4 => ?_)
    · have h := h.2.1 c4
      refine zW.go 1 64 [(2, 3), (0, x1), (0, x2), (0, x3)] [(0, x2)] _ rfl ?_
      exact w_retz rfl rfl h.1 h.2
    · have h := h.2.2 c4
      refine zW.go 1 20 [(2, 3), (0, x1), (0, x2), (0, x3)] [(2, 3)] _ rfl ?_
      refine w_getL (q := 3) (v := 4) rfl (by decide) (pc' := 23) rfl ⟨by decide, rfl⟩ rfl rfl (zall_at hR (by decide)) ?_
      refine w_getI (q := 4) rfl (by decide) (pc' := 26) rfl ⟨by decide, rfl⟩ rfl (by decide) ?_
      refine zW.go 1 29 [(2, 3), (0, x1), (0, x2), (0, x3)] [(0, 20022), (0, (mem 4 8))] _ rfl ?_
      refine w_ic_ne rfl (by decide) (pc' := 32) rfl ⟨h.1, by decide⟩ (fun c5 => ?_) (fun c5 => ?_)
      · have h := h.2.1 c5
        refine zW.go 1 64 [(2, 3), (0, x1), (0, x2), (0, x3)] [(0, x2)] _ rfl ?_
        exact w_retz rfl rfl h.1 h.2
      · have h := h.2.2 c5
        refine zW.go 1 33 [(2, 3), (0, x1), (0, x2), (0, x3)] [(2, 3)] _ rfl ?_
        refine w_getL (q := 3) (v := 4) rfl (by decide) (pc' := 36) rfl ⟨by decide, rfl⟩ rfl rfl (zall_at hR (by decide)) ?_
        refine w_callv (as := [(2, 4)]) [] 39 rfl rfl rfl rfl (Nat.le_of_ble_eq_true rfl) (Nat.le_of_ble_eq_true rfl) (Nat.le_of_ble_eq_true rfl) (Or.inr rfl) (Cv.imp h (fun mem6 h => ?_))
        refine zW.go 2 41 [(2, 3), (0, x1), (0, x2), (0, x3)] [(0, x1), (2, 3)] _ rfl ?_
        refine w_calli (as := [(2, 3), (0, x1)]) [] 44 rfl rfl rfl rfl (Nat.le_of_ble_eq_true rfl) (Nat.le_of_ble_eq_true rfl) (Nat.le_of_ble_eq_true rfl) (Or.inr rfl) (Ci.imp h (fun r7 mem8 h => ?_))
        refine zW.go 2 46 [(2, 3), (0, x1), (0, r7), (0, x3)] [(2, 3)] _ rfl ?_
        refine w_getL (q := 3) (v := ((p : Nat) : Int)) rfl (by decide) (pc' := 49) rfl ⟨by decide, rfl⟩ rfl rfl hpl ?_
        refine w_getL (q := p) (v := ((p + 9 : Nat) : Int)) rfl (by decide) (pc' := 52) rfl ⟨Int.natCast_nonneg _, rfl⟩ (zPln_t0 hp) rfl (zPln_r0_14 hp) ?_
        refine zW.go 1 54 [(2, 3), (0, x1), (0, r7), (0, x3)] [(0, (-17)), (2, ((p + 9 : Nat) : Int))] _ rfl ?_
        refine w_callv (as := [(2, ((p + 9 : Nat) : Int)), (0, (-17))]) [] 57 rfl rfl rfl rfl (Nat.le_of_ble_eq_true rfl) (Nat.le_of_ble_eq_true rfl) (Nat.le_of_ble_eq_true rfl) (Or.inr (zrcv_o (zPln_t9 hp))) (Cv.imp h (fun mem9 h => ?_))
        refine zW.go 2 8 [(2, 3), (0, x1), (0, r7), (0, (x3 + 1))] [] _ rfl ?_
        exact h
set_option maxRecDepth 4000 in
theorem s_parser_readBoth {X : zX} {d : Nat} {rf mem : zF} {Q : Int → zF → Prop} (hR : zall rf zRK = true) {p : Nat} (hp : zPln rf p) (hpl : rf 3 1 = ((p : Nat) : Int)) {x1 : Int} (h : Ci X d 55 [(2, 3), (0, x1)] rf mem (fun r1 mem2 => L_parser_readBoth_8 X d rf Q mem2 p x1 r1 0)) : Ci X (d + 1) 54 [(2, 3), (0, x1)] rf mem Q := by
  show zW X (d + 1) 54 0 [(2, 3), (0, x1), (9, 0), (9, 0)] [] (zty, rf, mem) (qi rf Q)
  refine zW.go 2 2 [(2, 3), (0, x1), (9, 0), (9, 0)] [(0, x1), (2, 3)] _ rfl ?_
  refine w_calli (as := [(2, 3), (0, x1)]) [] 5 rfl rfl rfl rfl (Nat.le_of_ble_eq_true rfl) (Nat.le_of_ble_eq_true rfl) (Nat.le_of_ble_eq_true rfl) (Or.inr rfl) (Ci.imp h (fun r1 mem2 h => ?_))
  refine zW.go 3 8 [(2, 3), (0, x1), (0, r1), (0, 0)] [] _ rfl ?_
  exact h
set_option maxRecDepth 4000 in
theorem s_parser_readFact {X : zX} {d : Nat} {rf mem : zF} {Q : Int → zF → Prop} (hR : zall rf zRK = true) {p : Nat} (hp : zPln rf p) (hpl : rf 3 1 = ((p : Nat) : Int)) {x1 : Int} (h : Ci X d 133 [(2, 4), (0, 91)] rf mem (fun r1 mem2 => (inI r1) ∧ ((r1 = 0 → (inI (mem2 4 8)) ∧ ((¬ (mem2 4 8) = 20023 → (inI (mem2 4 8)) ∧ ((¬ (mem2 4 8) = 20024 → Ci X d 43 [(2, 3), (0, x1)] rf mem2 (fun r6 mem7 => (inI r6) ∧ ((r6 = 0 → Q 0 mem7) ∧ (¬ r6 = 0 → Ci X d 57 [(2, 3), (0, x1)] rf mem7 (fun r9 mem10 => (inI r9) ∧ ((r9 = 0 → Q 0 mem10) ∧ (¬ r9 = 0 → Q 1 mem10))))))) ∧ ((mem2 4 8) = 20024 → Cv X d 77 [(2, ((p + 9 : Nat) : Int)), (0, 1)] rf mem2 (fun mem12 => Cv X d 132 [(2, 4)] rf mem12 (fun mem13 => Q 1 mem13))))) ∧ ((mem2 4 8) = 20023 → Ci X d 56 [(2, 3), (0, x1)] rf mem2 (fun r14 mem15 => (r14 = 0 ∨ r14 = 1) ∧ Q r14 mem15)))) ∧ (¬ r1 = 0 → Ci X d 48 [(2, 3), (0, 91), (0, x1)] rf mem2 (fun r16 mem17 => (inI r16) ∧ ((r16 = 0 → Q 0 mem17) ∧ (¬ r16 = 0 → Ci X d 53 [(2, 3), (0, (x1 + 1))] rf mem17 (fun r19 mem20 => (inI r19) ∧ ((r19 = 0 → Q 0 mem20) ∧ (¬ r19 = 0 → Ci X d 36 [(2, 3), (0, 93)] rf mem20 (fun r22 mem23 => (inI r22) ∧ ((r22 = 0 → Q 0 mem23) ∧ (¬ r22 = 0 → Q 1 mem23))))))))))))) : Ci X (d + 1) 55 [(2, 3), (0, x1)] rf mem Q := by
  show zW X (d + 1) 55 0 [(2, 3), (0, x1)] [] (zty, rf, mem) (qi rf Q)
  refine zW.go 1 1 [(2, 3), (0, x1)] [(2, 3)] _ rfl ?_
  refine w_getL (q := 3) (v := 4) rfl (by decide) (pc' := 4) rfl ⟨by decide, rfl⟩ rfl rfl (zall_at hR (by decide)) ?_
  refine zW.go 1 6 [(2, 3), (0, x1)] [(0, 91), (2, 4)] _ rfl ?_
  refine w_calli (as := [(2, 4), (0, 91)]) [] 9 rfl rfl rfl rfl (Nat.le_of_ble_eq_true rfl) (Nat.le_of_ble_eq_true rfl) (Nat.le_of_ble_eq_true rfl) (Or.inr rfl) (Ci.imp h (fun r1 mem2 h => ?_))
  refine w_if_eq rfl (by decide) (pc' := 12) rfl h.1 (fun c3 => ?_) (fun c3 => ?_)
  · have h := h.2.1 c3
    refine zW.go 1 48 [(2, 3), (0, x1)] [(2, 3)] _ rfl ?_
    refine w_getL (q := 3) (v := 4) rfl (by decide) (pc' := 51) rfl ⟨by decide, rfl⟩ rfl rfl (zall_at hR (by decide)) ?_
    refine w_getI (q := 4) rfl (by decide) (pc' := 54) rfl ⟨by decide, rfl⟩ rfl (by decide) ?_
    refine zW.go 1 57 [(2, 3), (0, x1)] [(0, 20023), (0, (mem2 4 8))] _ rfl ?_
    refine w_ic_ne rfl (by decide) (pc' := 60) rfl ⟨h.1, by decide⟩ (fun c4 => ?_) (fun c4 => ?_)
    · have h := h.2.1 c4
      refine zW.go 1 67 [(2, 3), (0, x1)] [(2, 3)] _ rfl ?_
      refine w_getL (q := 3) (v := 4) rfl (by decide) (pc' := 70) rfl ⟨by decide, rfl⟩ rfl rfl (zall_at hR (by decide)) ?_
      refine w_getI (q := 4) rfl (by decide) (pc' := 73) rfl ⟨by decide, rfl⟩ rfl (by decide) ?_
      refine zW.go 1 76 [(2, 3), (0, x1)] [(0, 20024), (0, (mem2 4 8))] _ rfl ?_
      refine w_ic_ne rfl (by decide) (pc' := 79) rfl ⟨h.1, by decide⟩ (fun c5 => ?_) (fun c5 => ?_)
      · have h := h.2.1 c5
        refine zW.go 2 101 [(2, 3), (0, x1)] [(0, x1), (2, 3)] _ rfl ?_
        refine w_calli (as := [(2, 3), (0, x1)]) [] 104 rfl rfl rfl rfl (Nat.le_of_ble_eq_true rfl) (Nat.le_of_ble_eq_true rfl) (Nat.le_of_ble_eq_true rfl) (Or.inr rfl) (Ci.imp h (fun r6 mem7 h => ?_))
        refine w_if_eq rfl (by decide) (pc' := 107) rfl h.1 (fun c8 => ?_) (fun c8 => ?_)
        · have h := h.2.1 c8
          refine zW.go 1 120 [(2, 3), (0, x1)] [(0, 0)] _ rfl ?_
          exact w_retz rfl rfl (by decide) h
        · have h := h.2.2 c8
          refine zW.go 2 109 [(2, 3), (0, x1)] [(0, x1), (2, 3)] _ rfl ?_
          refine w_calli (as := [(2, 3), (0, x1)]) [] 112 rfl rfl rfl rfl (Nat.le_of_ble_eq_true rfl) (Nat.le_of_ble_eq_true rfl) (Nat.le_of_ble_eq_true rfl) (Or.inr rfl) (Ci.imp h (fun r9 mem10 h => ?_))
          refine w_if_eq rfl (by decide) (pc' := 115) rfl h.1 (fun c11 => ?_) (fun c11 => ?_)
          · have h := h.2.1 c11
            refine zW.go 1 120 [(2, 3), (0, x1)] [(0, 0)] _ rfl ?_
            exact w_retz rfl rfl (by decide) h
          · have h := h.2.2 c11
            refine zW.go 2 120 [(2, 3), (0, x1)] [(0, 1)] _ rfl ?_
            exact w_retz rfl rfl (by decide) h
      · have h := h.2.2 c5
        refine zW.go 1 80 [(2, 3), (0, x1)] [(2, 3)] _ rfl ?_
        refine w_getL (q := 3) (v := ((p : Nat) : Int)) rfl (by decide) (pc' := 83) rfl ⟨by decide, rfl⟩ rfl rfl hpl ?_
        refine w_getL (q := p) (v := ((p + 9 : Nat) : Int)) rfl (by decide) (pc' := 86) rfl ⟨Int.natCast_nonneg _, rfl⟩ (zPln_t0 hp) rfl (zPln_r0_14 hp) ?_
        refine zW.go 1 87 [(2, 3), (0, x1)] [(0, 1), (2, ((p + 9 : Nat) : Int))] _ rfl ?_
        refine w_callv (as := [(2, ((p + 9 : Nat) : Int)), (0, 1)]) [] 90 rfl rfl rfl rfl (Nat.le_of_ble_eq_true rfl) (Nat.le_of_ble_eq_true rfl) (Nat.le_of_ble_eq_true rfl) (Or.inr (zrcv_o (zPln_t9 hp))) (Cv.imp h (fun mem12 h => ?_))
        refine zW.go 1 91 [(2, 3), (0, x1)] [(2, 3)] _ rfl ?_
        refine w_getL (q := 3) (v := 4) rfl (by decide) (pc' := 94) rfl ⟨by decide, rfl⟩ rfl rfl (zall_at hR (by decide)) ?_
        refine w_callv (as := [(2, 4)]) [] 97 rfl rfl rfl rfl (Nat.le_of_ble_eq_true rfl) (Nat.le_of_ble_eq_true rfl) (Nat.le_of_ble_eq_true rfl) (Or.inr rfl) (Cv.imp h (fun mem13 h => ?_))
        refine zW.go 1 98 [(2, 3), (0, x1)] [(0, 1)] _ rfl ?_
        exact w_retz rfl rfl (by decide) h
    · have h := h.2.2 c4
      refine zW.go 2 62 [(2, 3), (0, x1)] [(0, x1), (2, 3)] _ rfl ?_
      refine w_calli (as := [(2, 3), (0, x1)]) [] 65 rfl rfl rfl rfl (Nat.le_of_ble_eq_true rfl) (Nat.le_of_ble_eq_true rfl) (Nat.le_of_ble_eq_true rfl) (Or.inr rfl) (Ci.imp h (fun r14 mem15 h => ?_))
      exact w_retz rfl rfl h.1 h.2
  · have h := h.2.2 c3
    refine zW.go 3 16 [(2, 3), (0, x1)] [(0, x1), (0, 91), (2, 3)] _ rfl ?_
    refine w_calli (as := [(2, 3), (0, 91), (0, x1)]) [] 19 rfl rfl rfl rfl (Nat.le_of_ble_eq_true rfl) (Nat.le_of_ble_eq_true rfl) (Nat.le_of_ble_eq_true rfl) (Or.inr rfl) (Ci.imp h (fun r16 mem17 h => ?_))
    refine w_if_eq rfl (by decide) (pc' := 22) rfl h.1 (fun c18 => ?_) (fun c18 => ?_)
    · have h := h.2.1 c18
      refine zW.go 1 46 [(2, 3), (0, x1)] [(0, 0)] _ rfl ?_
      exact w_retz rfl rfl (by decide) h
    · have h := h.2.2 c18
      refine zW.go 4 26 [(2, 3), (0, x1)] [(0, (x1 + 1)), (2, 3)] _ rfl ?_
      refine w_calli (as := [(2, 3), (0, (x1 + 1))]) [] 29 rfl rfl rfl rfl (Nat.le_of_ble_eq_true rfl) (Nat.le_of_ble_eq_true rfl) (Nat.le_of_ble_eq_true rfl) (Or.inr rfl) (Ci.imp h (fun r19 mem20 h => ?_))
      refine w_if_eq rfl (by decide) (pc' := 32) rfl h.1 (fun c21 => ?_) (fun c21 => ?_)
      · have h := h.2.1 c21
        refine zW.go 1 46 [(2, 3), (0, x1)] [(0, 0)] _ rfl ?_
        exact w_retz rfl rfl (by decide) h
      · have h := h.2.2 c21
        refine zW.go 2 35 [(2, 3), (0, x1)] [(0, 93), (2, 3)] _ rfl ?_
        refine w_calli (as := [(2, 3), (0, 93)]) [] 38 rfl rfl rfl rfl (Nat.le_of_ble_eq_true rfl) (Nat.le_of_ble_eq_true rfl) (Nat.le_of_ble_eq_true rfl) (Or.inr rfl) (Ci.imp h (fun r22 mem23 h => ?_))
        refine w_if_eq rfl (by decide) (pc' := 41) rfl h.1 (fun c24 => ?_) (fun c24 => ?_)
        · have h := h.2.1 c24
          refine zW.go 1 46 [(2, 3), (0, x1)] [(0, 0)] _ rfl ?_
          exact w_retz rfl rfl (by decide) h
        · have h := h.2.2 c24
          refine zW.go 2 46 [(2, 3), (0, x1)] [(0, 1)] _ rfl ?_
          exact w_retz rfl rfl (by decide) h
set_option maxRecDepth 4000 in
theorem s_parser_readNot {X : zX} {d : Nat} {rf mem : zF} {Q : Int → zF → Prop} (hR : zall rf zRK = true) {p : Nat} (hp : zPln rf p) (hpl : rf 3 1 = ((p : Nat) : Int)) {x1 : Int} (h : (inI x1) ∧ ((x1 < 7 → Cv X d 132 [(2, 4)] rf mem (fun mem2 => Ci X d 55 [(2, 3), (0, (x1 + 1))] rf mem2 (fun r3 mem4 => Cv X d 77 [(2, ((p + 9 : Nat) : Int)), (0, (-19))] rf mem4 (fun mem5 => (r3 = 0 ∨ r3 = 1) ∧ Q r3 mem5)))) ∧ (¬ x1 < 7 → Ci X d 26 [(2, 3), (0, 5)] rf mem (fun r6 mem7 => (r6 = 0 ∨ r6 = 1) ∧ Q r6 mem7)))) : Ci X (d + 1) 56 [(2, 3), (0, x1)] rf mem Q := by
  show zW X (d + 1) 56 0 [(2, 3), (0, x1), (9, 0)] [] (zty, rf, mem) (qi rf Q)
  refine zW.go 2 3 [(2, 3), (0, x1), (9, 0)] [(0, 7), (0, x1)] _ rfl ?_
  refine w_ic_lt rfl (by decide) (pc' := 6) rfl ⟨h.1, by decide⟩ (fun c1 => ?_) (fun c1 => ?_)
  · have h := h.2.1 c1
    refine zW.go 1 13 [(2, 3), (0, x1), (9, 0)] [(2, 3)] _ rfl ?_
    refine w_getL (q := 3) (v := 4) rfl (by decide) (pc' := 16) rfl ⟨by decide, rfl⟩ rfl rfl (zall_at hR (by decide)) ?_
    refine w_callv (as := [(2, 4)]) [] 19 rfl rfl rfl rfl (Nat.le_of_ble_eq_true rfl) (Nat.le_of_ble_eq_true rfl) (Nat.le_of_ble_eq_true rfl) (Or.inr rfl) (Cv.imp h (fun mem2 h => ?_))
    refine zW.go 4 23 [(2, 3), (0, x1), (9, 0)] [(0, (x1 + 1)), (2, 3)] _ rfl ?_
    refine w_calli (as := [(2, 3), (0, (x1 + 1))]) [] 26 rfl rfl rfl rfl (Nat.le_of_ble_eq_true rfl) (Nat.le_of_ble_eq_true rfl) (Nat.le_of_ble_eq_true rfl) (Or.inr rfl) (Ci.imp h (fun r3 mem4 h => ?_))
    refine zW.go 2 28 [(2, 3), (0, x1), (0, r3)] [(2, 3)] _ rfl ?_
    refine w_getL (q := 3) (v := ((p : Nat) : Int)) rfl (by decide) (pc' := 31) rfl ⟨by decide, rfl⟩ rfl rfl hpl ?_
    refine w_getL (q := p) (v := ((p + 9 : Nat) : Int)) rfl (by decide) (pc' := 34) rfl ⟨Int.natCast_nonneg _, rfl⟩ (zPln_t0 hp) rfl (zPln_r0_14 hp) ?_
    refine zW.go 1 36 [(2, 3), (0, x1), (0, r3)] [(0, (-19)), (2, ((p + 9 : Nat) : Int))] _ rfl ?_
    refine w_callv (as := [(2, ((p + 9 : Nat) : Int)), (0, (-19))]) [] 39 rfl rfl rfl rfl (Nat.le_of_ble_eq_true rfl) (Nat.le_of_ble_eq_true rfl) (Nat.le_of_ble_eq_true rfl) (Or.inr (zrcv_o (zPln_t9 hp))) (Cv.imp h (fun mem5 h => ?_))
    refine zW.go 1 40 [(2, 3), (0, x1), (0, r3)] [(0, r3)] _ rfl ?_
    exact w_retz rfl rfl h.1 h.2
  · have h := h.2.2 c1
    refine zW.go 2 8 [(2, 3), (0, x1), (9, 0)] [(0, 5), (2, 3)] _ rfl ?_
    refine w_calli (as := [(2, 3), (0, 5)]) [] 11 rfl rfl rfl rfl (Nat.le_of_ble_eq_true rfl) (Nat.le_of_ble_eq_true rfl) (Nat.le_of_ble_eq_true rfl) (Or.inr rfl) (Ci.imp h (fun r6 mem7 h => ?_))
    exact w_retz rfl rfl h.1 h.2
def L_parser_readCompared_36 (X : zX) (d : Nat) (rf : zF) (Q : Int → zF → Prop) (mem : zF) (p : Nat) (x1 : Int) (s0 : Int) : Prop := ∀ z2 : zV, ∀ z3 : zV, zW X (d + 1) 57 36 [(2, 3), (0, x1), z2, z3] [(0, s0)] (zty, rf, mem) (qi rf Q)
def L_parser_readCompared_61 (X : zX) (d : Nat) (rf : zF) (Q : Int → zF → Prop) (mem : zF) (p : Nat) (x1 : Int) (x2 : Int) : Prop := ∀ z3 : zV, zW X (d + 1) 57 61 [(2, 3), (0, x1), (0, x2), z3] [] (zty, rf, mem) (qi rf Q)
set_option maxRecDepth 4000 in
theorem s_parser_readCompared_36 {X : zX} {d : Nat} {rf mem : zF} {Q : Int → zF → Prop} (hR : zall rf zRK = true) {p : Nat} (hp : zPln rf p) (hpl : rf 3 1 = ((p : Nat) : Int)) {x1 : Int} {s0 : Int} (h : (inI s0) ∧ ((¬ s0 = (-16) → L_parser_readCompared_61 X d rf Q mem p x1 s0) ∧ (s0 = (-16) → Ci X d 133 [(2, 4), (0, 61)] rf mem (fun r8 mem9 => (inI r8) ∧ ((¬ r8 = 0 → L_parser_readCompared_61 X d rf Q mem9 p x1 s0) ∧ (r8 = 0 → Ci X d 26 [(2, 3), (0, 1)] rf mem9 (fun r11 mem12 => (r11 = 0 ∨ r11 = 1) ∧ Q r11 mem12))))))) : L_parser_readCompared_36 X d rf Q mem p x1 s0 := by
  intro z2 z3
  refine zW.go 3 40 [(2, 3), (0, x1), (0, s0), z3] [(0, (-16)), (0, s0)] _ rfl ?_
  refine w_ic_ne rfl (by decide) (pc' := 43) rfl ⟨h.1, by decide⟩ (fun c7 => ?_) (fun c7 => ?_)
  · have h := h.2.1 c7
    exact h z3
  · have h := h.2.2 c7
    refine zW.go 1 44 [(2, 3), (0, x1), (0, s0), z3] [(2, 3)] _ rfl ?_
    refine w_getL (q := 3) (v := 4) rfl (by decide) (pc' := 47) rfl ⟨by decide, rfl⟩ rfl rfl (zall_at hR (by decide)) ?_
    refine zW.go 1 49 [(2, 3), (0, x1), (0, s0), z3] [(0, 61), (2, 4)] _ rfl ?_
    refine w_calli (as := [(2, 4), (0, 61)]) [] 52 rfl rfl rfl rfl (Nat.le_of_ble_eq_true rfl) (Nat.le_of_ble_eq_true rfl) (Nat.le_of_ble_eq_true rfl) (Or.inr rfl) (Ci.imp h (fun r8 mem9 h => ?_))
    refine w_if_ne rfl (by decide) (pc' := 55) rfl h.1 (fun c10 => ?_) (fun c10 => ?_)
    · have h := h.2.1 c10
      exact h z3
    · have h := h.2.2 c10
      refine zW.go 2 57 [(2, 3), (0, x1), (0, s0), z3] [(0, 1), (2, 3)] _ rfl ?_
      refine w_calli (as := [(2, 3), (0, 1)]) [] 60 rfl rfl rfl rfl (Nat.le_of_ble_eq_true rfl) (Nat.le_of_ble_eq_true rfl) (Nat.le_of_ble_eq_true rfl) (Or.inr rfl) (Ci.imp h (fun r11 mem12 h => ?_))
      exact w_retz rfl rfl h.1 h.2
set_option maxRecDepth 4000 in
theorem s_parser_readCompared_61 {X : zX} {d : Nat} {rf mem : zF} {Q : Int → zF → Prop} (hR : zall rf zRK = true) {p : Nat} (hp : zPln rf p) (hpl : rf 3 1 = ((p : Nat) : Int)) {x1 : Int} {x2 : Int} (h : Cv X d 132 [(2, 4)] rf mem (fun mem13 => Ci X d 43 [(2, 3), (0, x1)] rf mem13 (fun r14 mem15 => Cv X d 77 [(2, ((p + 9 : Nat) : Int)), (0, x2)] rf mem15 (fun mem16 => (r14 = 0 ∨ r14 = 1) ∧ Q r14 mem16)))) : L_parser_readCompared_61 X d rf Q mem p x1 x2 := by
  intro z3
  refine zW.go 1 62 [(2, 3), (0, x1), (0, x2), z3] [(2, 3)] _ rfl ?_
  refine w_getL (q := 3) (v := 4) rfl (by decide) (pc' := 65) rfl ⟨by decide, rfl⟩ rfl rfl (zall_at hR (by decide)) ?_
  refine w_callv (as := [(2, 4)]) [] 68 rfl rfl rfl rfl (Nat.le_of_ble_eq_true rfl) (Nat.le_of_ble_eq_true rfl) (Nat.le_of_ble_eq_true rfl) (Or.inr rfl) (Cv.imp h (fun mem13 h => ?_))
  refine zW.go 2 70 [(2, 3), (0, x1), (0, x2), z3] [(0, x1), (2, 3)] _ rfl ?_
  refine w_calli (as := [(2, 3), (0, x1)]) [] 73 rfl rfl rfl rfl (Nat.le_of_ble_eq_true rfl) (Nat.le_of_ble_eq_true rfl) (Nat.le_of_ble_eq_true rfl) (Or.inr rfl) (Ci.imp h (fun r14 mem15 h => ?_))
  refine zW.go 2 75 [(2, 3), (0, x1), (0, x2), (0, r14)] [(2, 3)] _ rfl ?_
  refine w_getL (q := 3) (v := ((p : Nat) : Int)) rfl (by decide) (pc' := 78) rfl ⟨by decide, rfl⟩ rfl rfl hpl ?_
  refine w_getL (q := p) (v := ((p + 9 : Nat) : Int)) rfl (by decide) (pc' := 81) rfl ⟨Int.natCast_nonneg _, rfl⟩ (zPln_t0 hp) rfl (zPln_r0_14 hp) ?_
  refine zW.go 1 82 [(2, 3), (0, x1), (0, x2), (0, r14)] [(0, x2), (2, ((p + 9 : Nat) : Int))] _ rfl ?_
  refine w_callv (as := [(2, ((p + 9 : Nat) : Int)), (0, x2)]) [] 85 rfl rfl rfl rfl (Nat.le_of_ble_eq_true rfl) (Nat.le_of_ble_eq_true rfl) (Nat.le_of_ble_eq_true rfl) (Or.inr (zrcv_o (zPln_t9 hp))) (Cv.imp h (fun mem16 h => ?_))
  refine zW.go 1 86 [(2, 3), (0, x1), (0, x2), (0, r14)] [(0, r14)] _ rfl ?_
  exact w_retz rfl rfl h.1 h.2
set_option maxRecDepth 4000 in
theorem s_parser_readCompared {X : zX} {d : Nat} {rf mem : zF} {Q : Int → zF → Prop} (hR : zall rf zRK = true) {p : Nat} (hp : zPln rf p) (hpl : rf 3 1 = ((p : Nat) : Int)) {x1 : Int} (h : Ci X d 133 [(2, 4), (0, 60)] rf mem (fun r1 mem2 => (inI r1) ∧ ((r1 = 0 → Ci X d 133 [(2, 4), (0, 62)] rf mem2 (fun r4 mem5 => (inI r4) ∧ ((r4 = 0 → L_parser_readCompared_36 X d rf Q mem5 p x1 (-16)) ∧ (¬ r4 = 0 → L_parser_readCompared_36 X d rf Q mem5 p x1 (-15))))) ∧ (¬ r1 = 0 → L_parser_readCompared_36 X d rf Q mem2 p x1 (-14))))) : Ci X (d + 1) 57 [(2, 3), (0, x1)] rf mem Q := by
  show zW X (d + 1) 57 0 [(2, 3), (0, x1), (9, 0), (9, 0)] [] (zty, rf, mem) (qi rf Q)
  refine zW.go 1 1 [(2, 3), (0, x1), (9, 0), (9, 0)] [(2, 3)] _ rfl ?_
  refine w_getL (q := 3) (v := 4) rfl (by decide) (pc' := 4) rfl ⟨by decide, rfl⟩ rfl rfl (zall_at hR (by decide)) ?_
  refine zW.go 1 6 [(2, 3), (0, x1), (9, 0), (9, 0)] [(0, 60), (2, 4)] _ rfl ?_
  refine w_calli (as := [(2, 4), (0, 60)]) [] 9 rfl rfl rfl rfl (Nat.le_of_ble_eq_true rfl) (Nat.le_of_ble_eq_true rfl) (Nat.le_of_ble_eq_true rfl) (Or.inr rfl) (Ci.imp h (fun r1 mem2 h => ?_))
  refine w_if_eq rfl (by decide) (pc' := 12) rfl h.1 (fun c3 => ?_) (fun c3 => ?_)
  · have h := h.2.1 c3
    refine zW.go 1 18 [(2, 3), (0, x1), (9, 0), (9, 0)] [(2, 3)] _ rfl ?_
    refine w_getL (q := 3) (v := 4) rfl (by decide) (pc' := 21) rfl ⟨by decide, rfl⟩ rfl rfl (zall_at hR (by decide)) ?_
    refine zW.go 1 23 [(2, 3), (0, x1), (9, 0), (9, 0)] [(0, 62), (2, 4)] _ rfl ?_
    refine w_calli (as := [(2, 4), (0, 62)]) [] 26 rfl rfl rfl rfl (Nat.le_of_ble_eq_true rfl) (Nat.le_of_ble_eq_true rfl) (Nat.le_of_ble_eq_true rfl) (Or.inr rfl) (Ci.imp h (fun r4 mem5 h => ?_))
    refine w_if_eq rfl (by decide) (pc' := 29) rfl h.1 (fun c6 => ?_) (fun c6 => ?_)
    · have h := h.2.1 c6
      refine zW.go 1 36 [(2, 3), (0, x1), (9, 0), (9, 0)] [(0, (-16))] _ rfl ?_
      exact h (9, 0) (9, 0)
    · have h := h.2.2 c6
      refine zW.go 2 36 [(2, 3), (0, x1), (9, 0), (9, 0)] [(0, (-15))] _ rfl ?_
      exact h (9, 0) (9, 0)
  · have h := h.2.2 c3
    refine zW.go 2 36 [(2, 3), (0, x1), (9, 0), (9, 0)] [(0, (-14))] _ rfl ?_
    exact h (9, 0) (9, 0)
set_option maxRecDepth 4000 in
theorem s_plan_clear {X : zX} {d : Nat} {rf mem : zF} {Q : zF → Prop} (hR : zall rf zRK = true) {p : Nat} (hp : zPln rf p) (h : Cv X d 328 [(2, ((p + 1 : Nat) : Int)), (0, 0)] rf (zup (zup (zup (zup (zup (zup mem p 0 0) p 1 0) p 2 0) p 3 (-1)) p 4 0) p 5 0) (fun mem1 => Cv X d 73 [(2, ((p + 9 : Nat) : Int))] rf mem1 (fun mem2 => Q mem2))) : Cv X (d + 1) 59 [(2, ((p : Nat) : Int))] rf mem Q := by
  show zW X (d + 1) 59 0 [(2, ((p : Nat) : Int))] [] (zty, rf, mem) (qv rf Q)
  refine zW.go 2 2 [(2, ((p : Nat) : Int))] [(0, 0), (2, ((p : Nat) : Int))] _ rfl ?_
  refine w_putI (q := p) rfl (by decide) (pc' := 5) rfl ⟨Int.natCast_nonneg _, rfl⟩ (zPln_t0 hp) (by decide) ?_
  refine zW.go 2 7 [(2, ((p : Nat) : Int))] [(0, 0), (2, ((p : Nat) : Int))] _ rfl ?_
  refine w_putI (q := p) rfl (by decide) (pc' := 10) rfl ⟨Int.natCast_nonneg _, rfl⟩ (zPln_t0 hp) (by decide) ?_
  refine zW.go 2 12 [(2, ((p : Nat) : Int))] [(0, 0), (2, ((p : Nat) : Int))] _ rfl ?_
  refine w_putI (q := p) rfl (by decide) (pc' := 15) rfl ⟨Int.natCast_nonneg _, rfl⟩ (zPln_t0 hp) (by decide) ?_
  refine zW.go 2 17 [(2, ((p : Nat) : Int))] [(0, (-1)), (2, ((p : Nat) : Int))] _ rfl ?_
  refine w_putI (q := p) rfl (by decide) (pc' := 20) rfl ⟨Int.natCast_nonneg _, rfl⟩ (zPln_t0 hp) (by decide) ?_
  refine zW.go 2 22 [(2, ((p : Nat) : Int))] [(0, 0), (2, ((p : Nat) : Int))] _ rfl ?_
  refine w_putI (q := p) rfl (by decide) (pc' := 25) rfl ⟨Int.natCast_nonneg _, rfl⟩ (zPln_t0 hp) (by decide) ?_
  refine zW.go 2 27 [(2, ((p : Nat) : Int))] [(0, 0), (2, ((p : Nat) : Int))] _ rfl ?_
  refine w_putI (q := p) rfl (by decide) (pc' := 30) rfl ⟨Int.natCast_nonneg _, rfl⟩ (zPln_t0 hp) (by decide) ?_
  refine zW.go 1 31 [(2, ((p : Nat) : Int))] [(2, ((p : Nat) : Int))] _ rfl ?_
  refine w_getL (q := p) (v := ((p + 1 : Nat) : Int)) rfl (by decide) (pc' := 34) rfl ⟨Int.natCast_nonneg _, rfl⟩ (zPln_t0 hp) rfl (zPln_r0_6 hp) ?_
  refine zW.go 1 35 [(2, ((p : Nat) : Int))] [(0, 0), (2, ((p + 1 : Nat) : Int))] _ rfl ?_
  refine w_callv (as := [(2, ((p + 1 : Nat) : Int)), (0, 0)]) [] 38 rfl rfl rfl rfl (Nat.le_of_ble_eq_true rfl) (Nat.le_of_ble_eq_true rfl) (Nat.le_of_ble_eq_true rfl) (Or.inl rfl) (Cv.imp h (fun mem1 h => ?_))
  refine zW.go 1 39 [(2, ((p : Nat) : Int))] [(2, ((p : Nat) : Int))] _ rfl ?_
  refine w_getL (q := p) (v := ((p + 9 : Nat) : Int)) rfl (by decide) (pc' := 42) rfl ⟨Int.natCast_nonneg _, rfl⟩ (zPln_t0 hp) rfl (zPln_r0_14 hp) ?_
  refine w_callv (as := [(2, ((p + 9 : Nat) : Int))]) [] 45 rfl rfl rfl rfl (Nat.le_of_ble_eq_true rfl) (Nat.le_of_ble_eq_true rfl) (Nat.le_of_ble_eq_true rfl) (Or.inr (zrcv_o (zPln_t9 hp))) (Cv.imp h (fun mem2 h => ?_))
  exact w_retv rfl rfl h
set_option maxRecDepth 4000 in
theorem s_plan_isThere {X : zX} {d : Nat} {rf mem : zF} {Q : Int → zF → Prop} (hR : zall rf zRK = true) {p : Nat} (hp : zPln rf p) {x1 : Int} {x2 : Int} (h : (inI x2) ∧ ((x2 < 0 → Q 0 mem) ∧ (¬ x2 < 0 → (inI x2) ∧ ((6 ≤ x2 → Q 0 mem) ∧ (¬ 6 ≤ x2 → Ci X d 61 [(2, ((p : Nat) : Int)), (0, x1)] rf mem (fun r3 mem4 => (inI x2 ∧ inI r3) ∧ ((r3 ≤ x2 → Q 0 mem4) ∧ (¬ r3 ≤ x2 → Q 1 mem4)))))))) : Ci X (d + 1) 60 [(2, ((p : Nat) : Int)), (0, x1), (0, x2)] rf mem Q := by
  show zW X (d + 1) 60 0 [(2, ((p : Nat) : Int)), (0, x1), (0, x2)] [] (zty, rf, mem) (qi rf Q)
  refine zW.go 1 1 [(2, ((p : Nat) : Int)), (0, x1), (0, x2)] [(0, x2)] _ rfl ?_
  refine w_if_lt rfl (by decide) (pc' := 4) rfl h.1 (fun c1 => ?_) (fun c1 => ?_)
  · have h := h.2.1 c1
    refine zW.go 1 24 [(2, ((p : Nat) : Int)), (0, x1), (0, x2)] [(0, 0)] _ rfl ?_
    exact w_retz rfl rfl (by decide) h
  · have h := h.2.2 c1
    refine zW.go 2 7 [(2, ((p : Nat) : Int)), (0, x1), (0, x2)] [(0, 6), (0, x2)] _ rfl ?_
    refine w_ic_ge rfl (by decide) (pc' := 10) rfl ⟨h.1, by decide⟩ (fun c2 => ?_) (fun c2 => ?_)
    · have h := h.2.1 c2
      refine zW.go 1 24 [(2, ((p : Nat) : Int)), (0, x1), (0, x2)] [(0, 0)] _ rfl ?_
      exact w_retz rfl rfl (by decide) h
    · have h := h.2.2 c2
      refine zW.go 3 13 [(2, ((p : Nat) : Int)), (0, x1), (0, x2)] [(0, x1), (2, ((p : Nat) : Int)), (0, x2)] _ rfl ?_
      refine w_calli (as := [(2, ((p : Nat) : Int)), (0, x1)]) [(0, x2)] 16 rfl rfl rfl rfl (Nat.le_of_ble_eq_true rfl) (Nat.le_of_ble_eq_true rfl) (Nat.le_of_ble_eq_true rfl) (Or.inr (zrcv_o (zPln_t0 hp))) (Ci.imp h (fun r3 mem4 h => ?_))
      refine w_ic_ge rfl (by decide) (pc' := 19) rfl h.1 (fun c5 => ?_) (fun c5 => ?_)
      · have h := h.2.1 c5
        refine zW.go 1 24 [(2, ((p : Nat) : Int)), (0, x1), (0, x2)] [(0, 0)] _ rfl ?_
        exact w_retz rfl rfl (by decide) h
      · have h := h.2.2 c5
        refine zW.go 2 24 [(2, ((p : Nat) : Int)), (0, x1), (0, x2)] [(0, 1)] _ rfl ?_
        exact w_retz rfl rfl (by decide) h
set_option maxRecDepth 4000 in
theorem s_plan_many {X : zX} {d : Nat} {rf mem : zF} {Q : Int → zF → Prop} (hR : zall rf zRK = true) {p : Nat} (hp : zPln rf p) {x1 : Int} (h : (inI x1) ∧ ((x1 < 0 → Q 0 mem) ∧ (¬ x1 < 0 → (inI x1) ∧ ((3 ≤ x1 → Q 0 mem) ∧ (¬ 3 ≤ x1 → (0 ≤ x1 ∧ x1 < 3) ∧ (Q (mem (p + 1) (x1).toNat) mem)))))) : Ci X d 61 [(2, ((p : Nat) : Int)), (0, x1)] rf mem Q := by
  show zW X d 61 0 [(2, ((p : Nat) : Int)), (0, x1)] [] (zty, rf, mem) (qi rf Q)
  refine zW.go 1 1 [(2, ((p : Nat) : Int)), (0, x1)] [(0, x1)] _ rfl ?_
  refine w_if_lt rfl (by decide) (pc' := 4) rfl h.1 (fun c1 => ?_) (fun c1 => ?_)
  · have h := h.2.1 c1
    refine zW.go 1 19 [(2, ((p : Nat) : Int)), (0, x1)] [(0, 0)] _ rfl ?_
    exact w_reti rfl rfl h
  · have h := h.2.2 c1
    refine zW.go 2 6 [(2, ((p : Nat) : Int)), (0, x1)] [(0, 3), (0, x1)] _ rfl ?_
    refine w_ic_ge rfl (by decide) (pc' := 9) rfl ⟨h.1, by decide⟩ (fun c2 => ?_) (fun c2 => ?_)
    · have h := h.2.1 c2
      refine zW.go 1 19 [(2, ((p : Nat) : Int)), (0, x1)] [(0, 0)] _ rfl ?_
      exact w_reti rfl rfl h
    · have h := h.2.2 c2
      refine zW.go 1 10 [(2, ((p : Nat) : Int)), (0, x1)] [(2, ((p : Nat) : Int))] _ rfl ?_
      refine w_getL (q := p) (v := ((p + 1 : Nat) : Int)) rfl (by decide) (pc' := 13) rfl ⟨Int.natCast_nonneg _, rfl⟩ (zPln_t0 hp) rfl (zPln_r0_6 hp) ?_
      refine zW.go 1 14 [(2, ((p : Nat) : Int)), (0, x1)] [(0, x1), (2, ((p + 1 : Nat) : Int))] _ rfl ?_
      obtain ⟨g, h⟩ := h
      refine w_iald (q := (p + 1)) rfl (by decide) (pc' := 15) rfl ⟨Int.natCast_nonneg _, rfl⟩ (zPln_t1 hp) g rfl ?_
      refine zW.go 1 19 [(2, ((p : Nat) : Int)), (0, x1)] [(0, (mem (p + 1) (x1).toNat))] _ rfl ?_
      exact w_reti rfl rfl h
set_option maxRecDepth 4000 in
theorem s_plan_isFull {X : zX} {d : Nat} {rf mem : zF} {Q : Int → zF → Prop} (hR : zall rf zRK = true) {p : Nat} (hp : zPln rf p) {x1 : Int} (h : (inI x1) ∧ ((x1 < 0 → Q 1 mem) ∧ (¬ x1 < 0 → (inI x1) ∧ ((3 ≤ x1 → Q 1 mem) ∧ (¬ 3 ≤ x1 → (0 ≤ x1 ∧ x1 < 3) ∧ ((inI (mem (p + 1) (x1).toNat)) ∧ (((mem (p + 1) (x1).toNat) < 0 → Q 1 mem) ∧ (¬ (mem (p + 1) (x1).toNat) < 0 → (0 ≤ x1 ∧ x1 < 3) ∧ ((inI (mem (p + 1) (x1).toNat)) ∧ (((mem (p + 1) (x1).toNat) < 6 → Q 0 mem) ∧ (¬ (mem (p + 1) (x1).toNat) < 6 → Q 1 mem))))))))))) : Ci X d 62 [(2, ((p : Nat) : Int)), (0, x1)] rf mem Q := by
  show zW X d 62 0 [(2, ((p : Nat) : Int)), (0, x1)] [] (zty, rf, mem) (qi rf Q)
  refine zW.go 1 1 [(2, ((p : Nat) : Int)), (0, x1)] [(0, x1)] _ rfl ?_
  refine w_if_lt rfl (by decide) (pc' := 4) rfl h.1 (fun c1 => ?_) (fun c1 => ?_)
  · have h := h.2.1 c1
    refine zW.go 2 34 [(2, ((p : Nat) : Int)), (0, x1)] [(0, 1)] _ rfl ?_
    exact w_retz rfl rfl (by decide) h
  · have h := h.2.2 c1
    refine zW.go 2 6 [(2, ((p : Nat) : Int)), (0, x1)] [(0, 3), (0, x1)] _ rfl ?_
    refine w_ic_ge rfl (by decide) (pc' := 9) rfl ⟨h.1, by decide⟩ (fun c2 => ?_) (fun c2 => ?_)
    · have h := h.2.1 c2
      refine zW.go 2 34 [(2, ((p : Nat) : Int)), (0, x1)] [(0, 1)] _ rfl ?_
      exact w_retz rfl rfl (by decide) h
    · have h := h.2.2 c2
      refine zW.go 1 10 [(2, ((p : Nat) : Int)), (0, x1)] [(2, ((p : Nat) : Int))] _ rfl ?_
      refine w_getL (q := p) (v := ((p + 1 : Nat) : Int)) rfl (by decide) (pc' := 13) rfl ⟨Int.natCast_nonneg _, rfl⟩ (zPln_t0 hp) rfl (zPln_r0_6 hp) ?_
      refine zW.go 1 14 [(2, ((p : Nat) : Int)), (0, x1)] [(0, x1), (2, ((p + 1 : Nat) : Int))] _ rfl ?_
      obtain ⟨g, h⟩ := h
      refine w_iald (q := (p + 1)) rfl (by decide) (pc' := 15) rfl ⟨Int.natCast_nonneg _, rfl⟩ (zPln_t1 hp) g rfl ?_
      refine w_if_lt rfl (by decide) (pc' := 18) rfl h.1 (fun c3 => ?_) (fun c3 => ?_)
      · have h := h.2.1 c3
        refine zW.go 2 34 [(2, ((p : Nat) : Int)), (0, x1)] [(0, 1)] _ rfl ?_
        exact w_retz rfl rfl (by decide) h
      · have h := h.2.2 c3
        refine zW.go 1 19 [(2, ((p : Nat) : Int)), (0, x1)] [(2, ((p : Nat) : Int))] _ rfl ?_
        refine w_getL (q := p) (v := ((p + 1 : Nat) : Int)) rfl (by decide) (pc' := 22) rfl ⟨Int.natCast_nonneg _, rfl⟩ (zPln_t0 hp) rfl (zPln_r0_6 hp) ?_
        refine zW.go 1 23 [(2, ((p : Nat) : Int)), (0, x1)] [(0, x1), (2, ((p + 1 : Nat) : Int))] _ rfl ?_
        obtain ⟨g, h⟩ := h
        refine w_iald (q := (p + 1)) rfl (by decide) (pc' := 24) rfl ⟨Int.natCast_nonneg _, rfl⟩ (zPln_t1 hp) g rfl ?_
        refine zW.go 1 26 [(2, ((p : Nat) : Int)), (0, x1)] [(0, 6), (0, (mem (p + 1) (x1).toNat))] _ rfl ?_
        refine w_ic_lt rfl (by decide) (pc' := 29) rfl ⟨h.1, by decide⟩ (fun c4 => ?_) (fun c4 => ?_)
        · have h := h.2.1 c4
          refine zW.go 1 34 [(2, ((p : Nat) : Int)), (0, x1)] [(0, 0)] _ rfl ?_
          exact w_retz rfl rfl (by decide) h
        · have h := h.2.2 c4
          refine zW.go 2 34 [(2, ((p : Nat) : Int)), (0, x1)] [(0, 1)] _ rfl ?_
          exact w_retz rfl rfl (by decide) h
set_option maxRecDepth 4000 in
theorem s_plan_add {X : zX} {d : Nat} {rf mem : zF} {Q : Int → zF → Prop} (hR : zall rf zRK = true) {p : Nat} (hp : zPln rf p) {x1 : Int} {x2 : Int} {x3 : Int} (h : Ci X d 62 [(2, ((p : Nat) : Int)), (0, x1)] rf mem (fun r1 mem2 => (inI r1) ∧ ((r1 = 0 → (0 ≤ x1 ∧ x1 < 3) ∧ ((0 ≤ ((6 * x1) + (mem2 (p + 1) (x1).toNat)) ∧ ((6 * x1) + (mem2 (p + 1) (x1).toNat)) < 18) ∧ ((0 ≤ ((6 * x1) + (mem2 (p + 1) (x1).toNat)) ∧ ((6 * x1) + (mem2 (p + 1) (x1).toNat)) < 18) ∧ ((0 ≤ x1 ∧ x1 < 3) ∧ ((0 ≤ x1 ∧ x1 < 3) ∧ (Q (mem2 (p + 1) (x1).toNat) (zup (zup (zup mem2 (p + 2) (((6 * x1) + (mem2 (p + 1) (x1).toNat))).toNat x2) (p + 3) (((6 * x1) + (mem2 (p + 1) (x1).toNat))).toNat x3) (p + 1) (x1).toNat (((zup (zup mem2 (p + 2) (((6 * x1) + (mem2 (p + 1) (x1).toNat))).toNat x2) (p + 3) (((6 * x1) + (mem2 (p + 1) (x1).toNat))).toNat x3) (p + 1) (x1).toNat) + 1)))))))) ∧ (¬ r1 = 0 → Q 0 mem2)))) : Ci X (d + 1) 63 [(2, ((p : Nat) : Int)), (0, x1), (0, x2), (0, x3)] rf mem Q := by
  show zW X (d + 1) 63 0 [(2, ((p : Nat) : Int)), (0, x1), (0, x2), (0, x3), (9, 0)] [] (zty, rf, mem) (qi rf Q)
  refine zW.go 2 2 [(2, ((p : Nat) : Int)), (0, x1), (0, x2), (0, x3), (9, 0)] [(0, x1), (2, ((p : Nat) : Int))] _ rfl ?_
  refine w_calli (as := [(2, ((p : Nat) : Int)), (0, x1)]) [] 5 rfl rfl rfl rfl (Nat.le_of_ble_eq_true rfl) (Nat.le_of_ble_eq_true rfl) (Nat.le_of_ble_eq_true rfl) (Or.inr (zrcv_o (zPln_t0 hp))) (Ci.imp h (fun r1 mem2 h => ?_))
  refine w_if_eq rfl (by decide) (pc' := 8) rfl h.1 (fun c3 => ?_) (fun c3 => ?_)
  · have h := h.2.1 c3
    refine zW.go 1 11 [(2, ((p : Nat) : Int)), (0, x1), (0, x2), (0, x3), (9, 0)] [(2, ((p : Nat) : Int))] _ rfl ?_
    refine w_getL (q := p) (v := ((p + 1 : Nat) : Int)) rfl (by decide) (pc' := 14) rfl ⟨Int.natCast_nonneg _, rfl⟩ (zPln_t0 hp) rfl (zPln_r0_6 hp) ?_
    refine zW.go 1 15 [(2, ((p : Nat) : Int)), (0, x1), (0, x2), (0, x3), (9, 0)] [(0, x1), (2, ((p + 1 : Nat) : Int))] _ rfl ?_
    obtain ⟨g, h⟩ := h
    refine w_iald (q := (p + 1)) rfl (by decide) (pc' := 16) rfl ⟨Int.natCast_nonneg _, rfl⟩ (zPln_t1 hp) g rfl ?_
    refine zW.go 2 19 [(2, ((p : Nat) : Int)), (0, x1), (0, x2), (0, x3), (0, (mem2 (p + 1) (x1).toNat))] [(2, ((p : Nat) : Int))] _ rfl ?_
    refine w_getL (q := p) (v := ((p + 2 : Nat) : Int)) rfl (by decide) (pc' := 22) rfl ⟨Int.natCast_nonneg _, rfl⟩ (zPln_t0 hp) rfl (zPln_r0_7 hp) ?_
    refine zW.go 6 30 [(2, ((p : Nat) : Int)), (0, x1), (0, x2), (0, x3), (0, (mem2 (p + 1) (x1).toNat))] [(0, x2), (0, ((6 * x1) + (mem2 (p + 1) (x1).toNat))), (2, ((p + 2 : Nat) : Int))] _ rfl ?_
    obtain ⟨g, h⟩ := h
    refine w_iast (q := (p + 2)) rfl (by decide) (pc' := 31) rfl ⟨Int.natCast_nonneg _, rfl⟩ (zPln_t2 hp) g rfl ?_
    refine zW.go 1 32 [(2, ((p : Nat) : Int)), (0, x1), (0, x2), (0, x3), (0, (mem2 (p + 1) (x1).toNat))] [(2, ((p : Nat) : Int))] _ rfl ?_
    refine w_getL (q := p) (v := ((p + 3 : Nat) : Int)) rfl (by decide) (pc' := 35) rfl ⟨Int.natCast_nonneg _, rfl⟩ (zPln_t0 hp) rfl (zPln_r0_8 hp) ?_
    refine zW.go 6 43 [(2, ((p : Nat) : Int)), (0, x1), (0, x2), (0, x3), (0, (mem2 (p + 1) (x1).toNat))] [(0, x3), (0, ((6 * x1) + (mem2 (p + 1) (x1).toNat))), (2, ((p + 3 : Nat) : Int))] _ rfl ?_
    obtain ⟨g, h⟩ := h
    refine w_iast (q := (p + 3)) rfl (by decide) (pc' := 44) rfl ⟨Int.natCast_nonneg _, rfl⟩ (zPln_t3 hp) g rfl ?_
    refine zW.go 1 45 [(2, ((p : Nat) : Int)), (0, x1), (0, x2), (0, x3), (0, (mem2 (p + 1) (x1).toNat))] [(2, ((p : Nat) : Int))] _ rfl ?_
    refine w_getL (q := p) (v := ((p + 1 : Nat) : Int)) rfl (by decide) (pc' := 48) rfl ⟨Int.natCast_nonneg _, rfl⟩ (zPln_t0 hp) rfl (zPln_r0_6 hp) ?_
    refine zW.go 2 50 [(2, ((p : Nat) : Int)), (0, x1), (0, x2), (0, x3), (0, (mem2 (p + 1) (x1).toNat))] [(0, x1), (2, ((p + 1 : Nat) : Int)), (0, x1), (2, ((p + 1 : Nat) : Int))] _ rfl ?_
    obtain ⟨g, h⟩ := h
    refine w_iald (q := (p + 1)) rfl (by decide) (pc' := 51) rfl ⟨Int.natCast_nonneg _, rfl⟩ (zPln_t1 hp) g rfl ?_
    refine zW.go 2 53 [(2, ((p : Nat) : Int)), (0, x1), (0, x2), (0, x3), (0, (mem2 (p + 1) (x1).toNat))] [(0, (((zup (zup mem2 (p + 2) (((6 * x1) + (mem2 (p + 1) (x1).toNat))).toNat x2) (p + 3) (((6 * x1) + (mem2 (p + 1) (x1).toNat))).toNat x3) (p + 1) (x1).toNat) + 1)), (0, x1), (2, ((p + 1 : Nat) : Int))] _ rfl ?_
    obtain ⟨g, h⟩ := h
    refine w_iast (q := (p + 1)) rfl (by decide) (pc' := 54) rfl ⟨Int.natCast_nonneg _, rfl⟩ (zPln_t1 hp) g rfl ?_
    refine zW.go 1 56 [(2, ((p : Nat) : Int)), (0, x1), (0, x2), (0, x3), (0, (mem2 (p + 1) (x1).toNat))] [(0, (mem2 (p + 1) (x1).toNat))] _ rfl ?_
    exact w_reti rfl rfl h
  · have h := h.2.2 c3
    refine zW.go 1 9 [(2, ((p : Nat) : Int)), (0, x1), (0, x2), (0, x3), (9, 0)] [(0, 0)] _ rfl ?_
    exact w_reti rfl rfl h
set_option maxRecDepth 4000 in
theorem s_plan_nameOf {X : zX} {d : Nat} {rf mem : zF} {Q : Int → zF → Prop} (hR : zall rf zRK = true) {p : Nat} (hp : zPln rf p) {x1 : Int} {x2 : Int} (h : Ci X d 60 [(2, ((p : Nat) : Int)), (0, x1), (0, x2)] rf mem (fun r1 mem2 => (inI r1) ∧ ((r1 = 0 → Q (-1) mem2) ∧ (¬ r1 = 0 → (0 ≤ ((6 * x1) + x2) ∧ ((6 * x1) + x2) < 18) ∧ (Q (mem2 (p + 2) (((6 * x1) + x2)).toNat) mem2))))) : Ci X (d + 1) 64 [(2, ((p : Nat) : Int)), (0, x1), (0, x2)] rf mem Q := by
  show zW X (d + 1) 64 0 [(2, ((p : Nat) : Int)), (0, x1), (0, x2)] [] (zty, rf, mem) (qi rf Q)
  refine zW.go 3 3 [(2, ((p : Nat) : Int)), (0, x1), (0, x2)] [(0, x2), (0, x1), (2, ((p : Nat) : Int))] _ rfl ?_
  refine w_calli (as := [(2, ((p : Nat) : Int)), (0, x1), (0, x2)]) [] 6 rfl rfl rfl rfl (Nat.le_of_ble_eq_true rfl) (Nat.le_of_ble_eq_true rfl) (Nat.le_of_ble_eq_true rfl) (Or.inr (zrcv_o (zPln_t0 hp))) (Ci.imp h (fun r1 mem2 h => ?_))
  refine w_if_eq rfl (by decide) (pc' := 9) rfl h.1 (fun c3 => ?_) (fun c3 => ?_)
  · have h := h.2.1 c3
    refine zW.go 1 24 [(2, ((p : Nat) : Int)), (0, x1), (0, x2)] [(0, (-1))] _ rfl ?_
    exact w_reti rfl rfl h
  · have h := h.2.2 c3
    refine zW.go 1 10 [(2, ((p : Nat) : Int)), (0, x1), (0, x2)] [(2, ((p : Nat) : Int))] _ rfl ?_
    refine w_getL (q := p) (v := ((p + 2 : Nat) : Int)) rfl (by decide) (pc' := 13) rfl ⟨Int.natCast_nonneg _, rfl⟩ (zPln_t0 hp) rfl (zPln_r0_7 hp) ?_
    refine zW.go 5 19 [(2, ((p : Nat) : Int)), (0, x1), (0, x2)] [(0, ((6 * x1) + x2)), (2, ((p + 2 : Nat) : Int))] _ rfl ?_
    obtain ⟨g, h⟩ := h
    refine w_iald (q := (p + 2)) rfl (by decide) (pc' := 20) rfl ⟨Int.natCast_nonneg _, rfl⟩ (zPln_t2 hp) g rfl ?_
    refine zW.go 1 24 [(2, ((p : Nat) : Int)), (0, x1), (0, x2)] [(0, (mem2 (p + 2) (((6 * x1) + x2)).toNat))] _ rfl ?_
    exact w_reti rfl rfl h
set_option maxRecDepth 4000 in
theorem s_plan_cellOf {X : zX} {d : Nat} {rf mem : zF} {Q : Int → zF → Prop} (hR : zall rf zRK = true) {p : Nat} (hp : zPln rf p) {x1 : Int} {x2 : Int} (h : Ci X d 60 [(2, ((p : Nat) : Int)), (0, x1), (0, x2)] rf mem (fun r1 mem2 => (inI r1) ∧ ((r1 = 0 → Q (-1) mem2) ∧ (¬ r1 = 0 → (0 ≤ ((6 * x1) + x2) ∧ ((6 * x1) + x2) < 18) ∧ (Q (mem2 (p + 3) (((6 * x1) + x2)).toNat) mem2))))) : Ci X (d + 1) 65 [(2, ((p : Nat) : Int)), (0, x1), (0, x2)] rf mem Q := by
  show zW X (d + 1) 65 0 [(2, ((p : Nat) : Int)), (0, x1), (0, x2)] [] (zty, rf, mem) (qi rf Q)
  refine zW.go 3 3 [(2, ((p : Nat) : Int)), (0, x1), (0, x2)] [(0, x2), (0, x1), (2, ((p : Nat) : Int))] _ rfl ?_
  refine w_calli (as := [(2, ((p : Nat) : Int)), (0, x1), (0, x2)]) [] 6 rfl rfl rfl rfl (Nat.le_of_ble_eq_true rfl) (Nat.le_of_ble_eq_true rfl) (Nat.le_of_ble_eq_true rfl) (Or.inr (zrcv_o (zPln_t0 hp))) (Ci.imp h (fun r1 mem2 h => ?_))
  refine w_if_eq rfl (by decide) (pc' := 9) rfl h.1 (fun c3 => ?_) (fun c3 => ?_)
  · have h := h.2.1 c3
    refine zW.go 1 24 [(2, ((p : Nat) : Int)), (0, x1), (0, x2)] [(0, (-1))] _ rfl ?_
    exact w_reti rfl rfl h
  · have h := h.2.2 c3
    refine zW.go 1 10 [(2, ((p : Nat) : Int)), (0, x1), (0, x2)] [(2, ((p : Nat) : Int))] _ rfl ?_
    refine w_getL (q := p) (v := ((p + 3 : Nat) : Int)) rfl (by decide) (pc' := 13) rfl ⟨Int.natCast_nonneg _, rfl⟩ (zPln_t0 hp) rfl (zPln_r0_8 hp) ?_
    refine zW.go 5 19 [(2, ((p : Nat) : Int)), (0, x1), (0, x2)] [(0, ((6 * x1) + x2)), (2, ((p + 3 : Nat) : Int))] _ rfl ?_
    obtain ⟨g, h⟩ := h
    refine w_iald (q := (p + 3)) rfl (by decide) (pc' := 20) rfl ⟨Int.natCast_nonneg _, rfl⟩ (zPln_t3 hp) g rfl ?_
    refine zW.go 1 24 [(2, ((p : Nat) : Int)), (0, x1), (0, x2)] [(0, (mem2 (p + 3) (((6 * x1) + x2)).toNat))] _ rfl ?_
    exact w_reti rfl rfl h
def L_plan_withName_2 (X : zX) (d : Nat) (rf : zF) (Q : Int → zF → Prop) (mem : zF) (p : Nat) (x1 : Int) (x2 : Int) (x3 : Int) : Prop := zW X (d + 1) 66 2 [(2, ((p : Nat) : Int)), (0, x1), (0, x2), (0, x3)] [] (zty, rf, mem) (qi rf Q)
set_option maxRecDepth 4000 in
theorem s_plan_withName_2 {X : zX} {d : Nat} {rf mem : zF} {Q : Int → zF → Prop} (hR : zall rf zRK = true) {p : Nat} (hp : zPln rf p) {x1 : Int} {x2 : Int} {x3 : Int} (h : Ci X d 61 [(2, ((p : Nat) : Int)), (0, x1)] rf mem (fun r1 mem2 => (inI x3 ∧ inI r1) ∧ ((r1 ≤ x3 → Q (-1) mem2) ∧ (¬ r1 ≤ x3 → (0 ≤ ((6 * x1) + x3) ∧ ((6 * x1) + x3) < 18) ∧ ((inI (mem2 (p + 2) (((6 * x1) + x3)).toNat) ∧ inI x2) ∧ ((¬ (mem2 (p + 2) (((6 * x1) + x3)).toNat) = x2 → L_plan_withName_2 X d rf Q mem2 p x1 x2 (x3 + 1)) ∧ ((mem2 (p + 2) (((6 * x1) + x3)).toNat) = x2 → Q x3 mem2))))))) : L_plan_withName_2 X d rf Q mem p x1 x2 x3 := by
  refine zW.go 3 5 [(2, ((p : Nat) : Int)), (0, x1), (0, x2), (0, x3)] [(0, x1), (2, ((p : Nat) : Int)), (0, x3)] _ rfl ?_
  refine w_calli (as := [(2, ((p : Nat) : Int)), (0, x1)]) [(0, x3)] 8 rfl rfl rfl rfl (Nat.le_of_ble_eq_true rfl) (Nat.le_of_ble_eq_true rfl) (Nat.le_of_ble_eq_true rfl) (Or.inr (zrcv_o (zPln_t0 hp))) (Ci.imp h (fun r1 mem2 h => ?_))
  refine w_ic_ge rfl (by decide) (pc' := 11) rfl h.1 (fun c3 => ?_) (fun c3 => ?_)
  · have h := h.2.1 c3
    refine zW.go 1 35 [(2, ((p : Nat) : Int)), (0, x1), (0, x2), (0, x3)] [(0, (-1))] _ rfl ?_
    exact w_reti rfl rfl h
  · have h := h.2.2 c3
    refine zW.go 1 12 [(2, ((p : Nat) : Int)), (0, x1), (0, x2), (0, x3)] [(2, ((p : Nat) : Int))] _ rfl ?_
    refine w_getL (q := p) (v := ((p + 2 : Nat) : Int)) rfl (by decide) (pc' := 15) rfl ⟨Int.natCast_nonneg _, rfl⟩ (zPln_t0 hp) rfl (zPln_r0_7 hp) ?_
    refine zW.go 5 21 [(2, ((p : Nat) : Int)), (0, x1), (0, x2), (0, x3)] [(0, ((6 * x1) + x3)), (2, ((p + 2 : Nat) : Int))] _ rfl ?_
    obtain ⟨g, h⟩ := h
    refine w_iald (q := (p + 2)) rfl (by decide) (pc' := 22) rfl ⟨Int.natCast_nonneg _, rfl⟩ (zPln_t2 hp) g rfl ?_
    refine zW.go 1 23 [(2, ((p : Nat) : Int)), (0, x1), (0, x2), (0, x3)] [(0, x2), (0, (mem2 (p + 2) (((6 * x1) + x3)).toNat))] _ rfl ?_
    refine w_ic_ne rfl (by decide) (pc' := 26) rfl h.1 (fun c4 => ?_) (fun c4 => ?_)
    · have h := h.2.1 c4
      refine zW.go 2 2 [(2, ((p : Nat) : Int)), (0, x1), (0, x2), (0, (x3 + 1))] [] _ rfl ?_
      exact h
    · have h := h.2.2 c4
      refine zW.go 1 27 [(2, ((p : Nat) : Int)), (0, x1), (0, x2), (0, x3)] [(0, x3)] _ rfl ?_
      exact w_reti rfl rfl h
set_option maxRecDepth 4000 in
theorem s_plan_withName {X : zX} {d : Nat} {rf mem : zF} {Q : Int → zF → Prop} (hR : zall rf zRK = true) {p : Nat} (hp : zPln rf p) {x1 : Int} {x2 : Int} (h : L_plan_withName_2 X d rf Q mem p x1 x2 0) : Ci X (d + 1) 66 [(2, ((p : Nat) : Int)), (0, x1), (0, x2)] rf mem Q := by
  show zW X (d + 1) 66 0 [(2, ((p : Nat) : Int)), (0, x1), (0, x2), (9, 0)] [] (zty, rf, mem) (qi rf Q)
  refine zW.go 2 2 [(2, ((p : Nat) : Int)), (0, x1), (0, x2), (0, 0)] [] _ rfl ?_
  exact h
set_option maxRecDepth 4000 in
theorem s_plan_isNamed {X : zX} {d : Nat} {rf mem : zF} {Q : Int → zF → Prop} (hR : zall rf zRK = true) {p : Nat} (hp : zPln rf p) {x1 : Int} (h : Ci X d 66 [(2, ((p : Nat) : Int)), (0, 0), (0, x1)] rf mem (fun r1 mem2 => (inI r1) ∧ ((¬ r1 = (-1) → Q 1 mem2) ∧ (r1 = (-1) → Ci X d 66 [(2, ((p : Nat) : Int)), (0, 1), (0, x1)] rf mem2 (fun r4 mem5 => (inI r4) ∧ ((¬ r4 = (-1) → Q 1 mem5) ∧ (r4 = (-1) → Ci X d 66 [(2, ((p : Nat) : Int)), (0, 2), (0, x1)] rf mem5 (fun r7 mem8 => (inI r7) ∧ ((r7 = (-1) → Q 0 mem8) ∧ (¬ r7 = (-1) → Q 1 mem8)))))))))) : Ci X (d + 1) 67 [(2, ((p : Nat) : Int)), (0, x1)] rf mem Q := by
  show zW X (d + 1) 67 0 [(2, ((p : Nat) : Int)), (0, x1)] [] (zty, rf, mem) (qi rf Q)
  refine zW.go 3 3 [(2, ((p : Nat) : Int)), (0, x1)] [(0, x1), (0, 0), (2, ((p : Nat) : Int))] _ rfl ?_
  refine w_calli (as := [(2, ((p : Nat) : Int)), (0, 0), (0, x1)]) [] 6 rfl rfl rfl rfl (Nat.le_of_ble_eq_true rfl) (Nat.le_of_ble_eq_true rfl) (Nat.le_of_ble_eq_true rfl) (Or.inr (zrcv_o (zPln_t0 hp))) (Ci.imp h (fun r1 mem2 h => ?_))
  refine zW.go 1 7 [(2, ((p : Nat) : Int)), (0, x1)] [(0, (-1)), (0, r1)] _ rfl ?_
  refine w_ic_ne rfl (by decide) (pc' := 10) rfl ⟨h.1, by decide⟩ (fun c3 => ?_) (fun c3 => ?_)
  · have h := h.2.1 c3
    refine zW.go 2 35 [(2, ((p : Nat) : Int)), (0, x1)] [(0, 1)] _ rfl ?_
    exact w_retz rfl rfl (by decide) h
  · have h := h.2.2 c3
    refine zW.go 3 13 [(2, ((p : Nat) : Int)), (0, x1)] [(0, x1), (0, 1), (2, ((p : Nat) : Int))] _ rfl ?_
    refine w_calli (as := [(2, ((p : Nat) : Int)), (0, 1), (0, x1)]) [] 16 rfl rfl rfl rfl (Nat.le_of_ble_eq_true rfl) (Nat.le_of_ble_eq_true rfl) (Nat.le_of_ble_eq_true rfl) (Or.inr (zrcv_o (zPln_t0 hp))) (Ci.imp h (fun r4 mem5 h => ?_))
    refine zW.go 1 17 [(2, ((p : Nat) : Int)), (0, x1)] [(0, (-1)), (0, r4)] _ rfl ?_
    refine w_ic_ne rfl (by decide) (pc' := 20) rfl ⟨h.1, by decide⟩ (fun c6 => ?_) (fun c6 => ?_)
    · have h := h.2.1 c6
      refine zW.go 2 35 [(2, ((p : Nat) : Int)), (0, x1)] [(0, 1)] _ rfl ?_
      exact w_retz rfl rfl (by decide) h
    · have h := h.2.2 c6
      refine zW.go 3 23 [(2, ((p : Nat) : Int)), (0, x1)] [(0, x1), (0, 2), (2, ((p : Nat) : Int))] _ rfl ?_
      refine w_calli (as := [(2, ((p : Nat) : Int)), (0, 2), (0, x1)]) [] 26 rfl rfl rfl rfl (Nat.le_of_ble_eq_true rfl) (Nat.le_of_ble_eq_true rfl) (Nat.le_of_ble_eq_true rfl) (Or.inr (zrcv_o (zPln_t0 hp))) (Ci.imp h (fun r7 mem8 h => ?_))
      refine zW.go 1 27 [(2, ((p : Nat) : Int)), (0, x1)] [(0, (-1)), (0, r7)] _ rfl ?_
      refine w_ic_eq rfl (by decide) (pc' := 30) rfl ⟨h.1, by decide⟩ (fun c9 => ?_) (fun c9 => ?_)
      · have h := h.2.1 c9
        refine zW.go 1 35 [(2, ((p : Nat) : Int)), (0, x1)] [(0, 0)] _ rfl ?_
        exact w_retz rfl rfl (by decide) h
      · have h := h.2.2 c9
        refine zW.go 2 35 [(2, ((p : Nat) : Int)), (0, x1)] [(0, 1)] _ rfl ?_
        exact w_retz rfl rfl (by decide) h
def L_plan_isTaken_2 (X : zX) (d : Nat) (rf : zF) (Q : Int → zF → Prop) (mem : zF) (p : Nat) (x1 : Int) (x2 : Int) (x3 : Int) : Prop := zW X (d + 1) 68 2 [(2, ((p : Nat) : Int)), (0, x1), (0, x2), (0, x3)] [] (zty, rf, mem) (qi rf Q)
set_option maxRecDepth 4000 in
theorem s_plan_isTaken_2 {X : zX} {d : Nat} {rf mem : zF} {Q : Int → zF → Prop} (hR : zall rf zRK = true) {p : Nat} (hp : zPln rf p) {x1 : Int} {x2 : Int} {x3 : Int} (h : Ci X d 61 [(2, ((p : Nat) : Int)), (0, x1)] rf mem (fun r1 mem2 => (inI x3 ∧ inI r1) ∧ ((r1 ≤ x3 → Q 0 mem2) ∧ (¬ r1 ≤ x3 → (0 ≤ ((6 * x1) + x3) ∧ ((6 * x1) + x3) < 18) ∧ ((inI (mem2 (p + 3) (((6 * x1) + x3)).toNat) ∧ inI x2) ∧ ((¬ (mem2 (p + 3) (((6 * x1) + x3)).toNat) = x2 → L_plan_isTaken_2 X d rf Q mem2 p x1 x2 (x3 + 1)) ∧ ((mem2 (p + 3) (((6 * x1) + x3)).toNat) = x2 → Q 1 mem2))))))) : L_plan_isTaken_2 X d rf Q mem p x1 x2 x3 := by
  refine zW.go 3 5 [(2, ((p : Nat) : Int)), (0, x1), (0, x2), (0, x3)] [(0, x1), (2, ((p : Nat) : Int)), (0, x3)] _ rfl ?_
  refine w_calli (as := [(2, ((p : Nat) : Int)), (0, x1)]) [(0, x3)] 8 rfl rfl rfl rfl (Nat.le_of_ble_eq_true rfl) (Nat.le_of_ble_eq_true rfl) (Nat.le_of_ble_eq_true rfl) (Or.inr (zrcv_o (zPln_t0 hp))) (Ci.imp h (fun r1 mem2 h => ?_))
  refine w_ic_ge rfl (by decide) (pc' := 11) rfl h.1 (fun c3 => ?_) (fun c3 => ?_)
  · have h := h.2.1 c3
    refine zW.go 1 35 [(2, ((p : Nat) : Int)), (0, x1), (0, x2), (0, x3)] [(0, 0)] _ rfl ?_
    exact w_retz rfl rfl (by decide) h
  · have h := h.2.2 c3
    refine zW.go 1 12 [(2, ((p : Nat) : Int)), (0, x1), (0, x2), (0, x3)] [(2, ((p : Nat) : Int))] _ rfl ?_
    refine w_getL (q := p) (v := ((p + 3 : Nat) : Int)) rfl (by decide) (pc' := 15) rfl ⟨Int.natCast_nonneg _, rfl⟩ (zPln_t0 hp) rfl (zPln_r0_8 hp) ?_
    refine zW.go 5 21 [(2, ((p : Nat) : Int)), (0, x1), (0, x2), (0, x3)] [(0, ((6 * x1) + x3)), (2, ((p + 3 : Nat) : Int))] _ rfl ?_
    obtain ⟨g, h⟩ := h
    refine w_iald (q := (p + 3)) rfl (by decide) (pc' := 22) rfl ⟨Int.natCast_nonneg _, rfl⟩ (zPln_t3 hp) g rfl ?_
    refine zW.go 1 23 [(2, ((p : Nat) : Int)), (0, x1), (0, x2), (0, x3)] [(0, x2), (0, (mem2 (p + 3) (((6 * x1) + x3)).toNat))] _ rfl ?_
    refine w_ic_ne rfl (by decide) (pc' := 26) rfl h.1 (fun c4 => ?_) (fun c4 => ?_)
    · have h := h.2.1 c4
      refine zW.go 2 2 [(2, ((p : Nat) : Int)), (0, x1), (0, x2), (0, (x3 + 1))] [] _ rfl ?_
      exact h
    · have h := h.2.2 c4
      refine zW.go 1 27 [(2, ((p : Nat) : Int)), (0, x1), (0, x2), (0, x3)] [(0, 1)] _ rfl ?_
      exact w_retz rfl rfl (by decide) h
set_option maxRecDepth 4000 in
theorem s_plan_isTaken {X : zX} {d : Nat} {rf mem : zF} {Q : Int → zF → Prop} (hR : zall rf zRK = true) {p : Nat} (hp : zPln rf p) {x1 : Int} {x2 : Int} (h : L_plan_isTaken_2 X d rf Q mem p x1 x2 0) : Ci X (d + 1) 68 [(2, ((p : Nat) : Int)), (0, x1), (0, x2)] rf mem Q := by
  show zW X (d + 1) 68 0 [(2, ((p : Nat) : Int)), (0, x1), (0, x2), (9, 0)] [] (zty, rf, mem) (qi rf Q)
  refine zW.go 2 2 [(2, ((p : Nat) : Int)), (0, x1), (0, x2), (0, 0)] [] _ rfl ?_
  exact h
def L_plan_cellAt_29 (X : zX) (d : Nat) (rf : zF) (Q : Int → zF → Prop) (mem : zF) (p : Nat) (x1 : Int) (x2 : Int) (s0 : Int) : Prop := ∀ z0 : zV, ∀ z3 : zV, zW X d 69 29 [z0, (0, x1), (0, x2), z3] [(0, s0)] (zty, rf, mem) (qi rf Q)
set_option maxRecDepth 4000 in
theorem s_plan_cellAt_29 {X : zX} {d : Nat} {rf mem : zF} {Q : Int → zF → Prop} (hR : zall rf zRK = true) {p : Nat} (hp : zPln rf p) {x1 : Int} {x2 : Int} {s0 : Int} (h : (inI s0) ∧ ((s0 = 0 → Q (-1) mem) ∧ (¬ s0 = 0 → Q ((8 * x2) + x1) mem))) : L_plan_cellAt_29 X d rf Q mem p x1 x2 s0 := by
  intro z0 z3
  refine zW.go 2 31 [z0, (0, x1), (0, x2), (0, s0)] [(0, s0)] _ rfl ?_
  refine w_if_eq rfl (by decide) (pc' := 34) rfl h.1 (fun c5 => ?_) (fun c5 => ?_)
  · have h := h.2.1 c5
    refine zW.go 1 44 [z0, (0, x1), (0, x2), (0, s0)] [(0, (-1))] _ rfl ?_
    exact w_reti rfl rfl h
  · have h := h.2.2 c5
    refine zW.go 6 44 [z0, (0, x1), (0, x2), (0, s0)] [(0, ((8 * x2) + x1))] _ rfl ?_
    exact w_reti rfl rfl h
set_option maxRecDepth 4000 in
theorem s_plan_cellAt {X : zX} {d : Nat} {rf mem : zF} {Q : Int → zF → Prop} (hR : zall rf zRK = true) {p : Nat} (hp : zPln rf p) {x1 : Int} {x2 : Int} (h : (inI x1) ∧ ((x1 < 0 → L_plan_cellAt_29 X d rf Q mem p x1 x2 0) ∧ (¬ x1 < 0 → (inI x1 ∧ inI (mem p 1)) ∧ (((mem p 1) ≤ x1 → L_plan_cellAt_29 X d rf Q mem p x1 x2 0) ∧ (¬ (mem p 1) ≤ x1 → (inI x2) ∧ ((x2 < 0 → L_plan_cellAt_29 X d rf Q mem p x1 x2 0) ∧ (¬ x2 < 0 → (inI x2 ∧ inI (mem p 2)) ∧ (((mem p 2) ≤ x2 → L_plan_cellAt_29 X d rf Q mem p x1 x2 0) ∧ (¬ (mem p 2) ≤ x2 → L_plan_cellAt_29 X d rf Q mem p x1 x2 1))))))))) : Ci X d 69 [(2, ((p : Nat) : Int)), (0, x1), (0, x2)] rf mem Q := by
  show zW X d 69 0 [(2, ((p : Nat) : Int)), (0, x1), (0, x2), (9, 0)] [] (zty, rf, mem) (qi rf Q)
  refine zW.go 1 1 [(2, ((p : Nat) : Int)), (0, x1), (0, x2), (9, 0)] [(0, x1)] _ rfl ?_
  refine w_if_lt rfl (by decide) (pc' := 4) rfl h.1 (fun c1 => ?_) (fun c1 => ?_)
  · have h := h.2.1 c1
    refine zW.go 1 29 [(2, ((p : Nat) : Int)), (0, x1), (0, x2), (9, 0)] [(0, 0)] _ rfl ?_
    exact h (2, ((p : Nat) : Int)) (9, 0)
  · have h := h.2.2 c1
    refine zW.go 2 6 [(2, ((p : Nat) : Int)), (0, x1), (0, x2), (9, 0)] [(2, ((p : Nat) : Int)), (0, x1)] _ rfl ?_
    refine w_getI (q := p) rfl (by decide) (pc' := 9) rfl ⟨Int.natCast_nonneg _, rfl⟩ (zPln_t0 hp) (by decide) ?_
    refine w_ic_ge rfl (by decide) (pc' := 12) rfl h.1 (fun c2 => ?_) (fun c2 => ?_)
    · have h := h.2.1 c2
      refine zW.go 1 29 [(2, ((p : Nat) : Int)), (0, x1), (0, x2), (9, 0)] [(0, 0)] _ rfl ?_
      exact h (2, ((p : Nat) : Int)) (9, 0)
    · have h := h.2.2 c2
      refine zW.go 1 13 [(2, ((p : Nat) : Int)), (0, x1), (0, x2), (9, 0)] [(0, x2)] _ rfl ?_
      refine w_if_lt rfl (by decide) (pc' := 16) rfl h.1 (fun c3 => ?_) (fun c3 => ?_)
      · have h := h.2.1 c3
        refine zW.go 1 29 [(2, ((p : Nat) : Int)), (0, x1), (0, x2), (9, 0)] [(0, 0)] _ rfl ?_
        exact h (2, ((p : Nat) : Int)) (9, 0)
      · have h := h.2.2 c3
        refine zW.go 2 18 [(2, ((p : Nat) : Int)), (0, x1), (0, x2), (9, 0)] [(2, ((p : Nat) : Int)), (0, x2)] _ rfl ?_
        refine w_getI (q := p) rfl (by decide) (pc' := 21) rfl ⟨Int.natCast_nonneg _, rfl⟩ (zPln_t0 hp) (by decide) ?_
        refine w_ic_ge rfl (by decide) (pc' := 24) rfl h.1 (fun c4 => ?_) (fun c4 => ?_)
        · have h := h.2.1 c4
          refine zW.go 1 29 [(2, ((p : Nat) : Int)), (0, x1), (0, x2), (9, 0)] [(0, 0)] _ rfl ?_
          exact h (2, ((p : Nat) : Int)) (9, 0)
        · have h := h.2.2 c4
          refine zW.go 2 29 [(2, ((p : Nat) : Int)), (0, x1), (0, x2), (9, 0)] [(0, 1)] _ rfl ?_
          exact h (2, ((p : Nat) : Int)) (9, 0)
set_option maxRecDepth 4000 in
theorem s_plan_isCell {X : zX} {d : Nat} {rf mem : zF} {Q : Int → zF → Prop} (hR : zall rf zRK = true) {p : Nat} (hp : zPln rf p) {x1 : Int} (h : (inI x1) ∧ ((x1 < 0 → Q 0 mem) ∧ (¬ x1 < 0 → (inI x1) ∧ ((inI x1) ∧ (Ci X d 69 [(2, ((p : Nat) : Int)), (0, (x1.tmod 8)), (0, (x1.tdiv 8))] rf mem (fun r2 mem3 => (inI r2) ∧ ((r2 = (-1) → Q 0 mem3) ∧ (¬ r2 = (-1) → Q 1 mem3)))))))) : Ci X (d + 1) 70 [(2, ((p : Nat) : Int)), (0, x1)] rf mem Q := by
  show zW X (d + 1) 70 0 [(2, ((p : Nat) : Int)), (0, x1)] [] (zty, rf, mem) (qi rf Q)
  refine zW.go 1 1 [(2, ((p : Nat) : Int)), (0, x1)] [(0, x1)] _ rfl ?_
  refine w_if_lt rfl (by decide) (pc' := 4) rfl h.1 (fun c1 => ?_) (fun c1 => ?_)
  · have h := h.2.1 c1
    refine zW.go 1 25 [(2, ((p : Nat) : Int)), (0, x1)] [(0, 0)] _ rfl ?_
    exact w_retz rfl rfl (by decide) h
  · have h := h.2.2 c1
    refine zW.go 3 8 [(2, ((p : Nat) : Int)), (0, x1)] [(0, 8), (0, x1), (2, ((p : Nat) : Int))] _ rfl ?_
    obtain ⟨g, h⟩ := h
    refine w_irem rfl (by decide) (pc' := 9) rfl ⟨g, by decide, by decide⟩ ?_
    refine zW.go 2 12 [(2, ((p : Nat) : Int)), (0, x1)] [(0, 8), (0, x1), (0, (x1.tmod 8)), (2, ((p : Nat) : Int))] _ rfl ?_
    obtain ⟨g, h⟩ := h
    refine w_idiv rfl (by decide) (pc' := 13) rfl ⟨g, by decide, by decide⟩ ?_
    refine w_calli (as := [(2, ((p : Nat) : Int)), (0, (x1.tmod 8)), (0, (x1.tdiv 8))]) [] 16 rfl rfl rfl rfl (Nat.le_of_ble_eq_true rfl) (Nat.le_of_ble_eq_true rfl) (Nat.le_of_ble_eq_true rfl) (Or.inr (zrcv_o (zPln_t0 hp))) (Ci.imp h (fun r2 mem3 h => ?_))
    refine zW.go 1 17 [(2, ((p : Nat) : Int)), (0, x1)] [(0, (-1)), (0, r2)] _ rfl ?_
    refine w_ic_eq rfl (by decide) (pc' := 20) rfl ⟨h.1, by decide⟩ (fun c4 => ?_) (fun c4 => ?_)
    · have h := h.2.1 c4
      refine zW.go 1 25 [(2, ((p : Nat) : Int)), (0, x1)] [(0, 0)] _ rfl ?_
      exact w_retz rfl rfl (by decide) h
    · have h := h.2.2 c4
      refine zW.go 2 25 [(2, ((p : Nat) : Int)), (0, x1)] [(0, 1)] _ rfl ?_
      exact w_retz rfl rfl (by decide) h
set_option maxRecDepth 4000 in
theorem s_plan_next {X : zX} {d : Nat} {rf mem : zF} {Q : Int → zF → Prop} (hR : zall rf zRK = true) {p : Nat} (hp : zPln rf p) {x1 : Int} {x2 : Int} (h : (inI x1) ∧ ((x1 < 0 → Q (-1) mem) ∧ (¬ x1 < 0 → (inI x2) ∧ ((x2 < 0 → Q (-1) mem) ∧ (¬ x2 < 0 → (inI x2) ∧ ((x2 < 4 → (inI x1) ∧ ((0 ≤ x2 ∧ x2 < 4) ∧ ((inI x1) ∧ ((0 ≤ x2 ∧ x2 < 4) ∧ (Ci X d 69 [(2, ((p : Nat) : Int)), (0, ((x1.tmod 8) + (zom X 3 (x2).toNat))), (0, ((x1.tdiv 8) + (zom X 4 (x2).toNat)))] rf mem (fun r4 mem5 => Q r4 mem5)))))) ∧ (¬ x2 < 4 → Q (-1) mem))))))) : Ci X (d + 1) 71 [(2, ((p : Nat) : Int)), (0, x1), (0, x2)] rf mem Q := by
  show zW X (d + 1) 71 0 [(2, ((p : Nat) : Int)), (0, x1), (0, x2)] [] (zty, rf, mem) (qi rf Q)
  refine zW.go 1 1 [(2, ((p : Nat) : Int)), (0, x1), (0, x2)] [(0, x1)] _ rfl ?_
  refine w_if_lt rfl (by decide) (pc' := 4) rfl h.1 (fun c1 => ?_) (fun c1 => ?_)
  · have h := h.2.1 c1
    refine zW.go 1 14 [(2, ((p : Nat) : Int)), (0, x1), (0, x2)] [(0, (-1))] _ rfl ?_
    exact w_reti rfl rfl h
  · have h := h.2.2 c1
    refine zW.go 1 5 [(2, ((p : Nat) : Int)), (0, x1), (0, x2)] [(0, x2)] _ rfl ?_
    refine w_if_lt rfl (by decide) (pc' := 8) rfl h.1 (fun c2 => ?_) (fun c2 => ?_)
    · have h := h.2.1 c2
      refine zW.go 1 14 [(2, ((p : Nat) : Int)), (0, x1), (0, x2)] [(0, (-1))] _ rfl ?_
      exact w_reti rfl rfl h
    · have h := h.2.2 c2
      refine zW.go 2 10 [(2, ((p : Nat) : Int)), (0, x1), (0, x2)] [(0, 4), (0, x2)] _ rfl ?_
      refine w_ic_lt rfl (by decide) (pc' := 13) rfl ⟨h.1, by decide⟩ (fun c3 => ?_) (fun c3 => ?_)
      · have h := h.2.1 c3
        refine zW.go 3 19 [(2, ((p : Nat) : Int)), (0, x1), (0, x2)] [(0, 8), (0, x1), (2, ((p : Nat) : Int))] _ rfl ?_
        obtain ⟨g, h⟩ := h
        refine w_irem rfl (by decide) (pc' := 20) rfl ⟨g, by decide, by decide⟩ ?_
        refine zW.go 2 24 [(2, ((p : Nat) : Int)), (0, x1), (0, x2)] [(0, x2), (3, 3), (0, (x1.tmod 8)), (2, ((p : Nat) : Int))] _ rfl ?_
        obtain ⟨g, h⟩ := h
        refine w_ald_col rfl (by decide) (pc' := 25) rfl g rfl ?_
        refine zW.go 3 29 [(2, ((p : Nat) : Int)), (0, x1), (0, x2)] [(0, 8), (0, x1), (0, ((x1.tmod 8) + (zom X 3 (x2).toNat))), (2, ((p : Nat) : Int))] _ rfl ?_
        obtain ⟨g, h⟩ := h
        refine w_idiv rfl (by decide) (pc' := 30) rfl ⟨g, by decide, by decide⟩ ?_
        refine zW.go 2 34 [(2, ((p : Nat) : Int)), (0, x1), (0, x2)] [(0, x2), (3, 4), (0, (x1.tdiv 8)), (0, ((x1.tmod 8) + (zom X 3 (x2).toNat))), (2, ((p : Nat) : Int))] _ rfl ?_
        obtain ⟨g, h⟩ := h
        refine w_ald_row rfl (by decide) (pc' := 35) rfl g rfl ?_
        refine zW.go 1 36 [(2, ((p : Nat) : Int)), (0, x1), (0, x2)] [(0, ((x1.tdiv 8) + (zom X 4 (x2).toNat))), (0, ((x1.tmod 8) + (zom X 3 (x2).toNat))), (2, ((p : Nat) : Int))] _ rfl ?_
        refine w_calli (as := [(2, ((p : Nat) : Int)), (0, ((x1.tmod 8) + (zom X 3 (x2).toNat))), (0, ((x1.tdiv 8) + (zom X 4 (x2).toNat)))]) [] 39 rfl rfl rfl rfl (Nat.le_of_ble_eq_true rfl) (Nat.le_of_ble_eq_true rfl) (Nat.le_of_ble_eq_true rfl) (Or.inr (zrcv_o (zPln_t0 hp))) (Ci.imp h (fun r4 mem5 h => ?_))
        exact w_reti rfl rfl h
      · have h := h.2.2 c3
        refine zW.go 1 14 [(2, ((p : Nat) : Int)), (0, x1), (0, x2)] [(0, (-1))] _ rfl ?_
        exact w_reti rfl rfl h
set_option maxRecDepth 4000 in
theorem s_rules_clear {X : zX} {d : Nat} {rf mem : zF} {Q : zF → Prop} (hR : zall rf zRK = true) {u : Nat} (hu : zRul rf u) (h : Cv X d 328 [(2, ((u + 2 : Nat) : Int)), (0, (-1))] rf (zup mem u 3 0) (fun mem1 => Cv X d 328 [(2, ((u + 3 : Nat) : Int)), (0, (-1))] rf mem1 (fun mem2 => Q mem2))) : Cv X (d + 1) 73 [(2, ((u : Nat) : Int))] rf mem Q := by
  show zW X (d + 1) 73 0 [(2, ((u : Nat) : Int))] [] (zty, rf, mem) (qv rf Q)
  refine zW.go 2 2 [(2, ((u : Nat) : Int))] [(0, 0), (2, ((u : Nat) : Int))] _ rfl ?_
  refine w_putI (q := u) rfl (by decide) (pc' := 5) rfl ⟨Int.natCast_nonneg _, rfl⟩ (zRul_t0 hu) (by decide) ?_
  refine zW.go 1 6 [(2, ((u : Nat) : Int))] [(2, ((u : Nat) : Int))] _ rfl ?_
  refine w_getL (q := u) (v := ((u + 2 : Nat) : Int)) rfl (by decide) (pc' := 9) rfl ⟨Int.natCast_nonneg _, rfl⟩ (zRul_t0 hu) rfl (zRul_r0_1 hu) ?_
  refine zW.go 1 10 [(2, ((u : Nat) : Int))] [(0, (-1)), (2, ((u + 2 : Nat) : Int))] _ rfl ?_
  refine w_callv (as := [(2, ((u + 2 : Nat) : Int)), (0, (-1))]) [] 13 rfl rfl rfl rfl (Nat.le_of_ble_eq_true rfl) (Nat.le_of_ble_eq_true rfl) (Nat.le_of_ble_eq_true rfl) (Or.inl rfl) (Cv.imp h (fun mem1 h => ?_))
  refine zW.go 1 14 [(2, ((u : Nat) : Int))] [(2, ((u : Nat) : Int))] _ rfl ?_
  refine w_getL (q := u) (v := ((u + 3 : Nat) : Int)) rfl (by decide) (pc' := 17) rfl ⟨Int.natCast_nonneg _, rfl⟩ (zRul_t0 hu) rfl (zRul_r0_2 hu) ?_
  refine zW.go 1 18 [(2, ((u : Nat) : Int))] [(0, (-1)), (2, ((u + 3 : Nat) : Int))] _ rfl ?_
  refine w_callv (as := [(2, ((u + 3 : Nat) : Int)), (0, (-1))]) [] 21 rfl rfl rfl rfl (Nat.le_of_ble_eq_true rfl) (Nat.le_of_ble_eq_true rfl) (Nat.le_of_ble_eq_true rfl) (Or.inl rfl) (Cv.imp h (fun mem2 h => ?_))
  exact w_retv rfl rfl h
set_option maxRecDepth 4000 in
theorem s_rules_isTold {X : zX} {d : Nat} {rf mem : zF} {Q : Int → zF → Prop} (hR : zall rf zRK = true) {u : Nat} (hu : zRul rf u) {x1 : Int} (h : (inI x1) ∧ ((x1 < 0 → Q 0 mem) ∧ (¬ x1 < 0 → (inI x1) ∧ ((3 ≤ x1 → Q 0 mem) ∧ (¬ 3 ≤ x1 → (0 ≤ x1 ∧ x1 < 3) ∧ ((inI (mem (u + 2) (x1).toNat)) ∧ (((mem (u + 2) (x1).toNat) < 0 → Q 0 mem) ∧ (¬ (mem (u + 2) (x1).toNat) < 0 → (0 ≤ x1 ∧ x1 < 3) ∧ ((0 ≤ x1 ∧ x1 < 3) ∧ ((inI (mem (u + 3) (x1).toNat) ∧ inI (mem (u + 2) (x1).toNat)) ∧ (((mem (u + 3) (x1).toNat) ≤ (mem (u + 2) (x1).toNat) → Q 0 mem) ∧ (¬ (mem (u + 3) (x1).toNat) ≤ (mem (u + 2) (x1).toNat) → Q 1 mem)))))))))))) : Ci X d 74 [(2, ((u : Nat) : Int)), (0, x1)] rf mem Q := by
  show zW X d 74 0 [(2, ((u : Nat) : Int)), (0, x1)] [] (zty, rf, mem) (qi rf Q)
  refine zW.go 1 1 [(2, ((u : Nat) : Int)), (0, x1)] [(0, x1)] _ rfl ?_
  refine w_if_lt rfl (by decide) (pc' := 4) rfl h.1 (fun c1 => ?_) (fun c1 => ?_)
  · have h := h.2.1 c1
    refine zW.go 1 38 [(2, ((u : Nat) : Int)), (0, x1)] [(0, 0)] _ rfl ?_
    exact w_retz rfl rfl (by decide) h
  · have h := h.2.2 c1
    refine zW.go 2 6 [(2, ((u : Nat) : Int)), (0, x1)] [(0, 3), (0, x1)] _ rfl ?_
    refine w_ic_ge rfl (by decide) (pc' := 9) rfl ⟨h.1, by decide⟩ (fun c2 => ?_) (fun c2 => ?_)
    · have h := h.2.1 c2
      refine zW.go 1 38 [(2, ((u : Nat) : Int)), (0, x1)] [(0, 0)] _ rfl ?_
      exact w_retz rfl rfl (by decide) h
    · have h := h.2.2 c2
      refine zW.go 1 10 [(2, ((u : Nat) : Int)), (0, x1)] [(2, ((u : Nat) : Int))] _ rfl ?_
      refine w_getL (q := u) (v := ((u + 2 : Nat) : Int)) rfl (by decide) (pc' := 13) rfl ⟨Int.natCast_nonneg _, rfl⟩ (zRul_t0 hu) rfl (zRul_r0_1 hu) ?_
      refine zW.go 1 14 [(2, ((u : Nat) : Int)), (0, x1)] [(0, x1), (2, ((u + 2 : Nat) : Int))] _ rfl ?_
      obtain ⟨g, h⟩ := h
      refine w_iald (q := (u + 2)) rfl (by decide) (pc' := 15) rfl ⟨Int.natCast_nonneg _, rfl⟩ (zRul_t2 hu) g rfl ?_
      refine w_if_lt rfl (by decide) (pc' := 18) rfl h.1 (fun c3 => ?_) (fun c3 => ?_)
      · have h := h.2.1 c3
        refine zW.go 1 38 [(2, ((u : Nat) : Int)), (0, x1)] [(0, 0)] _ rfl ?_
        exact w_retz rfl rfl (by decide) h
      · have h := h.2.2 c3
        refine zW.go 1 19 [(2, ((u : Nat) : Int)), (0, x1)] [(2, ((u : Nat) : Int))] _ rfl ?_
        refine w_getL (q := u) (v := ((u + 3 : Nat) : Int)) rfl (by decide) (pc' := 22) rfl ⟨Int.natCast_nonneg _, rfl⟩ (zRul_t0 hu) rfl (zRul_r0_2 hu) ?_
        refine zW.go 1 23 [(2, ((u : Nat) : Int)), (0, x1)] [(0, x1), (2, ((u + 3 : Nat) : Int))] _ rfl ?_
        obtain ⟨g, h⟩ := h
        refine w_iald (q := (u + 3)) rfl (by decide) (pc' := 24) rfl ⟨Int.natCast_nonneg _, rfl⟩ (zRul_t3 hu) g rfl ?_
        refine zW.go 1 25 [(2, ((u : Nat) : Int)), (0, x1)] [(2, ((u : Nat) : Int)), (0, (mem (u + 3) (x1).toNat))] _ rfl ?_
        refine w_getL (q := u) (v := ((u + 2 : Nat) : Int)) rfl (by decide) (pc' := 28) rfl ⟨Int.natCast_nonneg _, rfl⟩ (zRul_t0 hu) rfl (zRul_r0_1 hu) ?_
        refine zW.go 1 29 [(2, ((u : Nat) : Int)), (0, x1)] [(0, x1), (2, ((u + 2 : Nat) : Int)), (0, (mem (u + 3) (x1).toNat))] _ rfl ?_
        obtain ⟨g, h⟩ := h
        refine w_iald (q := (u + 2)) rfl (by decide) (pc' := 30) rfl ⟨Int.natCast_nonneg _, rfl⟩ (zRul_t2 hu) g rfl ?_
        refine w_ic_le rfl (by decide) (pc' := 33) rfl h.1 (fun c4 => ?_) (fun c4 => ?_)
        · have h := h.2.1 c4
          refine zW.go 1 38 [(2, ((u : Nat) : Int)), (0, x1)] [(0, 0)] _ rfl ?_
          exact w_retz rfl rfl (by decide) h
        · have h := h.2.2 c4
          refine zW.go 2 38 [(2, ((u : Nat) : Int)), (0, x1)] [(0, 1)] _ rfl ?_
          exact w_retz rfl rfl (by decide) h
set_option maxRecDepth 4000 in
theorem s_rules_begin {X : zX} {d : Nat} {rf mem : zF} {Q : zF → Prop} (hR : zall rf zRK = true) {u : Nat} (hu : zRul rf u) {x1 : Int} (h : (inI x1) ∧ ((x1 < 0 → Q mem) ∧ (¬ x1 < 0 → (inI x1) ∧ ((3 ≤ x1 → Q mem) ∧ (¬ 3 ≤ x1 → (0 ≤ x1 ∧ x1 < 3) ∧ (Q (zup mem (u + 2) (x1).toNat (mem u 3)))))))) : Cv X d 75 [(2, ((u : Nat) : Int)), (0, x1)] rf mem Q := by
  show zW X d 75 0 [(2, ((u : Nat) : Int)), (0, x1)] [] (zty, rf, mem) (qv rf Q)
  refine zW.go 1 1 [(2, ((u : Nat) : Int)), (0, x1)] [(0, x1)] _ rfl ?_
  refine w_if_lt rfl (by decide) (pc' := 4) rfl h.1 (fun c1 => ?_) (fun c1 => ?_)
  · have h := h.2.1 c1
    exact w_retv rfl rfl h
  · have h := h.2.2 c1
    refine zW.go 2 6 [(2, ((u : Nat) : Int)), (0, x1)] [(0, 3), (0, x1)] _ rfl ?_
    refine w_ic_ge rfl (by decide) (pc' := 9) rfl ⟨h.1, by decide⟩ (fun c2 => ?_) (fun c2 => ?_)
    · have h := h.2.1 c2
      exact w_retv rfl rfl h
    · have h := h.2.2 c2
      refine zW.go 1 10 [(2, ((u : Nat) : Int)), (0, x1)] [(2, ((u : Nat) : Int))] _ rfl ?_
      refine w_getL (q := u) (v := ((u + 2 : Nat) : Int)) rfl (by decide) (pc' := 13) rfl ⟨Int.natCast_nonneg _, rfl⟩ (zRul_t0 hu) rfl (zRul_r0_1 hu) ?_
      refine zW.go 2 15 [(2, ((u : Nat) : Int)), (0, x1)] [(2, ((u : Nat) : Int)), (0, x1), (2, ((u + 2 : Nat) : Int))] _ rfl ?_
      refine w_getI (q := u) rfl (by decide) (pc' := 18) rfl ⟨Int.natCast_nonneg _, rfl⟩ (zRul_t0 hu) (by decide) ?_
      obtain ⟨g, h⟩ := h
      refine w_iast (q := (u + 2)) rfl (by decide) (pc' := 19) rfl ⟨Int.natCast_nonneg _, rfl⟩ (zRul_t2 hu) g rfl ?_
      exact w_retv rfl rfl h
set_option maxRecDepth 4000 in
theorem s_rules_finish {X : zX} {d : Nat} {rf mem : zF} {Q : zF → Prop} (hR : zall rf zRK = true) {u : Nat} (hu : zRul rf u) {x1 : Int} (h : (inI x1) ∧ ((x1 < 0 → Q mem) ∧ (¬ x1 < 0 → (inI x1) ∧ ((3 ≤ x1 → Q mem) ∧ (¬ 3 ≤ x1 → (0 ≤ x1 ∧ x1 < 3) ∧ (Q (zup mem (u + 3) (x1).toNat (mem u 3)))))))) : Cv X d 76 [(2, ((u : Nat) : Int)), (0, x1)] rf mem Q := by
  show zW X d 76 0 [(2, ((u : Nat) : Int)), (0, x1)] [] (zty, rf, mem) (qv rf Q)
  refine zW.go 1 1 [(2, ((u : Nat) : Int)), (0, x1)] [(0, x1)] _ rfl ?_
  refine w_if_lt rfl (by decide) (pc' := 4) rfl h.1 (fun c1 => ?_) (fun c1 => ?_)
  · have h := h.2.1 c1
    exact w_retv rfl rfl h
  · have h := h.2.2 c1
    refine zW.go 2 6 [(2, ((u : Nat) : Int)), (0, x1)] [(0, 3), (0, x1)] _ rfl ?_
    refine w_ic_ge rfl (by decide) (pc' := 9) rfl ⟨h.1, by decide⟩ (fun c2 => ?_) (fun c2 => ?_)
    · have h := h.2.1 c2
      exact w_retv rfl rfl h
    · have h := h.2.2 c2
      refine zW.go 1 10 [(2, ((u : Nat) : Int)), (0, x1)] [(2, ((u : Nat) : Int))] _ rfl ?_
      refine w_getL (q := u) (v := ((u + 3 : Nat) : Int)) rfl (by decide) (pc' := 13) rfl ⟨Int.natCast_nonneg _, rfl⟩ (zRul_t0 hu) rfl (zRul_r0_2 hu) ?_
      refine zW.go 2 15 [(2, ((u : Nat) : Int)), (0, x1)] [(2, ((u : Nat) : Int)), (0, x1), (2, ((u + 3 : Nat) : Int))] _ rfl ?_
      refine w_getI (q := u) rfl (by decide) (pc' := 18) rfl ⟨Int.natCast_nonneg _, rfl⟩ (zRul_t0 hu) (by decide) ?_
      obtain ⟨g, h⟩ := h
      refine w_iast (q := (u + 3)) rfl (by decide) (pc' := 19) rfl ⟨Int.natCast_nonneg _, rfl⟩ (zRul_t3 hu) g rfl ?_
      exact w_retv rfl rfl h
set_option maxRecDepth 4000 in
theorem s_rules_add {X : zX} {d : Nat} {rf mem : zF} {Q : zF → Prop} (hR : zall rf zRK = true) {u : Nat} (hu : zRul rf u) {x1 : Int} (h : (inI (mem u 3)) ∧ ((1600 ≤ (mem u 3) → Q mem) ∧ (¬ 1600 ≤ (mem u 3) → (0 ≤ (mem u 3) ∧ (mem u 3) < 1600) ∧ (Q (zup (zup mem (u + 1) ((mem u 3)).toNat x1) u 3 (((zup mem (u + 1) ((mem u 3)).toNat x1) u 3) + 1)))))) : Cv X d 77 [(2, ((u : Nat) : Int)), (0, x1)] rf mem Q := by
  show zW X d 77 0 [(2, ((u : Nat) : Int)), (0, x1)] [] (zty, rf, mem) (qv rf Q)
  refine zW.go 1 1 [(2, ((u : Nat) : Int)), (0, x1)] [(2, ((u : Nat) : Int))] _ rfl ?_
  refine w_getI (q := u) rfl (by decide) (pc' := 4) rfl ⟨Int.natCast_nonneg _, rfl⟩ (zRul_t0 hu) (by decide) ?_
  refine zW.go 1 5 [(2, ((u : Nat) : Int)), (0, x1)] [(2, ((u : Nat) : Int)), (0, (mem u 3))] _ rfl ?_
  refine w_getL (q := u) (v := ((u + 1 : Nat) : Int)) rfl (by decide) (pc' := 8) rfl ⟨Int.natCast_nonneg _, rfl⟩ (zRul_t0 hu) rfl (zRul_r0_0 hu) ?_
  refine w_alen (q := (u + 1)) rfl (by decide) (pc' := 9) rfl ⟨Int.natCast_nonneg _, rfl⟩ (zRul_t1 hu) (by decide) ?_
  refine w_ic_ge rfl (by decide) (pc' := 12) rfl ⟨h.1, by decide⟩ (fun c1 => ?_) (fun c1 => ?_)
  · have h := h.2.1 c1
    exact w_retv rfl rfl h
  · have h := h.2.2 c1
    refine zW.go 1 13 [(2, ((u : Nat) : Int)), (0, x1)] [(2, ((u : Nat) : Int))] _ rfl ?_
    refine w_getL (q := u) (v := ((u + 1 : Nat) : Int)) rfl (by decide) (pc' := 16) rfl ⟨Int.natCast_nonneg _, rfl⟩ (zRul_t0 hu) rfl (zRul_r0_0 hu) ?_
    refine zW.go 1 17 [(2, ((u : Nat) : Int)), (0, x1)] [(2, ((u : Nat) : Int)), (2, ((u + 1 : Nat) : Int))] _ rfl ?_
    refine w_getI (q := u) rfl (by decide) (pc' := 20) rfl ⟨Int.natCast_nonneg _, rfl⟩ (zRul_t0 hu) (by decide) ?_
    refine zW.go 1 21 [(2, ((u : Nat) : Int)), (0, x1)] [(0, x1), (0, (mem u 3)), (2, ((u + 1 : Nat) : Int))] _ rfl ?_
    obtain ⟨g, h⟩ := h
    refine w_iast (q := (u + 1)) rfl (by decide) (pc' := 22) rfl ⟨Int.natCast_nonneg _, rfl⟩ (zRul_t1 hu) g rfl ?_
    refine zW.go 2 24 [(2, ((u : Nat) : Int)), (0, x1)] [(2, ((u : Nat) : Int)), (2, ((u : Nat) : Int))] _ rfl ?_
    refine w_getI (q := u) rfl (by decide) (pc' := 27) rfl ⟨Int.natCast_nonneg _, rfl⟩ (zRul_t0 hu) (by decide) ?_
    refine zW.go 2 29 [(2, ((u : Nat) : Int)), (0, x1)] [(0, (((zup mem (u + 1) ((mem u 3)).toNat x1) u 3) + 1)), (2, ((u : Nat) : Int))] _ rfl ?_
    refine w_putI (q := u) rfl (by decide) (pc' := 32) rfl ⟨Int.natCast_nonneg _, rfl⟩ (zRul_t0 hu) (by decide) ?_
    exact w_retv rfl rfl h
set_option maxRecDepth 4000 in
theorem s_rules_setQuality {X : zX} {d : Nat} {rf mem : zF} {Q : zF → Prop} (hR : zall rf zRK = true) {u : Nat} (hu : zRul rf u) {x1 : Int} {x2 : Int} (h : (inI ((-1) - x1)) ∧ ((((-1) - x1) < 0 → Q mem) ∧ (¬ ((-1) - x1) < 0 → (inI ((-1) - x1)) ∧ ((6 ≤ ((-1) - x1) → Q mem) ∧ (¬ 6 ≤ ((-1) - x1) → (0 ≤ ((-1) - x1) ∧ ((-1) - x1) < 6) ∧ (Q (zup mem (u + 4) (((-1) - x1)).toNat x2))))))) : Cv X d 78 [(2, ((u : Nat) : Int)), (0, x1), (0, x2)] rf mem Q := by
  show zW X d 78 0 [(2, ((u : Nat) : Int)), (0, x1), (0, x2), (9, 0)] [] (zty, rf, mem) (qv rf Q)
  refine zW.go 5 5 [(2, ((u : Nat) : Int)), (0, x1), (0, x2), (0, ((-1) - x1))] [(0, ((-1) - x1))] _ rfl ?_
  refine w_if_lt rfl (by decide) (pc' := 8) rfl h.1 (fun c1 => ?_) (fun c1 => ?_)
  · have h := h.2.1 c1
    exact w_retv rfl rfl h
  · have h := h.2.2 c1
    refine zW.go 2 11 [(2, ((u : Nat) : Int)), (0, x1), (0, x2), (0, ((-1) - x1))] [(0, 6), (0, ((-1) - x1))] _ rfl ?_
    refine w_ic_ge rfl (by decide) (pc' := 14) rfl ⟨h.1, by decide⟩ (fun c2 => ?_) (fun c2 => ?_)
    · have h := h.2.1 c2
      exact w_retv rfl rfl h
    · have h := h.2.2 c2
      refine zW.go 1 15 [(2, ((u : Nat) : Int)), (0, x1), (0, x2), (0, ((-1) - x1))] [(2, ((u : Nat) : Int))] _ rfl ?_
      refine w_getL (q := u) (v := ((u + 4 : Nat) : Int)) rfl (by decide) (pc' := 18) rfl ⟨Int.natCast_nonneg _, rfl⟩ (zRul_t0 hu) rfl (zRul_r0_4 hu) ?_
      refine zW.go 2 20 [(2, ((u : Nat) : Int)), (0, x1), (0, x2), (0, ((-1) - x1))] [(0, x2), (0, ((-1) - x1)), (2, ((u + 4 : Nat) : Int))] _ rfl ?_
      obtain ⟨g, h⟩ := h
      refine w_iast (q := (u + 4)) rfl (by decide) (pc' := 21) rfl ⟨Int.natCast_nonneg _, rfl⟩ (zRul_t4 hu) g rfl ?_
      exact w_retv rfl rfl h
def L_rules_result_22 (X : zX) (d : Nat) (rf : zF) (Q : Int → zF → Prop) (mem : zF) (u : Nat) (x1 : Int) (x2 : Int) : Prop := ∀ z3 : zV, ∀ z4 : zV, ∀ z5 : zV, zW X (d + 1) 79 22 [(2, ((u : Nat) : Int)), (0, x1), (0, x2), z3, z4, z5] [] (zty, rf, mem) (qi rf Q)
set_option maxRecDepth 4000 in
theorem s_rules_result_22 {X : zX} {d : Nat} {rf mem : zF} {Q : Int → zF → Prop} (hR : zall rf zRK = true) {u : Nat} (hu : zRul rf u) {x1 : Int} {x2 : Int} (h : (0 ≤ x1 ∧ x1 < 3) ∧ ((inI x2 ∧ inI (mem (u + 3) (x1).toNat)) ∧ (((mem (u + 3) (x1).toNat) ≤ x2 → Ci X d 83 [(2, ((u : Nat) : Int))] rf mem (fun r5 mem6 => Q r5 mem6)) ∧ (¬ (mem (u + 3) (x1).toNat) ≤ x2 → (inI x2) ∧ ((1600 ≤ x2 → Ci X d 83 [(2, ((u : Nat) : Int))] rf mem (fun r8 mem9 => Q r8 mem9)) ∧ (¬ 1600 ≤ x2 → (0 ≤ x2 ∧ x2 < 1600) ∧ ((inI (mem (u + 1) (x2).toNat)) ∧ (((mem (u + 1) (x2).toNat) < 0 → (inI (mem (u + 1) (x2).toNat)) ∧ (((mem (u + 1) (x2).toNat) < (-6) → (inI (mem (u + 1) (x2).toNat)) ∧ ((¬ (mem (u + 1) (x2).toNat) = (-19) → (inI (mem (u + 1) (x2).toNat)) ∧ ((¬ (mem (u + 1) (x2).toNat) = (-20) → Ci X d 83 [(2, ((u : Nat) : Int))] rf mem (fun r14 mem15 => Ci X d 83 [(2, ((u : Nat) : Int))] rf mem15 (fun r16 mem17 => Ci X d 80 [(0, (mem (u + 1) (x2).toNat)), (0, r16), (0, r14)] rf mem17 (fun r18 mem19 => Cv X d 82 [(2, ((u : Nat) : Int)), (0, r18)] rf mem19 (fun mem20 => L_rules_result_22 X d rf Q mem20 u x1 (x2 + 1)))))) ∧ ((mem (u + 1) (x2).toNat) = (-20) → Ci X d 83 [(2, ((u : Nat) : Int))] rf mem (fun r21 mem22 => Ci X d 83 [(2, ((u : Nat) : Int))] rf mem22 (fun r23 mem24 => Ci X d 83 [(2, ((u : Nat) : Int))] rf mem24 (fun r25 mem26 => (inI r25) ∧ ((r25 = 0 → Cv X d 82 [(2, ((u : Nat) : Int)), (0, r21)] rf mem26 (fun mem28 => L_rules_result_22 X d rf Q mem28 u x1 (x2 + 1))) ∧ (¬ r25 = 0 → Cv X d 82 [(2, ((u : Nat) : Int)), (0, r23)] rf mem26 (fun mem29 => L_rules_result_22 X d rf Q mem29 u x1 (x2 + 1)))))))))) ∧ ((mem (u + 1) (x2).toNat) = (-19) → Ci X d 83 [(2, ((u : Nat) : Int))] rf mem (fun r30 mem31 => Cv X d 82 [(2, ((u : Nat) : Int)), (0, (1 - r30))] rf mem31 (fun mem32 => L_rules_result_22 X d rf Q mem32 u x1 (x2 + 1)))))) ∧ (¬ (mem (u + 1) (x2).toNat) < (-6) → (0 ≤ ((-1) - (mem (u + 1) (x2).toNat)) ∧ ((-1) - (mem (u + 1) (x2).toNat)) < 6) ∧ (Cv X d 82 [(2, ((u : Nat) : Int)), (0, (mem (u + 4) (((-1) - (mem (u + 1) (x2).toNat))).toNat))] rf mem (fun mem33 => L_rules_result_22 X d rf Q mem33 u x1 (x2 + 1)))))) ∧ (¬ (mem (u + 1) (x2).toNat) < 0 → Cv X d 82 [(2, ((u : Nat) : Int)), (0, (mem (u + 1) (x2).toNat))] rf mem (fun mem34 => L_rules_result_22 X d rf Q mem34 u x1 (x2 + 1))))))))))) : L_rules_result_22 X d rf Q mem u x1 x2 := by
  intro z3 z4 z5
  refine zW.go 2 24 [(2, ((u : Nat) : Int)), (0, x1), (0, x2), z3, z4, z5] [(2, ((u : Nat) : Int)), (0, x2)] _ rfl ?_
  refine w_getL (q := u) (v := ((u + 3 : Nat) : Int)) rfl (by decide) (pc' := 27) rfl ⟨Int.natCast_nonneg _, rfl⟩ (zRul_t0 hu) rfl (zRul_r0_2 hu) ?_
  refine zW.go 1 28 [(2, ((u : Nat) : Int)), (0, x1), (0, x2), z3, z4, z5] [(0, x1), (2, ((u + 3 : Nat) : Int)), (0, x2)] _ rfl ?_
  obtain ⟨g, h⟩ := h
  refine w_iald (q := (u + 3)) rfl (by decide) (pc' := 29) rfl ⟨Int.natCast_nonneg _, rfl⟩ (zRul_t3 hu) g rfl ?_
  refine w_ic_ge rfl (by decide) (pc' := 32) rfl h.1 (fun c4 => ?_) (fun c4 => ?_)
  · have h := h.2.1 c4
    refine zW.go 1 166 [(2, ((u : Nat) : Int)), (0, x1), (0, x2), z3, z4, z5] [(2, ((u : Nat) : Int))] _ rfl ?_
    refine w_calli (as := [(2, ((u : Nat) : Int))]) [] 169 rfl rfl rfl rfl (Nat.le_of_ble_eq_true rfl) (Nat.le_of_ble_eq_true rfl) (Nat.le_of_ble_eq_true rfl) (Or.inr (zrcv_o (zRul_t0 hu))) (Ci.imp h (fun r5 mem6 h => ?_))
    exact w_reti rfl rfl h
  · have h := h.2.2 c4
    refine zW.go 2 34 [(2, ((u : Nat) : Int)), (0, x1), (0, x2), z3, z4, z5] [(2, ((u : Nat) : Int)), (0, x2)] _ rfl ?_
    refine w_getL (q := u) (v := ((u + 1 : Nat) : Int)) rfl (by decide) (pc' := 37) rfl ⟨Int.natCast_nonneg _, rfl⟩ (zRul_t0 hu) rfl (zRul_r0_0 hu) ?_
    refine w_alen (q := (u + 1)) rfl (by decide) (pc' := 38) rfl ⟨Int.natCast_nonneg _, rfl⟩ (zRul_t1 hu) (by decide) ?_
    refine w_ic_ge rfl (by decide) (pc' := 41) rfl ⟨h.1, by decide⟩ (fun c7 => ?_) (fun c7 => ?_)
    · have h := h.2.1 c7
      refine zW.go 1 166 [(2, ((u : Nat) : Int)), (0, x1), (0, x2), z3, z4, z5] [(2, ((u : Nat) : Int))] _ rfl ?_
      refine w_calli (as := [(2, ((u : Nat) : Int))]) [] 169 rfl rfl rfl rfl (Nat.le_of_ble_eq_true rfl) (Nat.le_of_ble_eq_true rfl) (Nat.le_of_ble_eq_true rfl) (Or.inr (zrcv_o (zRul_t0 hu))) (Ci.imp h (fun r8 mem9 h => ?_))
      exact w_reti rfl rfl h
    · have h := h.2.2 c7
      refine zW.go 1 42 [(2, ((u : Nat) : Int)), (0, x1), (0, x2), z3, z4, z5] [(2, ((u : Nat) : Int))] _ rfl ?_
      refine w_getL (q := u) (v := ((u + 1 : Nat) : Int)) rfl (by decide) (pc' := 45) rfl ⟨Int.natCast_nonneg _, rfl⟩ (zRul_t0 hu) rfl (zRul_r0_0 hu) ?_
      refine zW.go 1 46 [(2, ((u : Nat) : Int)), (0, x1), (0, x2), z3, z4, z5] [(0, x2), (2, ((u + 1 : Nat) : Int))] _ rfl ?_
      obtain ⟨g, h⟩ := h
      refine w_iald (q := (u + 1)) rfl (by decide) (pc' := 47) rfl ⟨Int.natCast_nonneg _, rfl⟩ (zRul_t1 hu) g rfl ?_
      refine zW.go 2 49 [(2, ((u : Nat) : Int)), (0, x1), (0, x2), (0, (mem (u + 1) (x2).toNat)), z4, z5] [(0, (mem (u + 1) (x2).toNat))] _ rfl ?_
      refine w_if_lt rfl (by decide) (pc' := 52) rfl h.1 (fun c10 => ?_) (fun c10 => ?_)
      · have h := h.2.1 c10
        refine zW.go 2 63 [(2, ((u : Nat) : Int)), (0, x1), (0, x2), (0, (mem (u + 1) (x2).toNat)), z4, z5] [(0, (-6)), (0, (mem (u + 1) (x2).toNat))] _ rfl ?_
        refine w_ic_lt rfl (by decide) (pc' := 66) rfl ⟨h.1, by decide⟩ (fun c11 => ?_) (fun c11 => ?_)
        · have h := h.2.1 c11
          refine zW.go 2 84 [(2, ((u : Nat) : Int)), (0, x1), (0, x2), (0, (mem (u + 1) (x2).toNat)), z4, z5] [(0, (-19)), (0, (mem (u + 1) (x2).toNat))] _ rfl ?_
          refine w_ic_ne rfl (by decide) (pc' := 87) rfl ⟨h.1, by decide⟩ (fun c12 => ?_) (fun c12 => ?_)
          · have h := h.2.1 c12
            refine zW.go 2 103 [(2, ((u : Nat) : Int)), (0, x1), (0, x2), (0, (mem (u + 1) (x2).toNat)), z4, z5] [(0, (-20)), (0, (mem (u + 1) (x2).toNat))] _ rfl ?_
            refine w_ic_ne rfl (by decide) (pc' := 106) rfl ⟨h.1, by decide⟩ (fun c13 => ?_) (fun c13 => ?_)
            · have h := h.2.1 c13
              refine zW.go 1 140 [(2, ((u : Nat) : Int)), (0, x1), (0, x2), (0, (mem (u + 1) (x2).toNat)), z4, z5] [(2, ((u : Nat) : Int))] _ rfl ?_
              refine w_calli (as := [(2, ((u : Nat) : Int))]) [] 143 rfl rfl rfl rfl (Nat.le_of_ble_eq_true rfl) (Nat.le_of_ble_eq_true rfl) (Nat.le_of_ble_eq_true rfl) (Or.inr (zrcv_o (zRul_t0 hu))) (Ci.imp h (fun r14 mem15 h => ?_))
              refine zW.go 4 148 [(2, ((u : Nat) : Int)), (0, x1), (0, x2), (0, (mem (u + 1) (x2).toNat)), (0, r14), z5] [(2, ((u : Nat) : Int)), (0, (mem (u + 1) (x2).toNat)), (2, ((u : Nat) : Int))] _ rfl ?_
              refine w_calli (as := [(2, ((u : Nat) : Int))]) [(0, (mem (u + 1) (x2).toNat)), (2, ((u : Nat) : Int))] 151 rfl rfl rfl rfl (Nat.le_of_ble_eq_true rfl) (Nat.le_of_ble_eq_true rfl) (Nat.le_of_ble_eq_true rfl) (Or.inr (zrcv_o (zRul_t0 hu))) (Ci.imp h (fun r16 mem17 h => ?_))
              refine zW.go 1 153 [(2, ((u : Nat) : Int)), (0, x1), (0, x2), (0, (mem (u + 1) (x2).toNat)), (0, r14), z5] [(0, r14), (0, r16), (0, (mem (u + 1) (x2).toNat)), (2, ((u : Nat) : Int))] _ rfl ?_
              refine w_calli (as := [(0, (mem (u + 1) (x2).toNat)), (0, r16), (0, r14)]) [(2, ((u : Nat) : Int))] 156 rfl rfl rfl rfl (Nat.le_of_ble_eq_true rfl) (Nat.le_of_ble_eq_true rfl) (Nat.le_of_ble_eq_true rfl) (Or.inl rfl) (Ci.imp h (fun r18 mem19 h => ?_))
              refine w_callv (as := [(2, ((u : Nat) : Int)), (0, r18)]) [] 159 rfl rfl rfl rfl (Nat.le_of_ble_eq_true rfl) (Nat.le_of_ble_eq_true rfl) (Nat.le_of_ble_eq_true rfl) (Or.inr (zrcv_o (zRul_t0 hu))) (Cv.imp h (fun mem20 h => ?_))
              refine zW.go 2 22 [(2, ((u : Nat) : Int)), (0, x1), (0, (x2 + 1)), (0, (mem (u + 1) (x2).toNat)), (0, r14), z5] [] _ rfl ?_
              exact h (0, (mem (u + 1) (x2).toNat)) (0, r14) z5
            · have h := h.2.2 c13
              refine zW.go 1 107 [(2, ((u : Nat) : Int)), (0, x1), (0, x2), (0, (mem (u + 1) (x2).toNat)), z4, z5] [(2, ((u : Nat) : Int))] _ rfl ?_
              refine w_calli (as := [(2, ((u : Nat) : Int))]) [] 110 rfl rfl rfl rfl (Nat.le_of_ble_eq_true rfl) (Nat.le_of_ble_eq_true rfl) (Nat.le_of_ble_eq_true rfl) (Or.inr (zrcv_o (zRul_t0 hu))) (Ci.imp h (fun r21 mem22 h => ?_))
              refine zW.go 2 113 [(2, ((u : Nat) : Int)), (0, x1), (0, x2), (0, (mem (u + 1) (x2).toNat)), (0, r21), z5] [(2, ((u : Nat) : Int))] _ rfl ?_
              refine w_calli (as := [(2, ((u : Nat) : Int))]) [] 116 rfl rfl rfl rfl (Nat.le_of_ble_eq_true rfl) (Nat.le_of_ble_eq_true rfl) (Nat.le_of_ble_eq_true rfl) (Or.inr (zrcv_o (zRul_t0 hu))) (Ci.imp h (fun r23 mem24 h => ?_))
              refine zW.go 3 120 [(2, ((u : Nat) : Int)), (0, x1), (0, x2), (0, (mem (u + 1) (x2).toNat)), (0, r21), (0, r23)] [(2, ((u : Nat) : Int)), (2, ((u : Nat) : Int))] _ rfl ?_
              refine w_calli (as := [(2, ((u : Nat) : Int))]) [(2, ((u : Nat) : Int))] 123 rfl rfl rfl rfl (Nat.le_of_ble_eq_true rfl) (Nat.le_of_ble_eq_true rfl) (Nat.le_of_ble_eq_true rfl) (Or.inr (zrcv_o (zRul_t0 hu))) (Ci.imp h (fun r25 mem26 h => ?_))
              refine w_if_eq rfl (by decide) (pc' := 126) rfl h.1 (fun c27 => ?_) (fun c27 => ?_)
              · have h := h.2.1 c27
                refine zW.go 1 133 [(2, ((u : Nat) : Int)), (0, x1), (0, x2), (0, (mem (u + 1) (x2).toNat)), (0, r21), (0, r23)] [(0, r21), (2, ((u : Nat) : Int))] _ rfl ?_
                refine w_callv (as := [(2, ((u : Nat) : Int)), (0, r21)]) [] 136 rfl rfl rfl rfl (Nat.le_of_ble_eq_true rfl) (Nat.le_of_ble_eq_true rfl) (Nat.le_of_ble_eq_true rfl) (Or.inr (zrcv_o (zRul_t0 hu))) (Cv.imp h (fun mem28 h => ?_))
                refine zW.go 3 22 [(2, ((u : Nat) : Int)), (0, x1), (0, (x2 + 1)), (0, (mem (u + 1) (x2).toNat)), (0, r21), (0, r23)] [] _ rfl ?_
                exact h (0, (mem (u + 1) (x2).toNat)) (0, r21) (0, r23)
              · have h := h.2.2 c27
                refine zW.go 2 133 [(2, ((u : Nat) : Int)), (0, x1), (0, x2), (0, (mem (u + 1) (x2).toNat)), (0, r21), (0, r23)] [(0, r23), (2, ((u : Nat) : Int))] _ rfl ?_
                refine w_callv (as := [(2, ((u : Nat) : Int)), (0, r23)]) [] 136 rfl rfl rfl rfl (Nat.le_of_ble_eq_true rfl) (Nat.le_of_ble_eq_true rfl) (Nat.le_of_ble_eq_true rfl) (Or.inr (zrcv_o (zRul_t0 hu))) (Cv.imp h (fun mem29 h => ?_))
                refine zW.go 3 22 [(2, ((u : Nat) : Int)), (0, x1), (0, (x2 + 1)), (0, (mem (u + 1) (x2).toNat)), (0, r21), (0, r23)] [] _ rfl ?_
                exact h (0, (mem (u + 1) (x2).toNat)) (0, r21) (0, r23)
          · have h := h.2.2 c12
            refine zW.go 3 90 [(2, ((u : Nat) : Int)), (0, x1), (0, x2), (0, (mem (u + 1) (x2).toNat)), z4, z5] [(2, ((u : Nat) : Int)), (0, 1), (2, ((u : Nat) : Int))] _ rfl ?_
            refine w_calli (as := [(2, ((u : Nat) : Int))]) [(0, 1), (2, ((u : Nat) : Int))] 93 rfl rfl rfl rfl (Nat.le_of_ble_eq_true rfl) (Nat.le_of_ble_eq_true rfl) (Nat.le_of_ble_eq_true rfl) (Or.inr (zrcv_o (zRul_t0 hu))) (Ci.imp h (fun r30 mem31 h => ?_))
            refine zW.go 1 94 [(2, ((u : Nat) : Int)), (0, x1), (0, x2), (0, (mem (u + 1) (x2).toNat)), z4, z5] [(0, (1 - r30)), (2, ((u : Nat) : Int))] _ rfl ?_
            refine w_callv (as := [(2, ((u : Nat) : Int)), (0, (1 - r30))]) [] 97 rfl rfl rfl rfl (Nat.le_of_ble_eq_true rfl) (Nat.le_of_ble_eq_true rfl) (Nat.le_of_ble_eq_true rfl) (Or.inr (zrcv_o (zRul_t0 hu))) (Cv.imp h (fun mem32 h => ?_))
            refine zW.go 3 22 [(2, ((u : Nat) : Int)), (0, x1), (0, (x2 + 1)), (0, (mem (u + 1) (x2).toNat)), z4, z5] [] _ rfl ?_
            exact h (0, (mem (u + 1) (x2).toNat)) z4 z5
        · have h := h.2.2 c11
          refine zW.go 2 68 [(2, ((u : Nat) : Int)), (0, x1), (0, x2), (0, (mem (u + 1) (x2).toNat)), z4, z5] [(2, ((u : Nat) : Int)), (2, ((u : Nat) : Int))] _ rfl ?_
          refine w_getL (q := u) (v := ((u + 4 : Nat) : Int)) rfl (by decide) (pc' := 71) rfl ⟨Int.natCast_nonneg _, rfl⟩ (zRul_t0 hu) rfl (zRul_r0_4 hu) ?_
          refine zW.go 3 74 [(2, ((u : Nat) : Int)), (0, x1), (0, x2), (0, (mem (u + 1) (x2).toNat)), z4, z5] [(0, ((-1) - (mem (u + 1) (x2).toNat))), (2, ((u + 4 : Nat) : Int)), (2, ((u : Nat) : Int))] _ rfl ?_
          obtain ⟨g, h⟩ := h
          refine w_iald (q := (u + 4)) rfl (by decide) (pc' := 75) rfl ⟨Int.natCast_nonneg _, rfl⟩ (zRul_t4 hu) g rfl ?_
          refine w_callv (as := [(2, ((u : Nat) : Int)), (0, (mem (u + 4) (((-1) - (mem (u + 1) (x2).toNat))).toNat))]) [] 78 rfl rfl rfl rfl (Nat.le_of_ble_eq_true rfl) (Nat.le_of_ble_eq_true rfl) (Nat.le_of_ble_eq_true rfl) (Or.inr (zrcv_o (zRul_t0 hu))) (Cv.imp h (fun mem33 h => ?_))
          refine zW.go 3 22 [(2, ((u : Nat) : Int)), (0, x1), (0, (x2 + 1)), (0, (mem (u + 1) (x2).toNat)), z4, z5] [] _ rfl ?_
          exact h (0, (mem (u + 1) (x2).toNat)) z4 z5
      · have h := h.2.2 c10
        refine zW.go 2 54 [(2, ((u : Nat) : Int)), (0, x1), (0, x2), (0, (mem (u + 1) (x2).toNat)), z4, z5] [(0, (mem (u + 1) (x2).toNat)), (2, ((u : Nat) : Int))] _ rfl ?_
        refine w_callv (as := [(2, ((u : Nat) : Int)), (0, (mem (u + 1) (x2).toNat))]) [] 57 rfl rfl rfl rfl (Nat.le_of_ble_eq_true rfl) (Nat.le_of_ble_eq_true rfl) (Nat.le_of_ble_eq_true rfl) (Or.inr (zrcv_o (zRul_t0 hu))) (Cv.imp h (fun mem34 h => ?_))
        refine zW.go 3 22 [(2, ((u : Nat) : Int)), (0, x1), (0, (x2 + 1)), (0, (mem (u + 1) (x2).toNat)), z4, z5] [] _ rfl ?_
        exact h (0, (mem (u + 1) (x2).toNat)) z4 z5
set_option maxRecDepth 4000 in
theorem s_rules_result {X : zX} {d : Nat} {rf mem : zF} {Q : Int → zF → Prop} (hR : zall rf zRK = true) {u : Nat} (hu : zRul rf u) {x1 : Int} (h : Ci X d 74 [(2, ((u : Nat) : Int)), (0, x1)] rf mem (fun r1 mem2 => (inI r1) ∧ ((¬ r1 = 0 → (0 ≤ x1 ∧ x1 < 3) ∧ (L_rules_result_22 X d rf Q (zup mem2 u 6 0) u x1 ((zup mem2 u 6 0) (u + 2) (x1).toNat))) ∧ (r1 = 0 → Q 0 mem2)))) : Ci X (d + 1) 79 [(2, ((u : Nat) : Int)), (0, x1)] rf mem Q := by
  show zW X (d + 1) 79 0 [(2, ((u : Nat) : Int)), (0, x1), (9, 0), (9, 0), (9, 0), (9, 0)] [] (zty, rf, mem) (qi rf Q)
  refine zW.go 2 2 [(2, ((u : Nat) : Int)), (0, x1), (9, 0), (9, 0), (9, 0), (9, 0)] [(0, x1), (2, ((u : Nat) : Int))] _ rfl ?_
  refine w_calli (as := [(2, ((u : Nat) : Int)), (0, x1)]) [] 5 rfl rfl rfl rfl (Nat.le_of_ble_eq_true rfl) (Nat.le_of_ble_eq_true rfl) (Nat.le_of_ble_eq_true rfl) (Or.inr (zrcv_o (zRul_t0 hu))) (Ci.imp h (fun r1 mem2 h => ?_))
  refine w_if_ne rfl (by decide) (pc' := 8) rfl h.1 (fun c3 => ?_) (fun c3 => ?_)
  · have h := h.2.1 c3
    refine zW.go 2 12 [(2, ((u : Nat) : Int)), (0, x1), (9, 0), (9, 0), (9, 0), (9, 0)] [(0, 0), (2, ((u : Nat) : Int))] _ rfl ?_
    refine w_putI (q := u) rfl (by decide) (pc' := 15) rfl ⟨Int.natCast_nonneg _, rfl⟩ (zRul_t0 hu) (by decide) ?_
    refine zW.go 1 16 [(2, ((u : Nat) : Int)), (0, x1), (9, 0), (9, 0), (9, 0), (9, 0)] [(2, ((u : Nat) : Int))] _ rfl ?_
    refine w_getL (q := u) (v := ((u + 2 : Nat) : Int)) rfl (by decide) (pc' := 19) rfl ⟨Int.natCast_nonneg _, rfl⟩ (zRul_t0 hu) rfl (zRul_r0_1 hu) ?_
    refine zW.go 1 20 [(2, ((u : Nat) : Int)), (0, x1), (9, 0), (9, 0), (9, 0), (9, 0)] [(0, x1), (2, ((u + 2 : Nat) : Int))] _ rfl ?_
    obtain ⟨g, h⟩ := h
    refine w_iald (q := (u + 2)) rfl (by decide) (pc' := 21) rfl ⟨Int.natCast_nonneg _, rfl⟩ (zRul_t2 hu) g rfl ?_
    refine zW.go 1 22 [(2, ((u : Nat) : Int)), (0, x1), (0, ((zup mem2 u 6 0) (u + 2) (x1).toNat)), (9, 0), (9, 0), (9, 0)] [] _ rfl ?_
    exact h (9, 0) (9, 0) (9, 0)
  · have h := h.2.2 c3
    refine zW.go 1 9 [(2, ((u : Nat) : Int)), (0, x1), (9, 0), (9, 0), (9, 0), (9, 0)] [(0, 0)] _ rfl ?_
    exact w_reti rfl rfl h
set_option maxRecDepth 4000 in
theorem s_rules_joined {X : zX} {d : Nat} {rf mem : zF} {Q : Int → zF → Prop} (hR : zall rf zRK = true) {x0 : Int} {x1 : Int} {x2 : Int} (h : (inI x0) ∧ ((x0 = (-18) → Q (zor x1 x2) mem) ∧ (x0 = (-17) → Q (zand x1 x2) mem) ∧ (x0 = (-16) → (inI x1 ∧ inI x2) ∧ ((¬ x1 = x2 → Q 0 mem) ∧ (x1 = x2 → Q 1 mem))) ∧ (x0 = (-15) → (inI x1 ∧ inI x2) ∧ ((x1 ≤ x2 → Q 0 mem) ∧ (¬ x1 ≤ x2 → Q 1 mem))) ∧ (x0 = (-14) → (inI x1 ∧ inI x2) ∧ ((x2 ≤ x1 → Q 0 mem) ∧ (¬ x2 ≤ x1 → Q 1 mem))) ∧ (x0 = (-13) → Ci X d 320 [(0, x1), (0, x2)] rf mem (fun r4 mem5 => Q r4 mem5)) ∧ (x0 = (-12) → Ci X d 321 [(0, x1), (0, x2)] rf mem (fun r6 mem7 => Q r6 mem7)) ∧ (x0 = (-11) → (inI x2) ∧ ((¬ x2 = 0 → Ci X d 319 [(0, x1), (0, x2)] rf mem (fun r9 mem10 => Q r9 mem10)) ∧ (x2 = 0 → Q 0 mem))) ∧ (x0 = (-10) → (inI x2) ∧ ((¬ x2 = 0 → Ci X d 318 [(0, x1), (0, x2)] rf mem (fun r12 mem13 => (inI r12) ∧ (Ci X d 81 [(1, r12)] rf mem13 (fun r14 mem15 => Q r14 mem15)))) ∧ (x2 = 0 → Q 0 mem))) ∧ (x0 = (-9) → (inI x1) ∧ ((inI x2) ∧ (Ci X d 81 [(1, (x1 * x2))] rf mem (fun r16 mem17 => Q r16 mem17)))) ∧ (x0 = (-8) → (inI x1) ∧ ((inI x2) ∧ (Ci X d 81 [(1, (x1 - x2))] rf mem (fun r18 mem19 => Q r18 mem19)))) ∧ (x0 = (-7) → (inI x1) ∧ ((inI x2) ∧ (Ci X d 81 [(1, (x1 + x2))] rf mem (fun r20 mem21 => Q r20 mem21)))) ∧ ((x0 ≠ (-18) ∧ x0 ≠ (-17) ∧ x0 ≠ (-16) ∧ x0 ≠ (-15) ∧ x0 ≠ (-14) ∧ x0 ≠ (-13) ∧ x0 ≠ (-12) ∧ x0 ≠ (-11) ∧ x0 ≠ (-10) ∧ x0 ≠ (-9) ∧ x0 ≠ (-8) ∧ x0 ≠ (-7)) → Q 0 mem))) : Ci X (d + 1) 80 [(0, x0), (0, x1), (0, x2)] rf mem Q := by
  show zW X (d + 1) 80 0 [(0, x0), (0, x1), (0, x2)] [] (zty, rf, mem) (qi rf Q)
  refine zW.go 1 1 [(0, x0), (0, x1), (0, x2)] [(0, x0)] _ rfl ?_
  obtain ⟨g, h⟩ := h
  by_cases e0 : x0 = (-18)
  · refine w_tabIn 172 rfl (by decide) g (by omega) (by rw [e0]; rfl) rfl ?_
    have h := h.1 e0
    refine zW.go 3 175 [(0, x0), (0, x1), (0, x2)] [(0, (zor x1 x2))] _ rfl ?_
    exact w_reti rfl rfl h
  · by_cases e1 : x0 = (-17)
    · refine w_tabIn 168 rfl (by decide) g (by omega) (by rw [e1]; rfl) rfl ?_
      have h := h.2.1 e1
      refine zW.go 3 171 [(0, x0), (0, x1), (0, x2)] [(0, (zand x1 x2))] _ rfl ?_
      exact w_reti rfl rfl h
    · by_cases e2 : x0 = (-16)
      · refine w_tabIn 157 rfl (by decide) g (by omega) (by rw [e2]; rfl) rfl ?_
        have h := h.2.2.1 e2
        refine zW.go 2 159 [(0, x0), (0, x1), (0, x2)] [(0, x2), (0, x1)] _ rfl ?_
        refine w_ic_ne rfl (by decide) (pc' := 162) rfl h.1 (fun c1 => ?_) (fun c1 => ?_)
        · have h := h.2.1 c1
          refine zW.go 1 167 [(0, x0), (0, x1), (0, x2)] [(0, 0)] _ rfl ?_
          exact w_reti rfl rfl h
        · have h := h.2.2 c1
          refine zW.go 2 167 [(0, x0), (0, x1), (0, x2)] [(0, 1)] _ rfl ?_
          exact w_reti rfl rfl h
      · by_cases e3 : x0 = (-15)
        · refine w_tabIn 146 rfl (by decide) g (by omega) (by rw [e3]; rfl) rfl ?_
          have h := h.2.2.2.1 e3
          refine zW.go 2 148 [(0, x0), (0, x1), (0, x2)] [(0, x2), (0, x1)] _ rfl ?_
          refine w_ic_le rfl (by decide) (pc' := 151) rfl h.1 (fun c2 => ?_) (fun c2 => ?_)
          · have h := h.2.1 c2
            refine zW.go 1 156 [(0, x0), (0, x1), (0, x2)] [(0, 0)] _ rfl ?_
            exact w_reti rfl rfl h
          · have h := h.2.2 c2
            refine zW.go 2 156 [(0, x0), (0, x1), (0, x2)] [(0, 1)] _ rfl ?_
            exact w_reti rfl rfl h
        · by_cases e4 : x0 = (-14)
          · refine w_tabIn 135 rfl (by decide) g (by omega) (by rw [e4]; rfl) rfl ?_
            have h := h.2.2.2.2.1 e4
            refine zW.go 2 137 [(0, x0), (0, x1), (0, x2)] [(0, x2), (0, x1)] _ rfl ?_
            refine w_ic_ge rfl (by decide) (pc' := 140) rfl h.1 (fun c3 => ?_) (fun c3 => ?_)
            · have h := h.2.1 c3
              refine zW.go 1 145 [(0, x0), (0, x1), (0, x2)] [(0, 0)] _ rfl ?_
              exact w_reti rfl rfl h
            · have h := h.2.2 c3
              refine zW.go 2 145 [(0, x0), (0, x1), (0, x2)] [(0, 1)] _ rfl ?_
              exact w_reti rfl rfl h
          · by_cases e5 : x0 = (-13)
            · refine w_tabIn 129 rfl (by decide) g (by omega) (by rw [e5]; rfl) rfl ?_
              have h := h.2.2.2.2.2.1 e5
              refine zW.go 2 131 [(0, x0), (0, x1), (0, x2)] [(0, x2), (0, x1)] _ rfl ?_
              refine w_calli (as := [(0, x1), (0, x2)]) [] 134 rfl rfl rfl rfl (Nat.le_of_ble_eq_true rfl) (Nat.le_of_ble_eq_true rfl) (Nat.le_of_ble_eq_true rfl) (Or.inl rfl) (Ci.imp h (fun r4 mem5 h => ?_))
              exact w_reti rfl rfl h
            · by_cases e6 : x0 = (-12)
              · refine w_tabIn 123 rfl (by decide) g (by omega) (by rw [e6]; rfl) rfl ?_
                have h := h.2.2.2.2.2.2.1 e6
                refine zW.go 2 125 [(0, x0), (0, x1), (0, x2)] [(0, x2), (0, x1)] _ rfl ?_
                refine w_calli (as := [(0, x1), (0, x2)]) [] 128 rfl rfl rfl rfl (Nat.le_of_ble_eq_true rfl) (Nat.le_of_ble_eq_true rfl) (Nat.le_of_ble_eq_true rfl) (Or.inl rfl) (Ci.imp h (fun r6 mem7 h => ?_))
                exact w_reti rfl rfl h
              · by_cases e7 : x0 = (-11)
                · refine w_tabIn 109 rfl (by decide) g (by omega) (by rw [e7]; rfl) rfl ?_
                  have h := h.2.2.2.2.2.2.2.1 e7
                  refine zW.go 1 110 [(0, x0), (0, x1), (0, x2)] [(0, x2)] _ rfl ?_
                  refine w_if_ne rfl (by decide) (pc' := 113) rfl h.1 (fun c8 => ?_) (fun c8 => ?_)
                  · have h := h.2.1 c8
                    refine zW.go 2 119 [(0, x0), (0, x1), (0, x2)] [(0, x2), (0, x1)] _ rfl ?_
                    refine w_calli (as := [(0, x1), (0, x2)]) [] 122 rfl rfl rfl rfl (Nat.le_of_ble_eq_true rfl) (Nat.le_of_ble_eq_true rfl) (Nat.le_of_ble_eq_true rfl) (Or.inl rfl) (Ci.imp h (fun r9 mem10 h => ?_))
                    exact w_reti rfl rfl h
                  · have h := h.2.2 c8
                    refine zW.go 2 122 [(0, x0), (0, x1), (0, x2)] [(0, 0)] _ rfl ?_
                    exact w_reti rfl rfl h
                · by_cases e8 : x0 = (-10)
                  · refine w_tabIn 91 rfl (by decide) g (by omega) (by rw [e8]; rfl) rfl ?_
                    have h := h.2.2.2.2.2.2.2.2.1 e8
                    refine zW.go 1 92 [(0, x0), (0, x1), (0, x2)] [(0, x2)] _ rfl ?_
                    refine w_if_ne rfl (by decide) (pc' := 95) rfl h.1 (fun c11 => ?_) (fun c11 => ?_)
                    · have h := h.2.1 c11
                      refine zW.go 2 101 [(0, x0), (0, x1), (0, x2)] [(0, x2), (0, x1)] _ rfl ?_
                      refine w_calli (as := [(0, x1), (0, x2)]) [] 104 rfl rfl rfl rfl (Nat.le_of_ble_eq_true rfl) (Nat.le_of_ble_eq_true rfl) (Nat.le_of_ble_eq_true rfl) (Or.inl rfl) (Ci.imp h (fun r12 mem13 h => ?_))
                      obtain ⟨g, h⟩ := h
                      refine w_i2l rfl (by decide) (pc' := 105) rfl g ?_
                      refine w_calli (as := [(1, r12)]) [] 108 rfl rfl rfl rfl (Nat.le_of_ble_eq_true rfl) (Nat.le_of_ble_eq_true rfl) (Nat.le_of_ble_eq_true rfl) (Or.inl rfl) (Ci.imp h (fun r14 mem15 h => ?_))
                      exact w_reti rfl rfl h
                    · have h := h.2.2 c11
                      refine zW.go 2 108 [(0, x0), (0, x1), (0, x2)] [(0, 0)] _ rfl ?_
                      exact w_reti rfl rfl h
                  · by_cases e9 : x0 = (-9)
                    · refine w_tabIn 82 rfl (by decide) g (by omega) (by rw [e9]; rfl) rfl ?_
                      have h := h.2.2.2.2.2.2.2.2.2.1 e9
                      refine zW.go 1 83 [(0, x0), (0, x1), (0, x2)] [(0, x1)] _ rfl ?_
                      obtain ⟨g, h⟩ := h
                      refine w_i2l rfl (by decide) (pc' := 84) rfl g ?_
                      refine zW.go 1 85 [(0, x0), (0, x1), (0, x2)] [(0, x2), (1, x1)] _ rfl ?_
                      obtain ⟨g, h⟩ := h
                      refine w_i2l rfl (by decide) (pc' := 86) rfl g ?_
                      refine zW.go 1 87 [(0, x0), (0, x1), (0, x2)] [(1, (x1 * x2))] _ rfl ?_
                      refine w_calli (as := [(1, (x1 * x2))]) [] 90 rfl rfl rfl rfl (Nat.le_of_ble_eq_true rfl) (Nat.le_of_ble_eq_true rfl) (Nat.le_of_ble_eq_true rfl) (Or.inl rfl) (Ci.imp h (fun r16 mem17 h => ?_))
                      exact w_reti rfl rfl h
                    · by_cases e10 : x0 = (-8)
                      · refine w_tabIn 73 rfl (by decide) g (by omega) (by rw [e10]; rfl) rfl ?_
                        have h := h.2.2.2.2.2.2.2.2.2.2.1 e10
                        refine zW.go 1 74 [(0, x0), (0, x1), (0, x2)] [(0, x1)] _ rfl ?_
                        obtain ⟨g, h⟩ := h
                        refine w_i2l rfl (by decide) (pc' := 75) rfl g ?_
                        refine zW.go 1 76 [(0, x0), (0, x1), (0, x2)] [(0, x2), (1, x1)] _ rfl ?_
                        obtain ⟨g, h⟩ := h
                        refine w_i2l rfl (by decide) (pc' := 77) rfl g ?_
                        refine zW.go 1 78 [(0, x0), (0, x1), (0, x2)] [(1, (x1 - x2))] _ rfl ?_
                        refine w_calli (as := [(1, (x1 - x2))]) [] 81 rfl rfl rfl rfl (Nat.le_of_ble_eq_true rfl) (Nat.le_of_ble_eq_true rfl) (Nat.le_of_ble_eq_true rfl) (Or.inl rfl) (Ci.imp h (fun r18 mem19 h => ?_))
                        exact w_reti rfl rfl h
                      · by_cases e11 : x0 = (-7)
                        · refine w_tabIn 64 rfl (by decide) g (by omega) (by rw [e11]; rfl) rfl ?_
                          have h := h.2.2.2.2.2.2.2.2.2.2.2.1 e11
                          refine zW.go 1 65 [(0, x0), (0, x1), (0, x2)] [(0, x1)] _ rfl ?_
                          obtain ⟨g, h⟩ := h
                          refine w_i2l rfl (by decide) (pc' := 66) rfl g ?_
                          refine zW.go 1 67 [(0, x0), (0, x1), (0, x2)] [(0, x2), (1, x1)] _ rfl ?_
                          obtain ⟨g, h⟩ := h
                          refine w_i2l rfl (by decide) (pc' := 68) rfl g ?_
                          refine zW.go 1 69 [(0, x0), (0, x1), (0, x2)] [(1, (x1 + x2))] _ rfl ?_
                          refine w_calli (as := [(1, (x1 + x2))]) [] 72 rfl rfl rfl rfl (Nat.le_of_ble_eq_true rfl) (Nat.le_of_ble_eq_true rfl) (Nat.le_of_ble_eq_true rfl) (Or.inl rfl) (Ci.imp h (fun r20 mem21 h => ?_))
                          exact w_reti rfl rfl h
                        · refine w_tabOut 176 rfl (by decide) g (by omega) rfl ?_
                          have h := h.2.2.2.2.2.2.2.2.2.2.2.2 ⟨e0, e1, e2, e3, e4, e5, e6, e7, e8, e9, e10, e11⟩
                          refine zW.go 1 177 [(0, x0), (0, x1), (0, x2)] [(0, 0)] _ rfl ?_
                          exact w_reti rfl rfl h
set_option maxRecDepth 4000 in
theorem s_rules_cut {X : zX} {d : Nat} {rf mem : zF} {Q : Int → zF → Prop} (hR : zall rf zRK = true) {x0 : Int} (h : (inL x0 ∧ inL 1000000) ∧ ((inI (if x0 < 1000000 then -1 else if x0 = 1000000 then 0 else 1)) ∧ (((if x0 < 1000000 then -1 else if x0 = 1000000 then 0 else 1) ≤ 0 → (inL x0 ∧ inL (-1000000)) ∧ ((inI (if x0 < (-1000000) then -1 else if x0 = (-1000000) then 0 else 1)) ∧ ((0 ≤ (if x0 < (-1000000) then -1 else if x0 = (-1000000) then 0 else 1) → Q x0 mem) ∧ (¬ 0 ≤ (if x0 < (-1000000) then -1 else if x0 = (-1000000) then 0 else 1) → Q (-1000000) mem)))) ∧ (¬ (if x0 < 1000000 then -1 else if x0 = 1000000 then 0 else 1) ≤ 0 → Q 1000000 mem)))) : Ci X d 81 [(1, x0)] rf mem Q := by
  show zW X d 81 0 [(1, x0), (9, 0)] [] (zty, rf, mem) (qi rf Q)
  refine zW.go 2 4 [(1, x0), (9, 0)] [(1, 1000000), (1, x0)] _ rfl ?_
  obtain ⟨g, h⟩ := h
  refine w_lcmp rfl (by decide) (pc' := 5) rfl g ?_
  refine w_if_le rfl (by decide) (pc' := 8) rfl h.1 (fun c1 => ?_) (fun c1 => ?_)
  · have h := h.2.1 c1
    refine zW.go 2 18 [(1, x0), (9, 0)] [(1, (-1000000)), (1, x0)] _ rfl ?_
    obtain ⟨g, h⟩ := h
    refine w_lcmp rfl (by decide) (pc' := 19) rfl g ?_
    refine w_if_ge rfl (by decide) (pc' := 22) rfl h.1 (fun c2 => ?_) (fun c2 => ?_)
    · have h := h.2.1 c2
      refine zW.go 2 30 [(1, x0), (9, 0)] [(0, x0)] _ rfl ?_
      exact w_reti rfl rfl h
    · have h := h.2.2 c2
      refine zW.go 3 30 [(1, x0), (9, 0)] [(0, (-1000000))] _ rfl ?_
      exact w_reti rfl rfl h
  · have h := h.2.2 c1
    refine zW.go 3 30 [(1, x0), (9, 0)] [(0, 1000000)] _ rfl ?_
    exact w_reti rfl rfl h
set_option maxRecDepth 4000 in
theorem s_rules_push {X : zX} {d : Nat} {rf mem : zF} {Q : zF → Prop} (hR : zall rf zRK = true) {u : Nat} (hu : zRul rf u) {x1 : Int} (h : (inI (mem u 6)) ∧ (((mem u 6) < 0 → Q mem) ∧ (¬ (mem u 6) < 0 → (inI (mem u 6)) ∧ ((64 ≤ (mem u 6) → Q mem) ∧ (¬ 64 ≤ (mem u 6) → (0 ≤ (mem u 6) ∧ (mem u 6) < 64) ∧ (Q (zup (zup mem (u + 5) ((mem u 6)).toNat x1) u 6 (((zup mem (u + 5) ((mem u 6)).toNat x1) u 6) + 1)))))))) : Cv X d 82 [(2, ((u : Nat) : Int)), (0, x1)] rf mem Q := by
  show zW X d 82 0 [(2, ((u : Nat) : Int)), (0, x1)] [] (zty, rf, mem) (qv rf Q)
  refine zW.go 1 1 [(2, ((u : Nat) : Int)), (0, x1)] [(2, ((u : Nat) : Int))] _ rfl ?_
  refine w_getI (q := u) rfl (by decide) (pc' := 4) rfl ⟨Int.natCast_nonneg _, rfl⟩ (zRul_t0 hu) (by decide) ?_
  refine w_if_lt rfl (by decide) (pc' := 7) rfl h.1 (fun c1 => ?_) (fun c1 => ?_)
  · have h := h.2.1 c1
    exact w_retv rfl rfl h
  · have h := h.2.2 c1
    refine zW.go 1 8 [(2, ((u : Nat) : Int)), (0, x1)] [(2, ((u : Nat) : Int))] _ rfl ?_
    refine w_getI (q := u) rfl (by decide) (pc' := 11) rfl ⟨Int.natCast_nonneg _, rfl⟩ (zRul_t0 hu) (by decide) ?_
    refine zW.go 1 13 [(2, ((u : Nat) : Int)), (0, x1)] [(0, 64), (0, (mem u 6))] _ rfl ?_
    refine w_ic_ge rfl (by decide) (pc' := 16) rfl ⟨h.1, by decide⟩ (fun c2 => ?_) (fun c2 => ?_)
    · have h := h.2.1 c2
      exact w_retv rfl rfl h
    · have h := h.2.2 c2
      refine zW.go 1 17 [(2, ((u : Nat) : Int)), (0, x1)] [(2, ((u : Nat) : Int))] _ rfl ?_
      refine w_getL (q := u) (v := ((u + 5 : Nat) : Int)) rfl (by decide) (pc' := 20) rfl ⟨Int.natCast_nonneg _, rfl⟩ (zRul_t0 hu) rfl (zRul_r0_5 hu) ?_
      refine zW.go 1 21 [(2, ((u : Nat) : Int)), (0, x1)] [(2, ((u : Nat) : Int)), (2, ((u + 5 : Nat) : Int))] _ rfl ?_
      refine w_getI (q := u) rfl (by decide) (pc' := 24) rfl ⟨Int.natCast_nonneg _, rfl⟩ (zRul_t0 hu) (by decide) ?_
      refine zW.go 1 25 [(2, ((u : Nat) : Int)), (0, x1)] [(0, x1), (0, (mem u 6)), (2, ((u + 5 : Nat) : Int))] _ rfl ?_
      obtain ⟨g, h⟩ := h
      refine w_iast (q := (u + 5)) rfl (by decide) (pc' := 26) rfl ⟨Int.natCast_nonneg _, rfl⟩ (zRul_t5 hu) g rfl ?_
      refine zW.go 2 28 [(2, ((u : Nat) : Int)), (0, x1)] [(2, ((u : Nat) : Int)), (2, ((u : Nat) : Int))] _ rfl ?_
      refine w_getI (q := u) rfl (by decide) (pc' := 31) rfl ⟨Int.natCast_nonneg _, rfl⟩ (zRul_t0 hu) (by decide) ?_
      refine zW.go 2 33 [(2, ((u : Nat) : Int)), (0, x1)] [(0, (((zup mem (u + 5) ((mem u 6)).toNat x1) u 6) + 1)), (2, ((u : Nat) : Int))] _ rfl ?_
      refine w_putI (q := u) rfl (by decide) (pc' := 36) rfl ⟨Int.natCast_nonneg _, rfl⟩ (zRul_t0 hu) (by decide) ?_
      exact w_retv rfl rfl h
set_option maxRecDepth 4000 in
theorem s_rules_pop {X : zX} {d : Nat} {rf mem : zF} {Q : Int → zF → Prop} (hR : zall rf zRK = true) {u : Nat} (hu : zRul rf u) (h : (inI (mem u 6)) ∧ (((mem u 6) ≤ 0 → Q 0 mem) ∧ (¬ (mem u 6) ≤ 0 → (inI (mem u 6)) ∧ (((mem u 6) ≤ 64 → (0 ≤ ((zup mem u 6 ((mem u 6) - 1)) u 6) ∧ ((zup mem u 6 ((mem u 6) - 1)) u 6) < 64) ∧ (Q ((zup mem u 6 ((mem u 6) - 1)) (u + 5) (((zup mem u 6 ((mem u 6) - 1)) u 6)).toNat) (zup mem u 6 ((mem u 6) - 1)))) ∧ (¬ (mem u 6) ≤ 64 → Q 0 mem))))) : Ci X d 83 [(2, ((u : Nat) : Int))] rf mem Q := by
  show zW X d 83 0 [(2, ((u : Nat) : Int))] [] (zty, rf, mem) (qi rf Q)
  refine zW.go 1 1 [(2, ((u : Nat) : Int))] [(2, ((u : Nat) : Int))] _ rfl ?_
  refine w_getI (q := u) rfl (by decide) (pc' := 4) rfl ⟨Int.natCast_nonneg _, rfl⟩ (zRul_t0 hu) (by decide) ?_
  refine w_if_le rfl (by decide) (pc' := 7) rfl h.1 (fun c1 => ?_) (fun c1 => ?_)
  · have h := h.2.1 c1
    refine zW.go 1 17 [(2, ((u : Nat) : Int))] [(0, 0)] _ rfl ?_
    exact w_reti rfl rfl h
  · have h := h.2.2 c1
    refine zW.go 1 8 [(2, ((u : Nat) : Int))] [(2, ((u : Nat) : Int))] _ rfl ?_
    refine w_getI (q := u) rfl (by decide) (pc' := 11) rfl ⟨Int.natCast_nonneg _, rfl⟩ (zRul_t0 hu) (by decide) ?_
    refine zW.go 1 13 [(2, ((u : Nat) : Int))] [(0, 64), (0, (mem u 6))] _ rfl ?_
    refine w_ic_le rfl (by decide) (pc' := 16) rfl ⟨h.1, by decide⟩ (fun c2 => ?_) (fun c2 => ?_)
    · have h := h.2.1 c2
      refine zW.go 2 20 [(2, ((u : Nat) : Int))] [(2, ((u : Nat) : Int)), (2, ((u : Nat) : Int))] _ rfl ?_
      refine w_getI (q := u) rfl (by decide) (pc' := 23) rfl ⟨Int.natCast_nonneg _, rfl⟩ (zRul_t0 hu) (by decide) ?_
      refine zW.go 2 25 [(2, ((u : Nat) : Int))] [(0, ((mem u 6) - 1)), (2, ((u : Nat) : Int))] _ rfl ?_
      refine w_putI (q := u) rfl (by decide) (pc' := 28) rfl ⟨Int.natCast_nonneg _, rfl⟩ (zRul_t0 hu) (by decide) ?_
      refine zW.go 1 29 [(2, ((u : Nat) : Int))] [(2, ((u : Nat) : Int))] _ rfl ?_
      refine w_getL (q := u) (v := ((u + 5 : Nat) : Int)) rfl (by decide) (pc' := 32) rfl ⟨Int.natCast_nonneg _, rfl⟩ (zRul_t0 hu) rfl (zRul_r0_5 hu) ?_
      refine zW.go 1 33 [(2, ((u : Nat) : Int))] [(2, ((u : Nat) : Int)), (2, ((u + 5 : Nat) : Int))] _ rfl ?_
      refine w_getI (q := u) rfl (by decide) (pc' := 36) rfl ⟨Int.natCast_nonneg _, rfl⟩ (zRul_t0 hu) (by decide) ?_
      obtain ⟨g, h⟩ := h
      refine w_iald (q := (u + 5)) rfl (by decide) (pc' := 37) rfl ⟨Int.natCast_nonneg _, rfl⟩ (zRul_t5 hu) g rfl ?_
      exact w_reti rfl rfl h
    · have h := h.2.2 c2
      refine zW.go 1 17 [(2, ((u : Nat) : Int))] [(0, 0)] _ rfl ?_
      exact w_reti rfl rfl h
def L_scene_begin_28 (X : zX) (d : Nat) (rf : zF) (Q : zF → Prop) (mem : zF) (o : Nat) (p : Nat) (x2 : Int) : Prop := ∀ z3 : zV, zW X (d + 1) 85 28 [(2, ((o : Nat) : Int)), (2, ((p : Nat) : Int)), (0, x2), z3] [] (zty, rf, mem) (qv rf Q)
def L_scene_begin_84 (X : zX) (d : Nat) (rf : zF) (Q : zF → Prop) (mem : zF) (o : Nat) (p : Nat) (x2 : Int) (x3 : Int) (s1 : Int) (s2 : Int) : Prop := zW X (d + 1) 85 84 [(2, ((o : Nat) : Int)), (2, ((p : Nat) : Int)), (0, x2), (0, x3)] [(0, s2), (0, s1), (2, ((o + 3 : Nat) : Int))] (zty, rf, mem) (qv rf Q)
def L_scene_begin_104 (X : zX) (d : Nat) (rf : zF) (Q : zF → Prop) (mem : zF) (o : Nat) (p : Nat) (x2 : Int) (x3 : Int) (s1 : Int) (s2 : Int) : Prop := zW X (d + 1) 85 104 [(2, ((o : Nat) : Int)), (2, ((p : Nat) : Int)), (0, x2), (0, x3)] [(0, s2), (0, s1), (2, ((o + 4 : Nat) : Int))] (zty, rf, mem) (qv rf Q)
def L_scene_begin_121 (X : zX) (d : Nat) (rf : zF) (Q : zF → Prop) (mem : zF) (o : Nat) (p : Nat) (x2 : Int) (s1 : Int) (s2 : Int) : Prop := ∀ z3 : zV, zW X (d + 1) 85 121 [(2, ((o : Nat) : Int)), (2, ((p : Nat) : Int)), (0, x2), z3] [(0, s2), (0, s1), (2, ((o + 5 : Nat) : Int))] (zty, rf, mem) (qv rf Q)
set_option maxRecDepth 4000 in
theorem s_scene_begin_28 {X : zX} {d : Nat} {rf mem : zF} {Q : zF → Prop} (hR : zall rf zRK = true) {o : Nat} (ho : zScn rf o) {p : Nat} (hp : zPln rf p) {x2 : Int} (h : (inI x2) ∧ ((6 ≤ x2 → Q mem) ∧ (¬ 6 ≤ x2 → Ci X d 60 [(2, ((p : Nat) : Int)), (0, 2), (0, x2)] rf mem (fun r2 mem3 => Ci X d 65 [(2, ((p : Nat) : Int)), (0, 1), (0, x2)] rf mem3 (fun r4 mem5 => (0 ≤ x2 ∧ x2 < 6) ∧ (Ci X d 65 [(2, ((p : Nat) : Int)), (0, 2), (0, x2)] rf (zup mem5 (o + 1) (x2).toNat r4) (fun r6 mem7 => (0 ≤ x2 ∧ x2 < 6) ∧ ((inI r2) ∧ ((r2 = 0 → L_scene_begin_84 X d rf Q (zup mem7 (o + 2) (x2).toNat r6) o p x2 r2 x2 0) ∧ (¬ r2 = 0 → (0 ≤ x2 ∧ x2 < 6) ∧ (L_scene_begin_84 X d rf Q (zup mem7 (o + 2) (x2).toNat r6) o p x2 r2 x2 ((zup mem7 (o + 2) (x2).toNat r6) (p + 7) (x2).toNat)))))))))))) : L_scene_begin_28 X d rf Q mem o p x2 := by
  intro z3
  refine zW.go 2 31 [(2, ((o : Nat) : Int)), (2, ((p : Nat) : Int)), (0, x2), z3] [(0, 6), (0, x2)] _ rfl ?_
  refine w_ic_ge rfl (by decide) (pc' := 34) rfl ⟨h.1, by decide⟩ (fun c1 => ?_) (fun c1 => ?_)
  · have h := h.2.1 c1
    exact w_retv rfl rfl h
  · have h := h.2.2 c1
    refine zW.go 3 37 [(2, ((o : Nat) : Int)), (2, ((p : Nat) : Int)), (0, x2), z3] [(0, x2), (0, 2), (2, ((p : Nat) : Int))] _ rfl ?_
    refine w_calli (as := [(2, ((p : Nat) : Int)), (0, 2), (0, x2)]) [] 40 rfl rfl rfl rfl (Nat.le_of_ble_eq_true rfl) (Nat.le_of_ble_eq_true rfl) (Nat.le_of_ble_eq_true rfl) (Or.inr (zrcv_o (zPln_t0 hp))) (Ci.imp h (fun r2 mem3 h => ?_))
    refine zW.go 2 42 [(2, ((o : Nat) : Int)), (2, ((p : Nat) : Int)), (0, x2), (0, r2)] [(2, ((o : Nat) : Int))] _ rfl ?_
    refine w_getL (q := o) (v := ((o + 1 : Nat) : Int)) rfl (by decide) (pc' := 45) rfl ⟨Int.natCast_nonneg _, rfl⟩ (zScn_t0 ho) rfl (zScn_r0_3 ho) ?_
    refine zW.go 4 49 [(2, ((o : Nat) : Int)), (2, ((p : Nat) : Int)), (0, x2), (0, r2)] [(0, x2), (0, 1), (2, ((p : Nat) : Int)), (0, x2), (2, ((o + 1 : Nat) : Int))] _ rfl ?_
    refine w_calli (as := [(2, ((p : Nat) : Int)), (0, 1), (0, x2)]) [(0, x2), (2, ((o + 1 : Nat) : Int))] 52 rfl rfl rfl rfl (Nat.le_of_ble_eq_true rfl) (Nat.le_of_ble_eq_true rfl) (Nat.le_of_ble_eq_true rfl) (Or.inr (zrcv_o (zPln_t0 hp))) (Ci.imp h (fun r4 mem5 h => ?_))
    obtain ⟨g, h⟩ := h
    refine w_iast (q := (o + 1)) rfl (by decide) (pc' := 53) rfl ⟨Int.natCast_nonneg _, rfl⟩ (zScn_t1 ho) g rfl ?_
    refine zW.go 1 54 [(2, ((o : Nat) : Int)), (2, ((p : Nat) : Int)), (0, x2), (0, r2)] [(2, ((o : Nat) : Int))] _ rfl ?_
    refine w_getL (q := o) (v := ((o + 2 : Nat) : Int)) rfl (by decide) (pc' := 57) rfl ⟨Int.natCast_nonneg _, rfl⟩ (zScn_t0 ho) rfl (zScn_r0_4 ho) ?_
    refine zW.go 4 61 [(2, ((o : Nat) : Int)), (2, ((p : Nat) : Int)), (0, x2), (0, r2)] [(0, x2), (0, 2), (2, ((p : Nat) : Int)), (0, x2), (2, ((o + 2 : Nat) : Int))] _ rfl ?_
    refine w_calli (as := [(2, ((p : Nat) : Int)), (0, 2), (0, x2)]) [(0, x2), (2, ((o + 2 : Nat) : Int))] 64 rfl rfl rfl rfl (Nat.le_of_ble_eq_true rfl) (Nat.le_of_ble_eq_true rfl) (Nat.le_of_ble_eq_true rfl) (Or.inr (zrcv_o (zPln_t0 hp))) (Ci.imp h (fun r6 mem7 h => ?_))
    obtain ⟨g, h⟩ := h
    refine w_iast (q := (o + 2)) rfl (by decide) (pc' := 65) rfl ⟨Int.natCast_nonneg _, rfl⟩ (zScn_t2 ho) g rfl ?_
    refine zW.go 1 66 [(2, ((o : Nat) : Int)), (2, ((p : Nat) : Int)), (0, x2), (0, r2)] [(2, ((o : Nat) : Int))] _ rfl ?_
    refine w_getL (q := o) (v := ((o + 3 : Nat) : Int)) rfl (by decide) (pc' := 69) rfl ⟨Int.natCast_nonneg _, rfl⟩ (zScn_t0 ho) rfl (zScn_r0_5 ho) ?_
    refine zW.go 2 71 [(2, ((o : Nat) : Int)), (2, ((p : Nat) : Int)), (0, x2), (0, r2)] [(0, r2), (0, x2), (2, ((o + 3 : Nat) : Int))] _ rfl ?_
    refine w_if_eq rfl (by decide) (pc' := 74) rfl h.1 (fun c8 => ?_) (fun c8 => ?_)
    · have h := h.2.1 c8
      refine zW.go 1 84 [(2, ((o : Nat) : Int)), (2, ((p : Nat) : Int)), (0, x2), (0, r2)] [(0, 0), (0, x2), (2, ((o + 3 : Nat) : Int))] _ rfl ?_
      exact h
    · have h := h.2.2 c8
      refine zW.go 1 75 [(2, ((o : Nat) : Int)), (2, ((p : Nat) : Int)), (0, x2), (0, r2)] [(2, ((p : Nat) : Int)), (0, x2), (2, ((o + 3 : Nat) : Int))] _ rfl ?_
      refine w_getL (q := p) (v := ((p + 7 : Nat) : Int)) rfl (by decide) (pc' := 78) rfl ⟨Int.natCast_nonneg _, rfl⟩ (zPln_t0 hp) rfl (zPln_r0_12 hp) ?_
      refine zW.go 1 79 [(2, ((o : Nat) : Int)), (2, ((p : Nat) : Int)), (0, x2), (0, r2)] [(0, x2), (2, ((p + 7 : Nat) : Int)), (0, x2), (2, ((o + 3 : Nat) : Int))] _ rfl ?_
      obtain ⟨g, h⟩ := h
      refine w_iald (q := (p + 7)) rfl (by decide) (pc' := 80) rfl ⟨Int.natCast_nonneg _, rfl⟩ (zPln_t7 hp) g rfl ?_
      refine zW.go 1 84 [(2, ((o : Nat) : Int)), (2, ((p : Nat) : Int)), (0, x2), (0, r2)] [(0, ((zup mem7 (o + 2) (x2).toNat r6) (p + 7) (x2).toNat)), (0, x2), (2, ((o + 3 : Nat) : Int))] _ rfl ?_
      exact h
set_option maxRecDepth 4000 in
theorem s_scene_begin_84 {X : zX} {d : Nat} {rf mem : zF} {Q : zF → Prop} (hR : zall rf zRK = true) {o : Nat} (ho : zScn rf o) {p : Nat} (hp : zPln rf p) {x2 : Int} {x3 : Int} {s1 : Int} {s2 : Int} (h : (0 ≤ s1 ∧ s1 < 6) ∧ ((inI x3) ∧ ((x3 = 0 → L_scene_begin_104 X d rf Q (zup mem (o + 3) (s1).toNat s2) o p x2 x3 x2 0) ∧ (¬ x3 = 0 → (0 ≤ x2 ∧ x2 < 6) ∧ (L_scene_begin_104 X d rf Q (zup mem (o + 3) (s1).toNat s2) o p x2 x3 x2 ((zup mem (o + 3) (s1).toNat s2) (p + 8) (x2).toNat)))))) : L_scene_begin_84 X d rf Q mem o p x2 x3 s1 s2 := by
  obtain ⟨g, h⟩ := h
  refine w_iast (q := (o + 3)) rfl (by decide) (pc' := 85) rfl ⟨Int.natCast_nonneg _, rfl⟩ (zScn_t3 ho) g rfl ?_
  refine zW.go 1 86 [(2, ((o : Nat) : Int)), (2, ((p : Nat) : Int)), (0, x2), (0, x3)] [(2, ((o : Nat) : Int))] _ rfl ?_
  refine w_getL (q := o) (v := ((o + 4 : Nat) : Int)) rfl (by decide) (pc' := 89) rfl ⟨Int.natCast_nonneg _, rfl⟩ (zScn_t0 ho) rfl (zScn_r0_6 ho) ?_
  refine zW.go 2 91 [(2, ((o : Nat) : Int)), (2, ((p : Nat) : Int)), (0, x2), (0, x3)] [(0, x3), (0, x2), (2, ((o + 4 : Nat) : Int))] _ rfl ?_
  refine w_if_eq rfl (by decide) (pc' := 94) rfl h.1 (fun c9 => ?_) (fun c9 => ?_)
  · have h := h.2.1 c9
    refine zW.go 1 104 [(2, ((o : Nat) : Int)), (2, ((p : Nat) : Int)), (0, x2), (0, x3)] [(0, 0), (0, x2), (2, ((o + 4 : Nat) : Int))] _ rfl ?_
    exact h
  · have h := h.2.2 c9
    refine zW.go 1 95 [(2, ((o : Nat) : Int)), (2, ((p : Nat) : Int)), (0, x2), (0, x3)] [(2, ((p : Nat) : Int)), (0, x2), (2, ((o + 4 : Nat) : Int))] _ rfl ?_
    refine w_getL (q := p) (v := ((p + 8 : Nat) : Int)) rfl (by decide) (pc' := 98) rfl ⟨Int.natCast_nonneg _, rfl⟩ (zPln_t0 hp) rfl (zPln_r0_13 hp) ?_
    refine zW.go 1 99 [(2, ((o : Nat) : Int)), (2, ((p : Nat) : Int)), (0, x2), (0, x3)] [(0, x2), (2, ((p + 8 : Nat) : Int)), (0, x2), (2, ((o + 4 : Nat) : Int))] _ rfl ?_
    obtain ⟨g, h⟩ := h
    refine w_iald (q := (p + 8)) rfl (by decide) (pc' := 100) rfl ⟨Int.natCast_nonneg _, rfl⟩ (zPln_t8 hp) g rfl ?_
    refine zW.go 1 104 [(2, ((o : Nat) : Int)), (2, ((p : Nat) : Int)), (0, x2), (0, x3)] [(0, ((zup mem (o + 3) (s1).toNat s2) (p + 8) (x2).toNat)), (0, x2), (2, ((o + 4 : Nat) : Int))] _ rfl ?_
    exact h
set_option maxRecDepth 4000 in
theorem s_scene_begin_104 {X : zX} {d : Nat} {rf mem : zF} {Q : zF → Prop} (hR : zall rf zRK = true) {o : Nat} (ho : zScn rf o) {p : Nat} (hp : zPln rf p) {x2 : Int} {x3 : Int} {s1 : Int} {s2 : Int} (h : (0 ≤ s1 ∧ s1 < 6) ∧ ((inI x3) ∧ ((x3 = 0 → L_scene_begin_121 X d rf Q (zup mem (o + 4) (s1).toNat s2) o p x2 x2 0) ∧ (¬ x3 = 0 → L_scene_begin_121 X d rf Q (zup mem (o + 4) (s1).toNat s2) o p x2 x2 (zshl 1 x2))))) : L_scene_begin_104 X d rf Q mem o p x2 x3 s1 s2 := by
  obtain ⟨g, h⟩ := h
  refine w_iast (q := (o + 4)) rfl (by decide) (pc' := 105) rfl ⟨Int.natCast_nonneg _, rfl⟩ (zScn_t4 ho) g rfl ?_
  refine zW.go 1 106 [(2, ((o : Nat) : Int)), (2, ((p : Nat) : Int)), (0, x2), (0, x3)] [(2, ((o : Nat) : Int))] _ rfl ?_
  refine w_getL (q := o) (v := ((o + 5 : Nat) : Int)) rfl (by decide) (pc' := 109) rfl ⟨Int.natCast_nonneg _, rfl⟩ (zScn_t0 ho) rfl (zScn_r0_7 ho) ?_
  refine zW.go 2 111 [(2, ((o : Nat) : Int)), (2, ((p : Nat) : Int)), (0, x2), (0, x3)] [(0, x3), (0, x2), (2, ((o + 5 : Nat) : Int))] _ rfl ?_
  refine w_if_eq rfl (by decide) (pc' := 114) rfl h.1 (fun c10 => ?_) (fun c10 => ?_)
  · have h := h.2.1 c10
    refine zW.go 1 121 [(2, ((o : Nat) : Int)), (2, ((p : Nat) : Int)), (0, x2), (0, x3)] [(0, 0), (0, x2), (2, ((o + 5 : Nat) : Int))] _ rfl ?_
    exact h (0, x3)
  · have h := h.2.2 c10
    refine zW.go 4 121 [(2, ((o : Nat) : Int)), (2, ((p : Nat) : Int)), (0, x2), (0, x3)] [(0, (zshl 1 x2)), (0, x2), (2, ((o + 5 : Nat) : Int))] _ rfl ?_
    exact h (0, x3)
set_option maxRecDepth 4000 in
theorem s_scene_begin_121 {X : zX} {d : Nat} {rf mem : zF} {Q : zF → Prop} (hR : zall rf zRK = true) {o : Nat} (ho : zScn rf o) {p : Nat} (hp : zPln rf p) {x2 : Int} {s1 : Int} {s2 : Int} (h : (0 ≤ s1 ∧ s1 < 6) ∧ ((0 ≤ x2 ∧ x2 < 6) ∧ ((0 ≤ x2 ∧ x2 < 6) ∧ (L_scene_begin_28 X d rf Q (zup (zup (zup mem (o + 5) (s1).toNat s2) (o + 6) (x2).toNat (-1)) (o + 7) (x2).toNat 0) o p (x2 + 1))))) : L_scene_begin_121 X d rf Q mem o p x2 s1 s2 := by
  intro z3
  obtain ⟨g, h⟩ := h
  refine w_iast (q := (o + 5)) rfl (by decide) (pc' := 122) rfl ⟨Int.natCast_nonneg _, rfl⟩ (zScn_t5 ho) g rfl ?_
  refine zW.go 1 123 [(2, ((o : Nat) : Int)), (2, ((p : Nat) : Int)), (0, x2), z3] [(2, ((o : Nat) : Int))] _ rfl ?_
  refine w_getL (q := o) (v := ((o + 6 : Nat) : Int)) rfl (by decide) (pc' := 126) rfl ⟨Int.natCast_nonneg _, rfl⟩ (zScn_t0 ho) rfl (zScn_r0_8 ho) ?_
  refine zW.go 2 128 [(2, ((o : Nat) : Int)), (2, ((p : Nat) : Int)), (0, x2), z3] [(0, (-1)), (0, x2), (2, ((o + 6 : Nat) : Int))] _ rfl ?_
  obtain ⟨g, h⟩ := h
  refine w_iast (q := (o + 6)) rfl (by decide) (pc' := 129) rfl ⟨Int.natCast_nonneg _, rfl⟩ (zScn_t6 ho) g rfl ?_
  refine zW.go 1 130 [(2, ((o : Nat) : Int)), (2, ((p : Nat) : Int)), (0, x2), z3] [(2, ((o : Nat) : Int))] _ rfl ?_
  refine w_getL (q := o) (v := ((o + 7 : Nat) : Int)) rfl (by decide) (pc' := 133) rfl ⟨Int.natCast_nonneg _, rfl⟩ (zScn_t0 ho) rfl (zScn_r0_9 ho) ?_
  refine zW.go 2 135 [(2, ((o : Nat) : Int)), (2, ((p : Nat) : Int)), (0, x2), z3] [(0, 0), (0, x2), (2, ((o + 7 : Nat) : Int))] _ rfl ?_
  obtain ⟨g, h⟩ := h
  refine w_iast (q := (o + 7)) rfl (by decide) (pc' := 136) rfl ⟨Int.natCast_nonneg _, rfl⟩ (zScn_t7 ho) g rfl ?_
  refine zW.go 2 28 [(2, ((o : Nat) : Int)), (2, ((p : Nat) : Int)), (0, (x2 + 1)), z3] [] _ rfl ?_
  exact h z3
set_option maxRecDepth 4000 in
theorem s_scene_begin {X : zX} {d : Nat} {rf mem : zF} {Q : zF → Prop} (hR : zall rf zRK = true) {o : Nat} (ho : zScn rf o) {p : Nat} (hp : zPln rf p) (h : L_scene_begin_28 X d rf Q (zup (zup (zup (zup mem o 0 0) o 1 ((zup mem o 0 0) p 3)) o 2 ((zup (zup mem o 0 0) o 1 ((zup mem o 0 0) p 3)) p 5)) o 11 0) o p 0) : Cv X (d + 1) 85 [(2, ((o : Nat) : Int)), (2, ((p : Nat) : Int))] rf mem Q := by
  show zW X (d + 1) 85 0 [(2, ((o : Nat) : Int)), (2, ((p : Nat) : Int)), (9, 0), (9, 0)] [] (zty, rf, mem) (qv rf Q)
  refine zW.go 2 2 [(2, ((o : Nat) : Int)), (2, ((p : Nat) : Int)), (9, 0), (9, 0)] [(0, 0), (2, ((o : Nat) : Int))] _ rfl ?_
  refine w_putI (q := o) rfl (by decide) (pc' := 5) rfl ⟨Int.natCast_nonneg _, rfl⟩ (zScn_t0 ho) (by decide) ?_
  refine zW.go 2 7 [(2, ((o : Nat) : Int)), (2, ((p : Nat) : Int)), (9, 0), (9, 0)] [(2, ((p : Nat) : Int)), (2, ((o : Nat) : Int))] _ rfl ?_
  refine w_getI (q := p) rfl (by decide) (pc' := 10) rfl ⟨Int.natCast_nonneg _, rfl⟩ (zPln_t0 hp) (by decide) ?_
  refine w_putI (q := o) rfl (by decide) (pc' := 13) rfl ⟨Int.natCast_nonneg _, rfl⟩ (zScn_t0 ho) (by decide) ?_
  refine zW.go 2 15 [(2, ((o : Nat) : Int)), (2, ((p : Nat) : Int)), (9, 0), (9, 0)] [(2, ((p : Nat) : Int)), (2, ((o : Nat) : Int))] _ rfl ?_
  refine w_getI (q := p) rfl (by decide) (pc' := 18) rfl ⟨Int.natCast_nonneg _, rfl⟩ (zPln_t0 hp) (by decide) ?_
  refine w_putI (q := o) rfl (by decide) (pc' := 21) rfl ⟨Int.natCast_nonneg _, rfl⟩ (zScn_t0 ho) (by decide) ?_
  refine zW.go 2 23 [(2, ((o : Nat) : Int)), (2, ((p : Nat) : Int)), (9, 0), (9, 0)] [(0, 0), (2, ((o : Nat) : Int))] _ rfl ?_
  refine w_putI (q := o) rfl (by decide) (pc' := 26) rfl ⟨Int.natCast_nonneg _, rfl⟩ (zScn_t0 ho) (by decide) ?_
  refine zW.go 2 28 [(2, ((o : Nat) : Int)), (2, ((p : Nat) : Int)), (0, 0), (9, 0)] [] _ rfl ?_
  exact h (9, 0)
set_option maxRecDepth 4000 in
theorem s_scene_copy {X : zX} {d : Nat} {rf mem : zF} {Q : zF → Prop} (hR : zall rf zRK = true) {o : Nat} (ho : zScn rf o) {o2 : Nat} (ho2 : zScn rf o2) (h : Q (zcp (zcp (zcp (zcp (zcp (zcp (zcp (zcp (zup (zup (zup (zup mem o 0 (mem o2 0)) o 1 ((zup mem o 0 (mem o2 0)) o2 1)) o 2 ((zup (zup mem o 0 (mem o2 0)) o 1 ((zup mem o 0 (mem o2 0)) o2 1)) o2 2)) o 11 ((zup (zup (zup mem o 0 (mem o2 0)) o 1 ((zup mem o 0 (mem o2 0)) o2 1)) o 2 ((zup (zup mem o 0 (mem o2 0)) o 1 ((zup mem o 0 (mem o2 0)) o2 1)) o2 2)) o2 11)) (o + 1) (o2 + 1) 6) (o + 2) (o2 + 2) 6) (o + 3) (o2 + 3) 6) (o + 4) (o2 + 4) 6) (o + 5) (o2 + 5) 6) (o + 6) (o2 + 6) 6) (o + 7) (o2 + 7) 6) (o + 8) (o2 + 8) 24)) : Cv X d 86 [(2, ((o : Nat) : Int)), (2, ((o2 : Nat) : Int))] rf mem Q := by
  show zW X d 86 0 [(2, ((o : Nat) : Int)), (2, ((o2 : Nat) : Int))] [] (zty, rf, mem) (qv rf Q)
  refine zW.go 2 2 [(2, ((o : Nat) : Int)), (2, ((o2 : Nat) : Int))] [(2, ((o2 : Nat) : Int)), (2, ((o : Nat) : Int))] _ rfl ?_
  refine w_getI (q := o2) rfl (by decide) (pc' := 5) rfl ⟨Int.natCast_nonneg _, rfl⟩ (zScn_t0 ho2) (by decide) ?_
  refine w_putI (q := o) rfl (by decide) (pc' := 8) rfl ⟨Int.natCast_nonneg _, rfl⟩ (zScn_t0 ho) (by decide) ?_
  refine zW.go 2 10 [(2, ((o : Nat) : Int)), (2, ((o2 : Nat) : Int))] [(2, ((o2 : Nat) : Int)), (2, ((o : Nat) : Int))] _ rfl ?_
  refine w_getI (q := o2) rfl (by decide) (pc' := 13) rfl ⟨Int.natCast_nonneg _, rfl⟩ (zScn_t0 ho2) (by decide) ?_
  refine w_putI (q := o) rfl (by decide) (pc' := 16) rfl ⟨Int.natCast_nonneg _, rfl⟩ (zScn_t0 ho) (by decide) ?_
  refine zW.go 2 18 [(2, ((o : Nat) : Int)), (2, ((o2 : Nat) : Int))] [(2, ((o2 : Nat) : Int)), (2, ((o : Nat) : Int))] _ rfl ?_
  refine w_getI (q := o2) rfl (by decide) (pc' := 21) rfl ⟨Int.natCast_nonneg _, rfl⟩ (zScn_t0 ho2) (by decide) ?_
  refine w_putI (q := o) rfl (by decide) (pc' := 24) rfl ⟨Int.natCast_nonneg _, rfl⟩ (zScn_t0 ho) (by decide) ?_
  refine zW.go 2 26 [(2, ((o : Nat) : Int)), (2, ((o2 : Nat) : Int))] [(2, ((o2 : Nat) : Int)), (2, ((o : Nat) : Int))] _ rfl ?_
  refine w_getI (q := o2) rfl (by decide) (pc' := 29) rfl ⟨Int.natCast_nonneg _, rfl⟩ (zScn_t0 ho2) (by decide) ?_
  refine w_putI (q := o) rfl (by decide) (pc' := 32) rfl ⟨Int.natCast_nonneg _, rfl⟩ (zScn_t0 ho) (by decide) ?_
  refine zW.go 1 33 [(2, ((o : Nat) : Int)), (2, ((o2 : Nat) : Int))] [(2, ((o2 : Nat) : Int))] _ rfl ?_
  refine w_getL (q := o2) (v := ((o2 + 1 : Nat) : Int)) rfl (by decide) (pc' := 36) rfl ⟨Int.natCast_nonneg _, rfl⟩ (zScn_t0 ho2) rfl (zScn_r0_3 ho2) ?_
  refine zW.go 2 38 [(2, ((o : Nat) : Int)), (2, ((o2 : Nat) : Int))] [(2, ((o : Nat) : Int)), (0, 0), (2, ((o2 + 1 : Nat) : Int))] _ rfl ?_
  refine w_getL (q := o) (v := ((o + 1 : Nat) : Int)) rfl (by decide) (pc' := 41) rfl ⟨Int.natCast_nonneg _, rfl⟩ (zScn_t0 ho) rfl (zScn_r0_3 ho) ?_
  refine zW.go 2 44 [(2, ((o : Nat) : Int)), (2, ((o2 : Nat) : Int))] [(0, 6), (0, 0), (2, ((o + 1 : Nat) : Int)), (0, 0), (2, ((o2 + 1 : Nat) : Int))] _ rfl ?_
  refine w_copy (q := (o + 1)) (q1 := (o2 + 1)) rfl (by decide) (pc' := 47) rfl ⟨Int.natCast_nonneg _, rfl⟩ ⟨Int.natCast_nonneg _, rfl⟩ (zScn_t1 ho2) (zScn_t1 ho) (by decide) ?_
  refine zW.go 1 48 [(2, ((o : Nat) : Int)), (2, ((o2 : Nat) : Int))] [(2, ((o2 : Nat) : Int))] _ rfl ?_
  refine w_getL (q := o2) (v := ((o2 + 2 : Nat) : Int)) rfl (by decide) (pc' := 51) rfl ⟨Int.natCast_nonneg _, rfl⟩ (zScn_t0 ho2) rfl (zScn_r0_4 ho2) ?_
  refine zW.go 2 53 [(2, ((o : Nat) : Int)), (2, ((o2 : Nat) : Int))] [(2, ((o : Nat) : Int)), (0, 0), (2, ((o2 + 2 : Nat) : Int))] _ rfl ?_
  refine w_getL (q := o) (v := ((o + 2 : Nat) : Int)) rfl (by decide) (pc' := 56) rfl ⟨Int.natCast_nonneg _, rfl⟩ (zScn_t0 ho) rfl (zScn_r0_4 ho) ?_
  refine zW.go 2 59 [(2, ((o : Nat) : Int)), (2, ((o2 : Nat) : Int))] [(0, 6), (0, 0), (2, ((o + 2 : Nat) : Int)), (0, 0), (2, ((o2 + 2 : Nat) : Int))] _ rfl ?_
  refine w_copy (q := (o + 2)) (q1 := (o2 + 2)) rfl (by decide) (pc' := 62) rfl ⟨Int.natCast_nonneg _, rfl⟩ ⟨Int.natCast_nonneg _, rfl⟩ (zScn_t2 ho2) (zScn_t2 ho) (by decide) ?_
  refine zW.go 1 63 [(2, ((o : Nat) : Int)), (2, ((o2 : Nat) : Int))] [(2, ((o2 : Nat) : Int))] _ rfl ?_
  refine w_getL (q := o2) (v := ((o2 + 3 : Nat) : Int)) rfl (by decide) (pc' := 66) rfl ⟨Int.natCast_nonneg _, rfl⟩ (zScn_t0 ho2) rfl (zScn_r0_5 ho2) ?_
  refine zW.go 2 68 [(2, ((o : Nat) : Int)), (2, ((o2 : Nat) : Int))] [(2, ((o : Nat) : Int)), (0, 0), (2, ((o2 + 3 : Nat) : Int))] _ rfl ?_
  refine w_getL (q := o) (v := ((o + 3 : Nat) : Int)) rfl (by decide) (pc' := 71) rfl ⟨Int.natCast_nonneg _, rfl⟩ (zScn_t0 ho) rfl (zScn_r0_5 ho) ?_
  refine zW.go 2 74 [(2, ((o : Nat) : Int)), (2, ((o2 : Nat) : Int))] [(0, 6), (0, 0), (2, ((o + 3 : Nat) : Int)), (0, 0), (2, ((o2 + 3 : Nat) : Int))] _ rfl ?_
  refine w_copy (q := (o + 3)) (q1 := (o2 + 3)) rfl (by decide) (pc' := 77) rfl ⟨Int.natCast_nonneg _, rfl⟩ ⟨Int.natCast_nonneg _, rfl⟩ (zScn_t3 ho2) (zScn_t3 ho) (by decide) ?_
  refine zW.go 1 78 [(2, ((o : Nat) : Int)), (2, ((o2 : Nat) : Int))] [(2, ((o2 : Nat) : Int))] _ rfl ?_
  refine w_getL (q := o2) (v := ((o2 + 4 : Nat) : Int)) rfl (by decide) (pc' := 81) rfl ⟨Int.natCast_nonneg _, rfl⟩ (zScn_t0 ho2) rfl (zScn_r0_6 ho2) ?_
  refine zW.go 2 83 [(2, ((o : Nat) : Int)), (2, ((o2 : Nat) : Int))] [(2, ((o : Nat) : Int)), (0, 0), (2, ((o2 + 4 : Nat) : Int))] _ rfl ?_
  refine w_getL (q := o) (v := ((o + 4 : Nat) : Int)) rfl (by decide) (pc' := 86) rfl ⟨Int.natCast_nonneg _, rfl⟩ (zScn_t0 ho) rfl (zScn_r0_6 ho) ?_
  refine zW.go 2 89 [(2, ((o : Nat) : Int)), (2, ((o2 : Nat) : Int))] [(0, 6), (0, 0), (2, ((o + 4 : Nat) : Int)), (0, 0), (2, ((o2 + 4 : Nat) : Int))] _ rfl ?_
  refine w_copy (q := (o + 4)) (q1 := (o2 + 4)) rfl (by decide) (pc' := 92) rfl ⟨Int.natCast_nonneg _, rfl⟩ ⟨Int.natCast_nonneg _, rfl⟩ (zScn_t4 ho2) (zScn_t4 ho) (by decide) ?_
  refine zW.go 1 93 [(2, ((o : Nat) : Int)), (2, ((o2 : Nat) : Int))] [(2, ((o2 : Nat) : Int))] _ rfl ?_
  refine w_getL (q := o2) (v := ((o2 + 5 : Nat) : Int)) rfl (by decide) (pc' := 96) rfl ⟨Int.natCast_nonneg _, rfl⟩ (zScn_t0 ho2) rfl (zScn_r0_7 ho2) ?_
  refine zW.go 2 98 [(2, ((o : Nat) : Int)), (2, ((o2 : Nat) : Int))] [(2, ((o : Nat) : Int)), (0, 0), (2, ((o2 + 5 : Nat) : Int))] _ rfl ?_
  refine w_getL (q := o) (v := ((o + 5 : Nat) : Int)) rfl (by decide) (pc' := 101) rfl ⟨Int.natCast_nonneg _, rfl⟩ (zScn_t0 ho) rfl (zScn_r0_7 ho) ?_
  refine zW.go 2 104 [(2, ((o : Nat) : Int)), (2, ((o2 : Nat) : Int))] [(0, 6), (0, 0), (2, ((o + 5 : Nat) : Int)), (0, 0), (2, ((o2 + 5 : Nat) : Int))] _ rfl ?_
  refine w_copy (q := (o + 5)) (q1 := (o2 + 5)) rfl (by decide) (pc' := 107) rfl ⟨Int.natCast_nonneg _, rfl⟩ ⟨Int.natCast_nonneg _, rfl⟩ (zScn_t5 ho2) (zScn_t5 ho) (by decide) ?_
  refine zW.go 1 108 [(2, ((o : Nat) : Int)), (2, ((o2 : Nat) : Int))] [(2, ((o2 : Nat) : Int))] _ rfl ?_
  refine w_getL (q := o2) (v := ((o2 + 6 : Nat) : Int)) rfl (by decide) (pc' := 111) rfl ⟨Int.natCast_nonneg _, rfl⟩ (zScn_t0 ho2) rfl (zScn_r0_8 ho2) ?_
  refine zW.go 2 113 [(2, ((o : Nat) : Int)), (2, ((o2 : Nat) : Int))] [(2, ((o : Nat) : Int)), (0, 0), (2, ((o2 + 6 : Nat) : Int))] _ rfl ?_
  refine w_getL (q := o) (v := ((o + 6 : Nat) : Int)) rfl (by decide) (pc' := 116) rfl ⟨Int.natCast_nonneg _, rfl⟩ (zScn_t0 ho) rfl (zScn_r0_8 ho) ?_
  refine zW.go 2 119 [(2, ((o : Nat) : Int)), (2, ((o2 : Nat) : Int))] [(0, 6), (0, 0), (2, ((o + 6 : Nat) : Int)), (0, 0), (2, ((o2 + 6 : Nat) : Int))] _ rfl ?_
  refine w_copy (q := (o + 6)) (q1 := (o2 + 6)) rfl (by decide) (pc' := 122) rfl ⟨Int.natCast_nonneg _, rfl⟩ ⟨Int.natCast_nonneg _, rfl⟩ (zScn_t6 ho2) (zScn_t6 ho) (by decide) ?_
  refine zW.go 1 123 [(2, ((o : Nat) : Int)), (2, ((o2 : Nat) : Int))] [(2, ((o2 : Nat) : Int))] _ rfl ?_
  refine w_getL (q := o2) (v := ((o2 + 7 : Nat) : Int)) rfl (by decide) (pc' := 126) rfl ⟨Int.natCast_nonneg _, rfl⟩ (zScn_t0 ho2) rfl (zScn_r0_9 ho2) ?_
  refine zW.go 2 128 [(2, ((o : Nat) : Int)), (2, ((o2 : Nat) : Int))] [(2, ((o : Nat) : Int)), (0, 0), (2, ((o2 + 7 : Nat) : Int))] _ rfl ?_
  refine w_getL (q := o) (v := ((o + 7 : Nat) : Int)) rfl (by decide) (pc' := 131) rfl ⟨Int.natCast_nonneg _, rfl⟩ (zScn_t0 ho) rfl (zScn_r0_9 ho) ?_
  refine zW.go 2 134 [(2, ((o : Nat) : Int)), (2, ((o2 : Nat) : Int))] [(0, 6), (0, 0), (2, ((o + 7 : Nat) : Int)), (0, 0), (2, ((o2 + 7 : Nat) : Int))] _ rfl ?_
  refine w_copy (q := (o + 7)) (q1 := (o2 + 7)) rfl (by decide) (pc' := 137) rfl ⟨Int.natCast_nonneg _, rfl⟩ ⟨Int.natCast_nonneg _, rfl⟩ (zScn_t7 ho2) (zScn_t7 ho) (by decide) ?_
  refine zW.go 1 138 [(2, ((o : Nat) : Int)), (2, ((o2 : Nat) : Int))] [(2, ((o2 : Nat) : Int))] _ rfl ?_
  refine w_getL (q := o2) (v := ((o2 + 8 : Nat) : Int)) rfl (by decide) (pc' := 141) rfl ⟨Int.natCast_nonneg _, rfl⟩ (zScn_t0 ho2) rfl (zScn_r0_10 ho2) ?_
  refine zW.go 2 143 [(2, ((o : Nat) : Int)), (2, ((o2 : Nat) : Int))] [(2, ((o : Nat) : Int)), (0, 0), (2, ((o2 + 8 : Nat) : Int))] _ rfl ?_
  refine w_getL (q := o) (v := ((o + 8 : Nat) : Int)) rfl (by decide) (pc' := 146) rfl ⟨Int.natCast_nonneg _, rfl⟩ (zScn_t0 ho) rfl (zScn_r0_10 ho) ?_
  refine zW.go 2 148 [(2, ((o : Nat) : Int)), (2, ((o2 : Nat) : Int))] [(2, ((o : Nat) : Int)), (0, 0), (2, ((o + 8 : Nat) : Int)), (0, 0), (2, ((o2 + 8 : Nat) : Int))] _ rfl ?_
  refine w_getL (q := o) (v := ((o + 8 : Nat) : Int)) rfl (by decide) (pc' := 151) rfl ⟨Int.natCast_nonneg _, rfl⟩ (zScn_t0 ho) rfl (zScn_r0_10 ho) ?_
  refine w_alen (q := (o + 8)) rfl (by decide) (pc' := 152) rfl ⟨Int.natCast_nonneg _, rfl⟩ (zScn_t8 ho) (by decide) ?_
  refine w_copy (q := (o + 8)) (q1 := (o2 + 8)) rfl (by decide) (pc' := 155) rfl ⟨Int.natCast_nonneg _, rfl⟩ ⟨Int.natCast_nonneg _, rfl⟩ (zScn_t8 ho2) (zScn_t8 ho) (by decide) ?_
  exact w_retv rfl rfl h
def L_scene_floating_4 (X : zX) (d : Nat) (rf : zF) (Q : Int → zF → Prop) (mem : zF) (o : Nat) (x1 : Int) (x2 : Int) : Prop := zW X d 87 4 [(2, ((o : Nat) : Int)), (0, x1), (0, x2)] [] (zty, rf, mem) (qi rf Q)
set_option maxRecDepth 4000 in
theorem s_scene_floating_4 {X : zX} {d : Nat} {rf mem : zF} {Q : Int → zF → Prop} (hR : zall rf zRK = true) {o : Nat} (ho : zScn rf o) {x1 : Int} {x2 : Int} (h : (inI x2) ∧ ((6 ≤ x2 → Q x1 mem) ∧ (¬ 6 ≤ x2 → (0 ≤ x2 ∧ x2 < 6) ∧ ((inI (mem (o + 2) (x2).toNat)) ∧ ((¬ (mem (o + 2) (x2).toNat) = (-1) → L_scene_floating_4 X d rf Q mem o (x1 + 1) (x2 + 1)) ∧ ((mem (o + 2) (x2).toNat) = (-1) → L_scene_floating_4 X d rf Q mem o (x1 + 0) (x2 + 1))))))) : L_scene_floating_4 X d rf Q mem o x1 x2 := by
  refine zW.go 2 7 [(2, ((o : Nat) : Int)), (0, x1), (0, x2)] [(0, 6), (0, x2)] _ rfl ?_
  refine w_ic_ge rfl (by decide) (pc' := 10) rfl ⟨h.1, by decide⟩ (fun c1 => ?_) (fun c1 => ?_)
  · have h := h.2.1 c1
    refine zW.go 1 35 [(2, ((o : Nat) : Int)), (0, x1), (0, x2)] [(0, x1)] _ rfl ?_
    exact w_reti rfl rfl h
  · have h := h.2.2 c1
    refine zW.go 2 12 [(2, ((o : Nat) : Int)), (0, x1), (0, x2)] [(2, ((o : Nat) : Int)), (0, x1)] _ rfl ?_
    refine w_getL (q := o) (v := ((o + 2 : Nat) : Int)) rfl (by decide) (pc' := 15) rfl ⟨Int.natCast_nonneg _, rfl⟩ (zScn_t0 ho) rfl (zScn_r0_4 ho) ?_
    refine zW.go 1 16 [(2, ((o : Nat) : Int)), (0, x1), (0, x2)] [(0, x2), (2, ((o + 2 : Nat) : Int)), (0, x1)] _ rfl ?_
    obtain ⟨g, h⟩ := h
    refine w_iald (q := (o + 2)) rfl (by decide) (pc' := 17) rfl ⟨Int.natCast_nonneg _, rfl⟩ (zScn_t2 ho) g rfl ?_
    refine zW.go 1 18 [(2, ((o : Nat) : Int)), (0, x1), (0, x2)] [(0, (-1)), (0, (mem (o + 2) (x2).toNat)), (0, x1)] _ rfl ?_
    refine w_ic_ne rfl (by decide) (pc' := 21) rfl ⟨h.1, by decide⟩ (fun c2 => ?_) (fun c2 => ?_)
    · have h := h.2.1 c2
      refine zW.go 5 4 [(2, ((o : Nat) : Int)), (0, (x1 + 1)), (0, (x2 + 1))] [] _ rfl ?_
      exact h
    · have h := h.2.2 c2
      refine zW.go 6 4 [(2, ((o : Nat) : Int)), (0, (x1 + 0)), (0, (x2 + 1))] [] _ rfl ?_
      exact h
set_option maxRecDepth 4000 in
theorem s_scene_floating {X : zX} {d : Nat} {rf mem : zF} {Q : Int → zF → Prop} (hR : zall rf zRK = true) {o : Nat} (ho : zScn rf o) (h : L_scene_floating_4 X d rf Q mem o 0 0) : Ci X d 87 [(2, ((o : Nat) : Int))] rf mem Q := by
  show zW X d 87 0 [(2, ((o : Nat) : Int)), (9, 0), (9, 0)] [] (zty, rf, mem) (qi rf Q)
  refine zW.go 4 4 [(2, ((o : Nat) : Int)), (0, 0), (0, 0)] [] _ rfl ?_
  exact h
def L_scene_heirIn_2 (X : zX) (d : Nat) (rf : zF) (Q : Int → zF → Prop) (mem : zF) (o : Nat) (x1 : Int) (x2 : Int) : Prop := zW X d 88 2 [(2, ((o : Nat) : Int)), (0, x1), (0, x2)] [] (zty, rf, mem) (qi rf Q)
set_option maxRecDepth 4000 in
theorem s_scene_heirIn_2 {X : zX} {d : Nat} {rf mem : zF} {Q : Int → zF → Prop} (hR : zall rf zRK = true) {o : Nat} (ho : zScn rf o) {x1 : Int} {x2 : Int} (h : (inI x2) ∧ ((6 ≤ x2 → Q (-1) mem) ∧ (¬ 6 ≤ x2 → (0 ≤ x2 ∧ x2 < 6) ∧ ((inI (mem (o + 1) (x2).toNat) ∧ inI x1) ∧ ((¬ (mem (o + 1) (x2).toNat) = x1 → L_scene_heirIn_2 X d rf Q mem o x1 (x2 + 1)) ∧ ((mem (o + 1) (x2).toNat) = x1 → (inI x1) ∧ ((x1 = (-1) → L_scene_heirIn_2 X d rf Q mem o x1 (x2 + 1)) ∧ (¬ x1 = (-1) → Q x2 mem)))))))) : L_scene_heirIn_2 X d rf Q mem o x1 x2 := by
  refine zW.go 2 5 [(2, ((o : Nat) : Int)), (0, x1), (0, x2)] [(0, 6), (0, x2)] _ rfl ?_
  refine w_ic_ge rfl (by decide) (pc' := 8) rfl ⟨h.1, by decide⟩ (fun c1 => ?_) (fun c1 => ?_)
  · have h := h.2.1 c1
    refine zW.go 1 32 [(2, ((o : Nat) : Int)), (0, x1), (0, x2)] [(0, (-1))] _ rfl ?_
    exact w_reti rfl rfl h
  · have h := h.2.2 c1
    refine zW.go 1 9 [(2, ((o : Nat) : Int)), (0, x1), (0, x2)] [(2, ((o : Nat) : Int))] _ rfl ?_
    refine w_getL (q := o) (v := ((o + 1 : Nat) : Int)) rfl (by decide) (pc' := 12) rfl ⟨Int.natCast_nonneg _, rfl⟩ (zScn_t0 ho) rfl (zScn_r0_3 ho) ?_
    refine zW.go 1 13 [(2, ((o : Nat) : Int)), (0, x1), (0, x2)] [(0, x2), (2, ((o + 1 : Nat) : Int))] _ rfl ?_
    obtain ⟨g, h⟩ := h
    refine w_iald (q := (o + 1)) rfl (by decide) (pc' := 14) rfl ⟨Int.natCast_nonneg _, rfl⟩ (zScn_t1 ho) g rfl ?_
    refine zW.go 1 15 [(2, ((o : Nat) : Int)), (0, x1), (0, x2)] [(0, x1), (0, (mem (o + 1) (x2).toNat))] _ rfl ?_
    refine w_ic_ne rfl (by decide) (pc' := 18) rfl h.1 (fun c2 => ?_) (fun c2 => ?_)
    · have h := h.2.1 c2
      refine zW.go 2 2 [(2, ((o : Nat) : Int)), (0, x1), (0, (x2 + 1))] [] _ rfl ?_
      exact h
    · have h := h.2.2 c2
      refine zW.go 2 20 [(2, ((o : Nat) : Int)), (0, x1), (0, x2)] [(0, (-1)), (0, x1)] _ rfl ?_
      refine w_ic_eq rfl (by decide) (pc' := 23) rfl ⟨h.1, by decide⟩ (fun c3 => ?_) (fun c3 => ?_)
      · have h := h.2.1 c3
        refine zW.go 2 2 [(2, ((o : Nat) : Int)), (0, x1), (0, (x2 + 1))] [] _ rfl ?_
        exact h
      · have h := h.2.2 c3
        refine zW.go 1 24 [(2, ((o : Nat) : Int)), (0, x1), (0, x2)] [(0, x2)] _ rfl ?_
        exact w_reti rfl rfl h
set_option maxRecDepth 4000 in
theorem s_scene_heirIn {X : zX} {d : Nat} {rf mem : zF} {Q : Int → zF → Prop} (hR : zall rf zRK = true) {o : Nat} (ho : zScn rf o) {x1 : Int} (h : L_scene_heirIn_2 X d rf Q mem o x1 0) : Ci X d 88 [(2, ((o : Nat) : Int)), (0, x1)] rf mem Q := by
  show zW X d 88 0 [(2, ((o : Nat) : Int)), (0, x1), (9, 0)] [] (zty, rf, mem) (qi rf Q)
  refine zW.go 2 2 [(2, ((o : Nat) : Int)), (0, x1), (0, 0)] [] _ rfl ?_
  exact h
def L_scene_bubbleWith_2 (X : zX) (d : Nat) (rf : zF) (Q : Int → zF → Prop) (mem : zF) (o : Nat) (x1 : Int) (x2 : Int) : Prop := zW X d 89 2 [(2, ((o : Nat) : Int)), (0, x1), (0, x2)] [] (zty, rf, mem) (qi rf Q)
set_option maxRecDepth 4000 in
theorem s_scene_bubbleWith_2 {X : zX} {d : Nat} {rf mem : zF} {Q : Int → zF → Prop} (hR : zall rf zRK = true) {o : Nat} (ho : zScn rf o) {x1 : Int} {x2 : Int} (h : (inI x2) ∧ ((6 ≤ x2 → Q (-1) mem) ∧ (¬ 6 ≤ x2 → (0 ≤ x2 ∧ x2 < 6) ∧ ((inI (zand (zshr (mem (o + 5) (x2).toNat) x1) 1)) ∧ ((¬ (zand (zshr (mem (o + 5) (x2).toNat) x1) 1) = 1 → L_scene_bubbleWith_2 X d rf Q mem o x1 (x2 + 1)) ∧ ((zand (zshr (mem (o + 5) (x2).toNat) x1) 1) = 1 → Q x2 mem)))))) : L_scene_bubbleWith_2 X d rf Q mem o x1 x2 := by
  refine zW.go 2 5 [(2, ((o : Nat) : Int)), (0, x1), (0, x2)] [(0, 6), (0, x2)] _ rfl ?_
  refine w_ic_ge rfl (by decide) (pc' := 8) rfl ⟨h.1, by decide⟩ (fun c1 => ?_) (fun c1 => ?_)
  · have h := h.2.1 c1
    refine zW.go 1 31 [(2, ((o : Nat) : Int)), (0, x1), (0, x2)] [(0, (-1))] _ rfl ?_
    exact w_reti rfl rfl h
  · have h := h.2.2 c1
    refine zW.go 1 9 [(2, ((o : Nat) : Int)), (0, x1), (0, x2)] [(2, ((o : Nat) : Int))] _ rfl ?_
    refine w_getL (q := o) (v := ((o + 5 : Nat) : Int)) rfl (by decide) (pc' := 12) rfl ⟨Int.natCast_nonneg _, rfl⟩ (zScn_t0 ho) rfl (zScn_r0_7 ho) ?_
    refine zW.go 1 13 [(2, ((o : Nat) : Int)), (0, x1), (0, x2)] [(0, x2), (2, ((o + 5 : Nat) : Int))] _ rfl ?_
    obtain ⟨g, h⟩ := h
    refine w_iald (q := (o + 5)) rfl (by decide) (pc' := 14) rfl ⟨Int.natCast_nonneg _, rfl⟩ (zScn_t5 ho) g rfl ?_
    refine zW.go 5 19 [(2, ((o : Nat) : Int)), (0, x1), (0, x2)] [(0, 1), (0, (zand (zshr (mem (o + 5) (x2).toNat) x1) 1))] _ rfl ?_
    refine w_ic_ne rfl (by decide) (pc' := 22) rfl ⟨h.1, by decide⟩ (fun c2 => ?_) (fun c2 => ?_)
    · have h := h.2.1 c2
      refine zW.go 2 2 [(2, ((o : Nat) : Int)), (0, x1), (0, (x2 + 1))] [] _ rfl ?_
      exact h
    · have h := h.2.2 c2
      refine zW.go 1 23 [(2, ((o : Nat) : Int)), (0, x1), (0, x2)] [(0, x2)] _ rfl ?_
      exact w_reti rfl rfl h
set_option maxRecDepth 4000 in
theorem s_scene_bubbleWith {X : zX} {d : Nat} {rf mem : zF} {Q : Int → zF → Prop} (hR : zall rf zRK = true) {o : Nat} (ho : zScn rf o) {x1 : Int} (h : L_scene_bubbleWith_2 X d rf Q mem o x1 0) : Ci X d 89 [(2, ((o : Nat) : Int)), (0, x1)] rf mem Q := by
  show zW X d 89 0 [(2, ((o : Nat) : Int)), (0, x1), (9, 0)] [] (zty, rf, mem) (qi rf Q)
  refine zW.go 2 2 [(2, ((o : Nat) : Int)), (0, x1), (0, 0)] [] _ rfl ?_
  exact h
def L_scene_deedsOwnedBy_4 (X : zX) (d : Nat) (rf : zF) (Q : Int → zF → Prop) (mem : zF) (o : Nat) (x1 : Int) (x2 : Int) (x3 : Int) : Prop := zW X d 90 4 [(2, ((o : Nat) : Int)), (0, x1), (0, x2), (0, x3)] [] (zty, rf, mem) (qi rf Q)
set_option maxRecDepth 4000 in
theorem s_scene_deedsOwnedBy_4 {X : zX} {d : Nat} {rf mem : zF} {Q : Int → zF → Prop} (hR : zall rf zRK = true) {o : Nat} (ho : zScn rf o) {x1 : Int} {x2 : Int} {x3 : Int} (h : (inI x3) ∧ ((6 ≤ x3 → Q x2 mem) ∧ (¬ 6 ≤ x3 → (0 ≤ x3 ∧ x3 < 6) ∧ ((inI (mem (o + 6) (x3).toNat) ∧ inI x1) ∧ ((¬ (mem (o + 6) (x3).toNat) = x1 → L_scene_deedsOwnedBy_4 X d rf Q mem o x1 (x2 + 0) (x3 + 1)) ∧ ((mem (o + 6) (x3).toNat) = x1 → L_scene_deedsOwnedBy_4 X d rf Q mem o x1 (x2 + 1) (x3 + 1))))))) : L_scene_deedsOwnedBy_4 X d rf Q mem o x1 x2 x3 := by
  refine zW.go 2 7 [(2, ((o : Nat) : Int)), (0, x1), (0, x2), (0, x3)] [(0, 6), (0, x3)] _ rfl ?_
  refine w_ic_ge rfl (by decide) (pc' := 10) rfl ⟨h.1, by decide⟩ (fun c1 => ?_) (fun c1 => ?_)
  · have h := h.2.1 c1
    refine zW.go 1 35 [(2, ((o : Nat) : Int)), (0, x1), (0, x2), (0, x3)] [(0, x2)] _ rfl ?_
    exact w_reti rfl rfl h
  · have h := h.2.2 c1
    refine zW.go 2 12 [(2, ((o : Nat) : Int)), (0, x1), (0, x2), (0, x3)] [(2, ((o : Nat) : Int)), (0, x2)] _ rfl ?_
    refine w_getL (q := o) (v := ((o + 6 : Nat) : Int)) rfl (by decide) (pc' := 15) rfl ⟨Int.natCast_nonneg _, rfl⟩ (zScn_t0 ho) rfl (zScn_r0_8 ho) ?_
    refine zW.go 1 16 [(2, ((o : Nat) : Int)), (0, x1), (0, x2), (0, x3)] [(0, x3), (2, ((o + 6 : Nat) : Int)), (0, x2)] _ rfl ?_
    obtain ⟨g, h⟩ := h
    refine w_iald (q := (o + 6)) rfl (by decide) (pc' := 17) rfl ⟨Int.natCast_nonneg _, rfl⟩ (zScn_t6 ho) g rfl ?_
    refine zW.go 1 18 [(2, ((o : Nat) : Int)), (0, x1), (0, x2), (0, x3)] [(0, x1), (0, (mem (o + 6) (x3).toNat)), (0, x2)] _ rfl ?_
    refine w_ic_ne rfl (by decide) (pc' := 21) rfl h.1 (fun c2 => ?_) (fun c2 => ?_)
    · have h := h.2.1 c2
      refine zW.go 5 4 [(2, ((o : Nat) : Int)), (0, x1), (0, (x2 + 0)), (0, (x3 + 1))] [] _ rfl ?_
      exact h
    · have h := h.2.2 c2
      refine zW.go 6 4 [(2, ((o : Nat) : Int)), (0, x1), (0, (x2 + 1)), (0, (x3 + 1))] [] _ rfl ?_
      exact h
set_option maxRecDepth 4000 in
theorem s_scene_deedsOwnedBy {X : zX} {d : Nat} {rf mem : zF} {Q : Int → zF → Prop} (hR : zall rf zRK = true) {o : Nat} (ho : zScn rf o) {x1 : Int} (h : L_scene_deedsOwnedBy_4 X d rf Q mem o x1 0 0) : Ci X d 90 [(2, ((o : Nat) : Int)), (0, x1)] rf mem Q := by
  show zW X d 90 0 [(2, ((o : Nat) : Int)), (0, x1), (9, 0), (9, 0)] [] (zty, rf, mem) (qi rf Q)
  refine zW.go 4 4 [(2, ((o : Nat) : Int)), (0, x1), (0, 0), (0, 0)] [] _ rfl ?_
  exact h
def L_scene_rentOwnedBy_4 (X : zX) (d : Nat) (rf : zF) (Q : Int → zF → Prop) (mem : zF) (o : Nat) (x1 : Int) (x2 : Int) (x3 : Int) : Prop := zW X d 91 4 [(2, ((o : Nat) : Int)), (0, x1), (0, x2), (0, x3)] [] (zty, rf, mem) (qi rf Q)
set_option maxRecDepth 4000 in
theorem s_scene_rentOwnedBy_4 {X : zX} {d : Nat} {rf mem : zF} {Q : Int → zF → Prop} (hR : zall rf zRK = true) {o : Nat} (ho : zScn rf o) {x1 : Int} {x2 : Int} {x3 : Int} (h : (inI x3) ∧ ((6 ≤ x3 → Q x2 mem) ∧ (¬ 6 ≤ x3 → (0 ≤ x3 ∧ x3 < 6) ∧ ((inI (mem (o + 6) (x3).toNat) ∧ inI x1) ∧ ((¬ (mem (o + 6) (x3).toNat) = x1 → L_scene_rentOwnedBy_4 X d rf Q mem o x1 (x2 + 0) (x3 + 1)) ∧ ((mem (o + 6) (x3).toNat) = x1 → (0 ≤ x3 ∧ x3 < 6) ∧ (L_scene_rentOwnedBy_4 X d rf Q mem o x1 (x2 + (mem (o + 7) (x3).toNat)) (x3 + 1)))))))) : L_scene_rentOwnedBy_4 X d rf Q mem o x1 x2 x3 := by
  refine zW.go 2 7 [(2, ((o : Nat) : Int)), (0, x1), (0, x2), (0, x3)] [(0, 6), (0, x3)] _ rfl ?_
  refine w_ic_ge rfl (by decide) (pc' := 10) rfl ⟨h.1, by decide⟩ (fun c1 => ?_) (fun c1 => ?_)
  · have h := h.2.1 c1
    refine zW.go 1 40 [(2, ((o : Nat) : Int)), (0, x1), (0, x2), (0, x3)] [(0, x2)] _ rfl ?_
    exact w_reti rfl rfl h
  · have h := h.2.2 c1
    refine zW.go 2 12 [(2, ((o : Nat) : Int)), (0, x1), (0, x2), (0, x3)] [(2, ((o : Nat) : Int)), (0, x2)] _ rfl ?_
    refine w_getL (q := o) (v := ((o + 6 : Nat) : Int)) rfl (by decide) (pc' := 15) rfl ⟨Int.natCast_nonneg _, rfl⟩ (zScn_t0 ho) rfl (zScn_r0_8 ho) ?_
    refine zW.go 1 16 [(2, ((o : Nat) : Int)), (0, x1), (0, x2), (0, x3)] [(0, x3), (2, ((o + 6 : Nat) : Int)), (0, x2)] _ rfl ?_
    obtain ⟨g, h⟩ := h
    refine w_iald (q := (o + 6)) rfl (by decide) (pc' := 17) rfl ⟨Int.natCast_nonneg _, rfl⟩ (zScn_t6 ho) g rfl ?_
    refine zW.go 1 18 [(2, ((o : Nat) : Int)), (0, x1), (0, x2), (0, x3)] [(0, x1), (0, (mem (o + 6) (x3).toNat)), (0, x2)] _ rfl ?_
    refine w_ic_ne rfl (by decide) (pc' := 21) rfl h.1 (fun c2 => ?_) (fun c2 => ?_)
    · have h := h.2.1 c2
      refine zW.go 5 4 [(2, ((o : Nat) : Int)), (0, x1), (0, (x2 + 0)), (0, (x3 + 1))] [] _ rfl ?_
      exact h
    · have h := h.2.2 c2
      refine zW.go 1 22 [(2, ((o : Nat) : Int)), (0, x1), (0, x2), (0, x3)] [(2, ((o : Nat) : Int)), (0, x2)] _ rfl ?_
      refine w_getL (q := o) (v := ((o + 7 : Nat) : Int)) rfl (by decide) (pc' := 25) rfl ⟨Int.natCast_nonneg _, rfl⟩ (zScn_t0 ho) rfl (zScn_r0_9 ho) ?_
      refine zW.go 1 26 [(2, ((o : Nat) : Int)), (0, x1), (0, x2), (0, x3)] [(0, x3), (2, ((o + 7 : Nat) : Int)), (0, x2)] _ rfl ?_
      obtain ⟨g, h⟩ := h
      refine w_iald (q := (o + 7)) rfl (by decide) (pc' := 27) rfl ⟨Int.natCast_nonneg _, rfl⟩ (zScn_t7 ho) g rfl ?_
      refine zW.go 5 4 [(2, ((o : Nat) : Int)), (0, x1), (0, (x2 + (mem (o + 7) (x3).toNat))), (0, (x3 + 1))] [] _ rfl ?_
      exact h
set_option maxRecDepth 4000 in
theorem s_scene_rentOwnedBy {X : zX} {d : Nat} {rf mem : zF} {Q : Int → zF → Prop} (hR : zall rf zRK = true) {o : Nat} (ho : zScn rf o) {x1 : Int} (h : L_scene_rentOwnedBy_4 X d rf Q mem o x1 0 0) : Ci X d 91 [(2, ((o : Nat) : Int)), (0, x1)] rf mem Q := by
  show zW X d 91 0 [(2, ((o : Nat) : Int)), (0, x1), (9, 0), (9, 0)] [] (zty, rf, mem) (qi rf Q)
  refine zW.go 4 4 [(2, ((o : Nat) : Int)), (0, x1), (0, 0), (0, 0)] [] _ rfl ?_
  exact h
def L_scene_rentOfAll_4 (X : zX) (d : Nat) (rf : zF) (Q : Int → zF → Prop) (mem : zF) (o : Nat) (x1 : Int) (x2 : Int) : Prop := zW X d 92 4 [(2, ((o : Nat) : Int)), (0, x1), (0, x2)] [] (zty, rf, mem) (qi rf Q)
set_option maxRecDepth 4000 in
theorem s_scene_rentOfAll_4 {X : zX} {d : Nat} {rf mem : zF} {Q : Int → zF → Prop} (hR : zall rf zRK = true) {o : Nat} (ho : zScn rf o) {x1 : Int} {x2 : Int} (h : (inI x2) ∧ ((6 ≤ x2 → Q x1 mem) ∧ (¬ 6 ≤ x2 → (0 ≤ x2 ∧ x2 < 6) ∧ (L_scene_rentOfAll_4 X d rf Q mem o (x1 + (mem (o + 7) (x2).toNat)) (x2 + 1))))) : L_scene_rentOfAll_4 X d rf Q mem o x1 x2 := by
  refine zW.go 2 7 [(2, ((o : Nat) : Int)), (0, x1), (0, x2)] [(0, 6), (0, x2)] _ rfl ?_
  refine w_ic_ge rfl (by decide) (pc' := 10) rfl ⟨h.1, by decide⟩ (fun c1 => ?_) (fun c1 => ?_)
  · have h := h.2.1 c1
    refine zW.go 1 26 [(2, ((o : Nat) : Int)), (0, x1), (0, x2)] [(0, x1)] _ rfl ?_
    exact w_reti rfl rfl h
  · have h := h.2.2 c1
    refine zW.go 2 12 [(2, ((o : Nat) : Int)), (0, x1), (0, x2)] [(2, ((o : Nat) : Int)), (0, x1)] _ rfl ?_
    refine w_getL (q := o) (v := ((o + 7 : Nat) : Int)) rfl (by decide) (pc' := 15) rfl ⟨Int.natCast_nonneg _, rfl⟩ (zScn_t0 ho) rfl (zScn_r0_9 ho) ?_
    refine zW.go 1 16 [(2, ((o : Nat) : Int)), (0, x1), (0, x2)] [(0, x2), (2, ((o + 7 : Nat) : Int)), (0, x1)] _ rfl ?_
    obtain ⟨g, h⟩ := h
    refine w_iald (q := (o + 7)) rfl (by decide) (pc' := 17) rfl ⟨Int.natCast_nonneg _, rfl⟩ (zScn_t7 ho) g rfl ?_
    refine zW.go 4 4 [(2, ((o : Nat) : Int)), (0, (x1 + (mem (o + 7) (x2).toNat))), (0, (x2 + 1))] [] _ rfl ?_
    exact h
set_option maxRecDepth 4000 in
theorem s_scene_rentOfAll {X : zX} {d : Nat} {rf mem : zF} {Q : Int → zF → Prop} (hR : zall rf zRK = true) {o : Nat} (ho : zScn rf o) (h : L_scene_rentOfAll_4 X d rf Q mem o 0 0) : Ci X d 92 [(2, ((o : Nat) : Int))] rf mem Q := by
  show zW X d 92 0 [(2, ((o : Nat) : Int)), (9, 0), (9, 0)] [] (zty, rf, mem) (qi rf Q)
  refine zW.go 4 4 [(2, ((o : Nat) : Int)), (0, 0), (0, 0)] [] _ rfl ?_
  exact h
set_option maxRecDepth 4000 in
theorem s_scene_joinTwo {X : zX} {d : Nat} {rf mem : zF} {Q : zF → Prop} (hR : zall rf zRK = true) {o : Nat} (ho : zScn rf o) {x1 : Int} {x2 : Int} (h : Ci X d 96 [(0, x1)] rf mem (fun r1 mem2 => (inI r1) ∧ ((r1 = 0 → Q mem2) ∧ (¬ r1 = 0 → Ci X d 96 [(0, x2)] rf mem2 (fun r4 mem5 => (inI r4) ∧ ((r4 = 0 → Q mem5) ∧ (¬ r4 = 0 → (0 ≤ x1 ∧ x1 < 6) ∧ ((0 ≤ x2 ∧ x2 < 6) ∧ (Ci X d 320 [(0, (mem5 (o + 3) (x1).toNat)), (0, (mem5 (o + 3) (x2).toNat))] rf mem5 (fun r7 mem8 => (0 ≤ x1 ∧ x1 < 6) ∧ ((0 ≤ x1 ∧ x1 < 6) ∧ ((0 ≤ x2 ∧ x2 < 6) ∧ (Ci X d 321 [(0, 9), (0, (((zup mem8 (o + 3) (x1).toNat r7) (o + 4) (x1).toNat) + ((zup mem8 (o + 3) (x1).toNat r7) (o + 4) (x2).toNat)))] rf (zup mem8 (o + 3) (x1).toNat r7) (fun r9 mem10 => (0 ≤ x1 ∧ x1 < 6) ∧ ((0 ≤ x1 ∧ x1 < 6) ∧ ((0 ≤ x2 ∧ x2 < 6) ∧ ((0 ≤ x1 ∧ x1 < 6) ∧ (Cv X d 97 [(2, ((o : Nat) : Int)), (0, x2)] rf (zup (zup mem10 (o + 4) (x1).toNat r9) (o + 5) (x1).toNat (zor ((zup mem10 (o + 4) (x1).toNat r9) (o + 5) (x1).toNat) ((zup mem10 (o + 4) (x1).toNat r9) (o + 5) (x2).toNat))) (fun mem11 => Q mem11))))))))))))))))))) : Cv X (d + 1) 93 [(2, ((o : Nat) : Int)), (0, x1), (0, x2)] rf mem Q := by
  show zW X (d + 1) 93 0 [(2, ((o : Nat) : Int)), (0, x1), (0, x2)] [] (zty, rf, mem) (qv rf Q)
  refine zW.go 1 1 [(2, ((o : Nat) : Int)), (0, x1), (0, x2)] [(0, x1)] _ rfl ?_
  refine w_calli (as := [(0, x1)]) [] 4 rfl rfl rfl rfl (Nat.le_of_ble_eq_true rfl) (Nat.le_of_ble_eq_true rfl) (Nat.le_of_ble_eq_true rfl) (Or.inl rfl) (Ci.imp h (fun r1 mem2 h => ?_))
  refine w_if_eq rfl (by decide) (pc' := 7) rfl h.1 (fun c3 => ?_) (fun c3 => ?_)
  · have h := h.2.1 c3
    exact w_retv rfl rfl h
  · have h := h.2.2 c3
    refine zW.go 1 8 [(2, ((o : Nat) : Int)), (0, x1), (0, x2)] [(0, x2)] _ rfl ?_
    refine w_calli (as := [(0, x2)]) [] 11 rfl rfl rfl rfl (Nat.le_of_ble_eq_true rfl) (Nat.le_of_ble_eq_true rfl) (Nat.le_of_ble_eq_true rfl) (Or.inl rfl) (Ci.imp h (fun r4 mem5 h => ?_))
    refine w_if_eq rfl (by decide) (pc' := 14) rfl h.1 (fun c6 => ?_) (fun c6 => ?_)
    · have h := h.2.1 c6
      exact w_retv rfl rfl h
    · have h := h.2.2 c6
      refine zW.go 1 15 [(2, ((o : Nat) : Int)), (0, x1), (0, x2)] [(2, ((o : Nat) : Int))] _ rfl ?_
      refine w_getL (q := o) (v := ((o + 3 : Nat) : Int)) rfl (by decide) (pc' := 18) rfl ⟨Int.natCast_nonneg _, rfl⟩ (zScn_t0 ho) rfl (zScn_r0_5 ho) ?_
      refine zW.go 2 20 [(2, ((o : Nat) : Int)), (0, x1), (0, x2)] [(2, ((o : Nat) : Int)), (0, x1), (2, ((o + 3 : Nat) : Int))] _ rfl ?_
      refine w_getL (q := o) (v := ((o + 3 : Nat) : Int)) rfl (by decide) (pc' := 23) rfl ⟨Int.natCast_nonneg _, rfl⟩ (zScn_t0 ho) rfl (zScn_r0_5 ho) ?_
      refine zW.go 1 24 [(2, ((o : Nat) : Int)), (0, x1), (0, x2)] [(0, x1), (2, ((o + 3 : Nat) : Int)), (0, x1), (2, ((o + 3 : Nat) : Int))] _ rfl ?_
      obtain ⟨g, h⟩ := h
      refine w_iald (q := (o + 3)) rfl (by decide) (pc' := 25) rfl ⟨Int.natCast_nonneg _, rfl⟩ (zScn_t3 ho) g rfl ?_
      refine zW.go 1 26 [(2, ((o : Nat) : Int)), (0, x1), (0, x2)] [(2, ((o : Nat) : Int)), (0, (mem5 (o + 3) (x1).toNat)), (0, x1), (2, ((o + 3 : Nat) : Int))] _ rfl ?_
      refine w_getL (q := o) (v := ((o + 3 : Nat) : Int)) rfl (by decide) (pc' := 29) rfl ⟨Int.natCast_nonneg _, rfl⟩ (zScn_t0 ho) rfl (zScn_r0_5 ho) ?_
      refine zW.go 1 30 [(2, ((o : Nat) : Int)), (0, x1), (0, x2)] [(0, x2), (2, ((o + 3 : Nat) : Int)), (0, (mem5 (o + 3) (x1).toNat)), (0, x1), (2, ((o + 3 : Nat) : Int))] _ rfl ?_
      obtain ⟨g, h⟩ := h
      refine w_iald (q := (o + 3)) rfl (by decide) (pc' := 31) rfl ⟨Int.natCast_nonneg _, rfl⟩ (zScn_t3 ho) g rfl ?_
      refine w_calli (as := [(0, (mem5 (o + 3) (x1).toNat)), (0, (mem5 (o + 3) (x2).toNat))]) [(0, x1), (2, ((o + 3 : Nat) : Int))] 34 rfl rfl rfl rfl (Nat.le_of_ble_eq_true rfl) (Nat.le_of_ble_eq_true rfl) (Nat.le_of_ble_eq_true rfl) (Or.inl rfl) (Ci.imp h (fun r7 mem8 h => ?_))
      obtain ⟨g, h⟩ := h
      refine w_iast (q := (o + 3)) rfl (by decide) (pc' := 35) rfl ⟨Int.natCast_nonneg _, rfl⟩ (zScn_t3 ho) g rfl ?_
      refine zW.go 1 36 [(2, ((o : Nat) : Int)), (0, x1), (0, x2)] [(2, ((o : Nat) : Int))] _ rfl ?_
      refine w_getL (q := o) (v := ((o + 4 : Nat) : Int)) rfl (by decide) (pc' := 39) rfl ⟨Int.natCast_nonneg _, rfl⟩ (zScn_t0 ho) rfl (zScn_r0_6 ho) ?_
      refine zW.go 3 43 [(2, ((o : Nat) : Int)), (0, x1), (0, x2)] [(2, ((o : Nat) : Int)), (0, 9), (0, x1), (2, ((o + 4 : Nat) : Int))] _ rfl ?_
      refine w_getL (q := o) (v := ((o + 4 : Nat) : Int)) rfl (by decide) (pc' := 46) rfl ⟨Int.natCast_nonneg _, rfl⟩ (zScn_t0 ho) rfl (zScn_r0_6 ho) ?_
      refine zW.go 1 47 [(2, ((o : Nat) : Int)), (0, x1), (0, x2)] [(0, x1), (2, ((o + 4 : Nat) : Int)), (0, 9), (0, x1), (2, ((o + 4 : Nat) : Int))] _ rfl ?_
      obtain ⟨g, h⟩ := h
      refine w_iald (q := (o + 4)) rfl (by decide) (pc' := 48) rfl ⟨Int.natCast_nonneg _, rfl⟩ (zScn_t4 ho) g rfl ?_
      refine zW.go 1 49 [(2, ((o : Nat) : Int)), (0, x1), (0, x2)] [(2, ((o : Nat) : Int)), (0, ((zup mem8 (o + 3) (x1).toNat r7) (o + 4) (x1).toNat)), (0, 9), (0, x1), (2, ((o + 4 : Nat) : Int))] _ rfl ?_
      refine w_getL (q := o) (v := ((o + 4 : Nat) : Int)) rfl (by decide) (pc' := 52) rfl ⟨Int.natCast_nonneg _, rfl⟩ (zScn_t0 ho) rfl (zScn_r0_6 ho) ?_
      refine zW.go 1 53 [(2, ((o : Nat) : Int)), (0, x1), (0, x2)] [(0, x2), (2, ((o + 4 : Nat) : Int)), (0, ((zup mem8 (o + 3) (x1).toNat r7) (o + 4) (x1).toNat)), (0, 9), (0, x1), (2, ((o + 4 : Nat) : Int))] _ rfl ?_
      obtain ⟨g, h⟩ := h
      refine w_iald (q := (o + 4)) rfl (by decide) (pc' := 54) rfl ⟨Int.natCast_nonneg _, rfl⟩ (zScn_t4 ho) g rfl ?_
      refine zW.go 1 55 [(2, ((o : Nat) : Int)), (0, x1), (0, x2)] [(0, (((zup mem8 (o + 3) (x1).toNat r7) (o + 4) (x1).toNat) + ((zup mem8 (o + 3) (x1).toNat r7) (o + 4) (x2).toNat))), (0, 9), (0, x1), (2, ((o + 4 : Nat) : Int))] _ rfl ?_
      refine w_calli (as := [(0, 9), (0, (((zup mem8 (o + 3) (x1).toNat r7) (o + 4) (x1).toNat) + ((zup mem8 (o + 3) (x1).toNat r7) (o + 4) (x2).toNat)))]) [(0, x1), (2, ((o + 4 : Nat) : Int))] 58 rfl rfl rfl rfl (Nat.le_of_ble_eq_true rfl) (Nat.le_of_ble_eq_true rfl) (Nat.le_of_ble_eq_true rfl) (Or.inl rfl) (Ci.imp h (fun r9 mem10 h => ?_))
      obtain ⟨g, h⟩ := h
      refine w_iast (q := (o + 4)) rfl (by decide) (pc' := 59) rfl ⟨Int.natCast_nonneg _, rfl⟩ (zScn_t4 ho) g rfl ?_
      refine zW.go 1 60 [(2, ((o : Nat) : Int)), (0, x1), (0, x2)] [(2, ((o : Nat) : Int))] _ rfl ?_
      refine w_getL (q := o) (v := ((o + 5 : Nat) : Int)) rfl (by decide) (pc' := 63) rfl ⟨Int.natCast_nonneg _, rfl⟩ (zScn_t0 ho) rfl (zScn_r0_7 ho) ?_
      refine zW.go 2 65 [(2, ((o : Nat) : Int)), (0, x1), (0, x2)] [(0, x1), (2, ((o + 5 : Nat) : Int)), (0, x1), (2, ((o + 5 : Nat) : Int))] _ rfl ?_
      obtain ⟨g, h⟩ := h
      refine w_iald (q := (o + 5)) rfl (by decide) (pc' := 66) rfl ⟨Int.natCast_nonneg _, rfl⟩ (zScn_t5 ho) g rfl ?_
      refine zW.go 1 67 [(2, ((o : Nat) : Int)), (0, x1), (0, x2)] [(2, ((o : Nat) : Int)), (0, ((zup mem10 (o + 4) (x1).toNat r9) (o + 5) (x1).toNat)), (0, x1), (2, ((o + 5 : Nat) : Int))] _ rfl ?_
      refine w_getL (q := o) (v := ((o + 5 : Nat) : Int)) rfl (by decide) (pc' := 70) rfl ⟨Int.natCast_nonneg _, rfl⟩ (zScn_t0 ho) rfl (zScn_r0_7 ho) ?_
      refine zW.go 1 71 [(2, ((o : Nat) : Int)), (0, x1), (0, x2)] [(0, x2), (2, ((o + 5 : Nat) : Int)), (0, ((zup mem10 (o + 4) (x1).toNat r9) (o + 5) (x1).toNat)), (0, x1), (2, ((o + 5 : Nat) : Int))] _ rfl ?_
      obtain ⟨g, h⟩ := h
      refine w_iald (q := (o + 5)) rfl (by decide) (pc' := 72) rfl ⟨Int.natCast_nonneg _, rfl⟩ (zScn_t5 ho) g rfl ?_
      refine zW.go 1 73 [(2, ((o : Nat) : Int)), (0, x1), (0, x2)] [(0, (zor ((zup mem10 (o + 4) (x1).toNat r9) (o + 5) (x1).toNat) ((zup mem10 (o + 4) (x1).toNat r9) (o + 5) (x2).toNat))), (0, x1), (2, ((o + 5 : Nat) : Int))] _ rfl ?_
      obtain ⟨g, h⟩ := h
      refine w_iast (q := (o + 5)) rfl (by decide) (pc' := 74) rfl ⟨Int.natCast_nonneg _, rfl⟩ (zScn_t5 ho) g rfl ?_
      refine zW.go 2 76 [(2, ((o : Nat) : Int)), (0, x1), (0, x2)] [(0, x2), (2, ((o : Nat) : Int))] _ rfl ?_
      refine w_callv (as := [(2, ((o : Nat) : Int)), (0, x2)]) [] 79 rfl rfl rfl rfl (Nat.le_of_ble_eq_true rfl) (Nat.le_of_ble_eq_true rfl) (Nat.le_of_ble_eq_true rfl) (Or.inr (zrcv_o (zScn_t0 ho))) (Cv.imp h (fun mem11 h => ?_))
      exact w_retv rfl rfl h
def L_scene_burst_20 (X : zX) (d : Nat) (rf : zF) (Q : zF → Prop) (mem : zF) (o : Nat) (x1 : Int) (x2 : Int) (x3 : Int) (x4 : Int) : Prop := zW X (d + 1) 94 20 [(2, ((o : Nat) : Int)), (0, x1), (0, x2), (0, x3), (0, x4)] [] (zty, rf, mem) (qv rf Q)
set_option maxRecDepth 4000 in
theorem s_scene_burst_20 {X : zX} {d : Nat} {rf mem : zF} {Q : zF → Prop} (hR : zall rf zRK = true) {o : Nat} (ho : zScn rf o) {x1 : Int} {x2 : Int} {x3 : Int} {x4 : Int} (h : (inI x4) ∧ ((6 ≤ x4 → Cv X d 97 [(2, ((o : Nat) : Int)), (0, x1)] rf mem (fun mem7 => Cv X d 98 [(2, ((o : Nat) : Int)), (0, x1), (0, x2), (0, x3)] rf mem7 (fun mem8 => Q mem8))) ∧ (¬ 6 ≤ x4 → (0 ≤ x1 ∧ x1 < 6) ∧ ((inI (zand (zshr (mem (o + 5) (x1).toNat) x4) 1)) ∧ ((¬ (zand (zshr (mem (o + 5) (x1).toNat) x4) 1) = 1 → L_scene_burst_20 X d rf Q mem o x1 x2 x3 (x4 + 1)) ∧ ((zand (zshr (mem (o + 5) (x1).toNat) x4) 1) = 1 → (0 ≤ x4 ∧ x4 < 6) ∧ (L_scene_burst_20 X d rf Q (zup mem (o + 6) (x4).toNat x2) o x1 x2 x3 (x4 + 1)))))))) : L_scene_burst_20 X d rf Q mem o x1 x2 x3 x4 := by
  refine zW.go 2 24 [(2, ((o : Nat) : Int)), (0, x1), (0, x2), (0, x3), (0, x4)] [(0, 6), (0, x4)] _ rfl ?_
  refine w_ic_ge rfl (by decide) (pc' := 27) rfl ⟨h.1, by decide⟩ (fun c6 => ?_) (fun c6 => ?_)
  · have h := h.2.1 c6
    refine zW.go 2 58 [(2, ((o : Nat) : Int)), (0, x1), (0, x2), (0, x3), (0, x4)] [(0, x1), (2, ((o : Nat) : Int))] _ rfl ?_
    refine w_callv (as := [(2, ((o : Nat) : Int)), (0, x1)]) [] 61 rfl rfl rfl rfl (Nat.le_of_ble_eq_true rfl) (Nat.le_of_ble_eq_true rfl) (Nat.le_of_ble_eq_true rfl) (Or.inr (zrcv_o (zScn_t0 ho))) (Cv.imp h (fun mem7 h => ?_))
    refine zW.go 4 65 [(2, ((o : Nat) : Int)), (0, x1), (0, x2), (0, x3), (0, x4)] [(0, x3), (0, x2), (0, x1), (2, ((o : Nat) : Int))] _ rfl ?_
    refine w_callv (as := [(2, ((o : Nat) : Int)), (0, x1), (0, x2), (0, x3)]) [] 68 rfl rfl rfl rfl (Nat.le_of_ble_eq_true rfl) (Nat.le_of_ble_eq_true rfl) (Nat.le_of_ble_eq_true rfl) (Or.inr (zrcv_o (zScn_t0 ho))) (Cv.imp h (fun mem8 h => ?_))
    exact w_retv rfl rfl h
  · have h := h.2.2 c6
    refine zW.go 1 28 [(2, ((o : Nat) : Int)), (0, x1), (0, x2), (0, x3), (0, x4)] [(2, ((o : Nat) : Int))] _ rfl ?_
    refine w_getL (q := o) (v := ((o + 5 : Nat) : Int)) rfl (by decide) (pc' := 31) rfl ⟨Int.natCast_nonneg _, rfl⟩ (zScn_t0 ho) rfl (zScn_r0_7 ho) ?_
    refine zW.go 1 32 [(2, ((o : Nat) : Int)), (0, x1), (0, x2), (0, x3), (0, x4)] [(0, x1), (2, ((o + 5 : Nat) : Int))] _ rfl ?_
    obtain ⟨g, h⟩ := h
    refine w_iald (q := (o + 5)) rfl (by decide) (pc' := 33) rfl ⟨Int.natCast_nonneg _, rfl⟩ (zScn_t5 ho) g rfl ?_
    refine zW.go 5 39 [(2, ((o : Nat) : Int)), (0, x1), (0, x2), (0, x3), (0, x4)] [(0, 1), (0, (zand (zshr (mem (o + 5) (x1).toNat) x4) 1))] _ rfl ?_
    refine w_ic_ne rfl (by decide) (pc' := 42) rfl ⟨h.1, by decide⟩ (fun c9 => ?_) (fun c9 => ?_)
    · have h := h.2.1 c9
      refine zW.go 2 20 [(2, ((o : Nat) : Int)), (0, x1), (0, x2), (0, x3), (0, (x4 + 1))] [] _ rfl ?_
      exact h
    · have h := h.2.2 c9
      refine zW.go 1 43 [(2, ((o : Nat) : Int)), (0, x1), (0, x2), (0, x3), (0, x4)] [(2, ((o : Nat) : Int))] _ rfl ?_
      refine w_getL (q := o) (v := ((o + 6 : Nat) : Int)) rfl (by decide) (pc' := 46) rfl ⟨Int.natCast_nonneg _, rfl⟩ (zScn_t0 ho) rfl (zScn_r0_8 ho) ?_
      refine zW.go 2 49 [(2, ((o : Nat) : Int)), (0, x1), (0, x2), (0, x3), (0, x4)] [(0, x2), (0, x4), (2, ((o + 6 : Nat) : Int))] _ rfl ?_
      obtain ⟨g, h⟩ := h
      refine w_iast (q := (o + 6)) rfl (by decide) (pc' := 50) rfl ⟨Int.natCast_nonneg _, rfl⟩ (zScn_t6 ho) g rfl ?_
      refine zW.go 2 20 [(2, ((o : Nat) : Int)), (0, x1), (0, x2), (0, x3), (0, (x4 + 1))] [] _ rfl ?_
      exact h
set_option maxRecDepth 4000 in
theorem s_scene_burst {X : zX} {d : Nat} {rf mem : zF} {Q : zF → Prop} (hR : zall rf zRK = true) {o : Nat} (ho : zScn rf o) {x1 : Int} {x2 : Int} (h : Ci X d 96 [(0, x1)] rf mem (fun r1 mem2 => (inI r1) ∧ ((r1 = 0 → Q mem2) ∧ (¬ r1 = 0 → (0 ≤ x1 ∧ x1 < 6) ∧ (Ci X d 317 [(0, (mem2 (o + 5) (x1).toNat))] rf mem2 (fun r4 mem5 => L_scene_burst_20 X d rf Q mem5 o x1 x2 r4 0)))))) : Cv X (d + 1) 94 [(2, ((o : Nat) : Int)), (0, x1), (0, x2)] rf mem Q := by
  show zW X (d + 1) 94 0 [(2, ((o : Nat) : Int)), (0, x1), (0, x2), (9, 0), (9, 0)] [] (zty, rf, mem) (qv rf Q)
  refine zW.go 1 1 [(2, ((o : Nat) : Int)), (0, x1), (0, x2), (9, 0), (9, 0)] [(0, x1)] _ rfl ?_
  refine w_calli (as := [(0, x1)]) [] 4 rfl rfl rfl rfl (Nat.le_of_ble_eq_true rfl) (Nat.le_of_ble_eq_true rfl) (Nat.le_of_ble_eq_true rfl) (Or.inl rfl) (Ci.imp h (fun r1 mem2 h => ?_))
  refine w_if_eq rfl (by decide) (pc' := 7) rfl h.1 (fun c3 => ?_) (fun c3 => ?_)
  · have h := h.2.1 c3
    exact w_retv rfl rfl h
  · have h := h.2.2 c3
    refine zW.go 1 8 [(2, ((o : Nat) : Int)), (0, x1), (0, x2), (9, 0), (9, 0)] [(2, ((o : Nat) : Int))] _ rfl ?_
    refine w_getL (q := o) (v := ((o + 5 : Nat) : Int)) rfl (by decide) (pc' := 11) rfl ⟨Int.natCast_nonneg _, rfl⟩ (zScn_t0 ho) rfl (zScn_r0_7 ho) ?_
    refine zW.go 1 12 [(2, ((o : Nat) : Int)), (0, x1), (0, x2), (9, 0), (9, 0)] [(0, x1), (2, ((o + 5 : Nat) : Int))] _ rfl ?_
    obtain ⟨g, h⟩ := h
    refine w_iald (q := (o + 5)) rfl (by decide) (pc' := 13) rfl ⟨Int.natCast_nonneg _, rfl⟩ (zScn_t5 ho) g rfl ?_
    refine w_calli (as := [(0, (mem2 (o + 5) (x1).toNat))]) [] 16 rfl rfl rfl rfl (Nat.le_of_ble_eq_true rfl) (Nat.le_of_ble_eq_true rfl) (Nat.le_of_ble_eq_true rfl) (Or.inl rfl) (Ci.imp h (fun r4 mem5 h => ?_))
    refine zW.go 3 20 [(2, ((o : Nat) : Int)), (0, x1), (0, x2), (0, r4), (0, 0)] [] _ rfl ?_
    exact h
