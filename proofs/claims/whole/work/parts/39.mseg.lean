def L_m_odds_33 (X : zX) (d : Nat) (rf : zF) (Q : Int → zF → Prop) (mem : zF) (x1 : Int) (x2 : Int) (x3 : Int) (x4 : Int) : Prop := ∀ z5 : zV, zW X (d + 1) 292 33 [(2, 261), (0, x1), (0, x2), (0, x3), (0, x4), z5] [] (zty, rf, mem) (qi rf Q)
def L_m_odds_85 (X : zX) (d : Nat) (rf : zF) (Q : Int → zF → Prop) (mem : zF) (x1 : Int) (x2 : Int) (x3 : Int) (x4 : Int) (s0 : Int) : Prop := ∀ z5 : zV, zW X (d + 1) 292 85 [(2, 261), (0, x1), (0, x2), (0, x3), (0, x4), z5] [(0, s0)] (zty, rf, mem) (qi rf Q)
set_option maxRecDepth 4000 in
theorem s_m_odds_33 {X : zX} {d : Nat} {rf mem : zF} {Q : Int → zF → Prop} (hR : zall rf zRK = true) {x1 : Int} {x2 : Int} {x3 : Int} {x4 : Int} (h : (inI x4) ∧ ((4 ≤ x4 → Q x3 mem) ∧ (¬ 4 ≤ x4 → Cv X d 242 [(2, 261), (0, 1), (0, 0)] rf mem (fun mem11 => Ci X d 268 [(2, 261), (0, 1), (0, x4)] rf mem11 (fun r12 mem13 => (inI x4) ∧ ((¬ x4 = (-1) → (0 ≤ (mem13 261 13) ∧ (mem13 261 13) < 2) ∧ (L_m_odds_85 X d rf Q mem13 x1 x2 x3 x4 (mem13 278 ((mem13 261 13)).toNat))) ∧ (x4 = (-1) → (0 ≤ (mem13 261 13) ∧ (mem13 261 13) < 2) ∧ (L_m_odds_85 X d rf Q mem13 x1 x2 x3 x4 (4 * (100 - (mem13 278 ((mem13 261 13)).toNat))))))))))) : L_m_odds_33 X d rf Q mem x1 x2 x3 x4 := by
  intro z5
  refine zW.go 2 36 [(2, 261), (0, x1), (0, x2), (0, x3), (0, x4), z5] [(0, 4), (0, x4)] _ rfl ?_
  refine w_ic_ge rfl (by decide) (pc' := 39) rfl ⟨h.1, by decide⟩ (fun c10 => ?_) (fun c10 => ?_)
  · have h := h.2.1 c10
    refine zW.go 1 116 [(2, 261), (0, x1), (0, x2), (0, x3), (0, x4), z5] [(0, x3)] _ rfl ?_
    exact w_reti rfl rfl h
  · have h := h.2.2 c10
    refine zW.go 3 42 [(2, 261), (0, x1), (0, x2), (0, x3), (0, x4), z5] [(0, 0), (0, 1), (2, 261)] _ rfl ?_
    refine w_callv (as := [(2, 261), (0, 1), (0, 0)]) [] 45 rfl rfl rfl rfl (Nat.le_of_ble_eq_true rfl) (Nat.le_of_ble_eq_true rfl) (Nat.le_of_ble_eq_true rfl) (Or.inr rfl) (Cv.imp h (fun mem11 h => ?_))
    refine zW.go 3 49 [(2, 261), (0, x1), (0, x2), (0, x3), (0, x4), z5] [(0, x4), (0, 1), (2, 261)] _ rfl ?_
    refine w_calli (as := [(2, 261), (0, 1), (0, x4)]) [] 52 rfl rfl rfl rfl (Nat.le_of_ble_eq_true rfl) (Nat.le_of_ble_eq_true rfl) (Nat.le_of_ble_eq_true rfl) (Or.inr rfl) (Ci.imp h (fun r12 mem13 h => ?_))
    refine zW.go 3 56 [(2, 261), (0, x1), (0, x2), (0, x3), (0, x4), z5] [(0, (-1)), (0, x4)] _ rfl ?_
    refine w_ic_ne rfl (by decide) (pc' := 59) rfl ⟨h.1, by decide⟩ (fun c14 => ?_) (fun c14 => ?_)
    · have h := h.2.1 c14
      refine zW.go 1 77 [(2, 261), (0, x1), (0, x2), (0, x3), (0, x4), z5] [(2, 261)] _ rfl ?_
      refine w_getL (q := 261) (v := 278) rfl (by decide) (pc' := 80) rfl ⟨by decide, rfl⟩ rfl rfl (zall_at hR (by decide)) ?_
      refine zW.go 1 81 [(2, 261), (0, x1), (0, x2), (0, x3), (0, x4), z5] [(2, 261), (2, 278)] _ rfl ?_
      refine w_getI (q := 261) rfl (by decide) (pc' := 84) rfl ⟨by decide, rfl⟩ rfl (by decide) ?_
      obtain ⟨g, h⟩ := h
      refine w_iald (q := 278) rfl (by decide) (pc' := 85) rfl ⟨by decide, rfl⟩ rfl g rfl ?_
      exact h z5
    · have h := h.2.2 c14
      refine zW.go 3 63 [(2, 261), (0, x1), (0, x2), (0, x3), (0, x4), z5] [(2, 261), (0, 100), (0, 4)] _ rfl ?_
      refine w_getL (q := 261) (v := 278) rfl (by decide) (pc' := 66) rfl ⟨by decide, rfl⟩ rfl rfl (zall_at hR (by decide)) ?_
      refine zW.go 1 67 [(2, 261), (0, x1), (0, x2), (0, x3), (0, x4), z5] [(2, 261), (2, 278), (0, 100), (0, 4)] _ rfl ?_
      refine w_getI (q := 261) rfl (by decide) (pc' := 70) rfl ⟨by decide, rfl⟩ rfl (by decide) ?_
      obtain ⟨g, h⟩ := h
      refine w_iald (q := 278) rfl (by decide) (pc' := 71) rfl ⟨by decide, rfl⟩ rfl g rfl ?_
      refine zW.go 3 85 [(2, 261), (0, x1), (0, x2), (0, x3), (0, x4), z5] [(0, (4 * (100 - (mem13 278 ((mem13 261 13)).toNat))))] _ rfl ?_
      exact h z5
set_option maxRecDepth 4000 in
theorem s_m_odds_85 {X : zX} {d : Nat} {rf mem : zF} {Q : Int → zF → Prop} (hR : zall rf zRK = true) {x1 : Int} {x2 : Int} {x3 : Int} {x4 : Int} {s0 : Int} (h : (0 ≤ (6 + x1) ∧ (6 + x1) < 132) ∧ ((inI (mem 301 ((6 + x1)).toNat) ∧ inI x2) ∧ ((¬ (mem 301 ((6 + x1)).toNat) = x2 → L_m_odds_33 X d rf Q mem x1 x2 (x3 + 0) (x4 + 1)) ∧ ((mem 301 ((6 + x1)).toNat) = x2 → L_m_odds_33 X d rf Q mem x1 x2 (x3 + s0) (x4 + 1))))) : L_m_odds_85 X d rf Q mem x1 x2 x3 x4 s0 := by
  intro z5
  refine zW.go 3 89 [(2, 261), (0, x1), (0, x2), (0, x3), (0, x4), (0, s0)] [(2, 261), (0, x3)] _ rfl ?_
  refine w_getL (q := 261) (v := 301) rfl (by decide) (pc' := 92) rfl ⟨by decide, rfl⟩ rfl rfl (zall_at hR (by decide)) ?_
  refine zW.go 3 96 [(2, 261), (0, x1), (0, x2), (0, x3), (0, x4), (0, s0)] [(0, (6 + x1)), (2, 301), (0, x3)] _ rfl ?_
  obtain ⟨g, h⟩ := h
  refine w_iald (q := 301) rfl (by decide) (pc' := 97) rfl ⟨by decide, rfl⟩ rfl g rfl ?_
  refine zW.go 1 98 [(2, 261), (0, x1), (0, x2), (0, x3), (0, x4), (0, s0)] [(0, x2), (0, (mem 301 ((6 + x1)).toNat)), (0, x3)] _ rfl ?_
  refine w_ic_ne rfl (by decide) (pc' := 101) rfl h.1 (fun c15 => ?_) (fun c15 => ?_)
  · have h := h.2.1 c15
    refine zW.go 5 33 [(2, 261), (0, x1), (0, x2), (0, (x3 + 0)), (0, (x4 + 1)), (0, s0)] [] _ rfl ?_
    exact h (0, s0)
  · have h := h.2.2 c15
    refine zW.go 6 33 [(2, 261), (0, x1), (0, x2), (0, (x3 + s0)), (0, (x4 + 1)), (0, s0)] [] _ rfl ?_
    exact h (0, s0)
set_option maxRecDepth 4000 in
theorem s_m_odds {X : zX} {d : Nat} {rf mem : zF} {Q : Int → zF → Prop} (hR : zall rf zRK = true) {x1 : Int} {x2 : Int} (h : Ci X d 271 [(2, 261), (0, x1)] rf mem (fun r1 mem2 => (inI r1) ∧ ((r1 = 0 → Q (-1) mem2) ∧ (¬ r1 = 0 → Ci X d 270 [(2, 261), (0, x2)] rf mem2 (fun r4 mem5 => (inI r4) ∧ ((r4 = 0 → Q (-1) mem5) ∧ (¬ r4 = 0 → Ci X d 283 [(2, 261), (0, 1), (0, 1), (0, 1)] rf mem5 (fun r7 mem8 => (inI r7) ∧ ((¬ r7 = 0 → L_m_odds_33 X d rf Q mem8 x1 x2 0 (-1)) ∧ (r7 = 0 → Q (-1) mem8)))))))))) : Ci X (d + 1) 292 [(2, 261), (0, x1), (0, x2)] rf mem Q := by
  show zW X (d + 1) 292 0 [(2, 261), (0, x1), (0, x2), (9, 0), (9, 0), (9, 0)] [] (zty, rf, mem) (qi rf Q)
  refine zW.go 2 2 [(2, 261), (0, x1), (0, x2), (9, 0), (9, 0), (9, 0)] [(0, x1), (2, 261)] _ rfl ?_
  refine w_calli (as := [(2, 261), (0, x1)]) [] 5 rfl rfl rfl rfl (Nat.le_of_ble_eq_true rfl) (Nat.le_of_ble_eq_true rfl) (Nat.le_of_ble_eq_true rfl) (Or.inr rfl) (Ci.imp h (fun r1 mem2 h => ?_))
  refine w_if_eq rfl (by decide) (pc' := 8) rfl h.1 (fun c3 => ?_) (fun c3 => ?_)
  · have h := h.2.1 c3
    refine zW.go 1 27 [(2, 261), (0, x1), (0, x2), (9, 0), (9, 0), (9, 0)] [(0, (-1))] _ rfl ?_
    exact w_reti rfl rfl h
  · have h := h.2.2 c3
    refine zW.go 2 10 [(2, 261), (0, x1), (0, x2), (9, 0), (9, 0), (9, 0)] [(0, x2), (2, 261)] _ rfl ?_
    refine w_calli (as := [(2, 261), (0, x2)]) [] 13 rfl rfl rfl rfl (Nat.le_of_ble_eq_true rfl) (Nat.le_of_ble_eq_true rfl) (Nat.le_of_ble_eq_true rfl) (Or.inr rfl) (Ci.imp h (fun r4 mem5 h => ?_))
    refine w_if_eq rfl (by decide) (pc' := 16) rfl h.1 (fun c6 => ?_) (fun c6 => ?_)
    · have h := h.2.1 c6
      refine zW.go 1 27 [(2, 261), (0, x1), (0, x2), (9, 0), (9, 0), (9, 0)] [(0, (-1))] _ rfl ?_
      exact w_reti rfl rfl h
    · have h := h.2.2 c6
      refine zW.go 4 20 [(2, 261), (0, x1), (0, x2), (9, 0), (9, 0), (9, 0)] [(0, 1), (0, 1), (0, 1), (2, 261)] _ rfl ?_
      refine w_calli (as := [(2, 261), (0, 1), (0, 1), (0, 1)]) [] 23 rfl rfl rfl rfl (Nat.le_of_ble_eq_true rfl) (Nat.le_of_ble_eq_true rfl) (Nat.le_of_ble_eq_true rfl) (Or.inr rfl) (Ci.imp h (fun r7 mem8 h => ?_))
      refine w_if_ne rfl (by decide) (pc' := 26) rfl h.1 (fun c9 => ?_) (fun c9 => ?_)
      · have h := h.2.1 c9
        refine zW.go 4 33 [(2, 261), (0, x1), (0, x2), (0, 0), (0, (-1)), (9, 0)] [] _ rfl ?_
        exact h (9, 0)
      · have h := h.2.2 c9
        refine zW.go 1 27 [(2, 261), (0, x1), (0, x2), (9, 0), (9, 0), (9, 0)] [(0, (-1))] _ rfl ?_
        exact w_reti rfl rfl h
def L_m_feel_34 (X : zX) (d : Nat) (rf : zF) (Q : Int → zF → Prop) (mem : zF) (x1 : Int) (x2 : Int) (x3 : Int) : Prop := zW X (d + 1) 293 34 [(2, 261), (0, x1), (0, x2), (0, x3)] [] (zty, rf, mem) (qi rf Q)
def L_m_feel_132 (X : zX) (d : Nat) (rf : zF) (Q : Int → zF → Prop) (mem : zF) (x1 : Int) (x2 : Int) : Prop := ∀ z3 : zV, zW X (d + 1) 293 132 [(2, 261), (0, x1), (0, x2), z3] [] (zty, rf, mem) (qi rf Q)
def L_m_feel_151 (X : zX) (d : Nat) (rf : zF) (Q : Int → zF → Prop) (mem : zF) (x3 : Int) : Prop := ∀ z1 : zV, ∀ z2 : zV, z2.1 ≠ 1 → zW X (d + 1) 293 151 [(2, 261), z1, z2, (0, x3)] [] (zty, rf, mem) (qi rf Q)
set_option maxRecDepth 4000 in
theorem s_m_feel_34 {X : zX} {d : Nat} {rf mem : zF} {Q : Int → zF → Prop} (hR : zall rf zRK = true) {x1 : Int} {x2 : Int} {x3 : Int} (h : (inI x3 ∧ inI x1) ∧ ((x1 ≤ x3 → L_m_feel_132 X d rf Q mem x1 x2) ∧ (¬ x1 ≤ x3 → (inI x2) ∧ ((x2 = 0 → L_m_feel_132 X d rf Q mem x1 x2) ∧ (¬ x2 = 0 → (0 ≤ x3 ∧ x3 < 1800) ∧ ((inI (mem 262 (x3).toNat)) ∧ ((30 < (mem 262 (x3).toNat) → L_m_feel_34 X d rf Q mem x1 0 (x3 + 4)) ∧ (¬ 30 < (mem 262 (x3).toNat) → (0 ≤ (x3 + 1) ∧ (x3 + 1) < 1800) ∧ (Ci X d 271 [(2, 261), (0, (mem 262 ((x3 + 1)).toNat))] rf mem (fun r7 mem8 => (inI r7) ∧ ((r7 = 0 → L_m_feel_34 X d rf Q mem8 x1 0 (x3 + 4)) ∧ (¬ r7 = 0 → (0 ≤ (x3 + 2) ∧ (x3 + 2) < 1800) ∧ ((0 ≤ (x3 + 3) ∧ (x3 + 3) < 1800) ∧ (Ci X d 253 [(2, 261), (0, (mem8 262 ((x3 + 2)).toNat)), (0, (mem8 262 ((x3 + 3)).toNat))] rf mem8 (fun r10 mem11 => (inI r10) ∧ ((¬ r10 = 0 → L_m_feel_34 X d rf Q mem11 x1 1 (x3 + 4)) ∧ (r10 = 0 → (0 ≤ (x3 + 2) ∧ (x3 + 2) < 1800) ∧ ((inI (mem11 262 ((x3 + 2)).toNat)) ∧ ((¬ (mem11 262 ((x3 + 2)).toNat) = 255 → L_m_feel_34 X d rf Q mem11 x1 0 (x3 + 4)) ∧ ((mem11 262 ((x3 + 2)).toNat) = 255 → (0 ≤ (x3 + 3) ∧ (x3 + 3) < 1800) ∧ ((inI (mem11 262 ((x3 + 3)).toNat)) ∧ ((¬ (mem11 262 ((x3 + 3)).toNat) = 255 → L_m_feel_34 X d rf Q mem11 x1 0 (x3 + 4)) ∧ ((mem11 262 ((x3 + 3)).toNat) = 255 → L_m_feel_34 X d rf Q mem11 x1 1 (x3 + 4)))))))))))))))))))))))) : L_m_feel_34 X d rf Q mem x1 x2 x3 := by
  refine zW.go 2 36 [(2, 261), (0, x1), (0, x2), (0, x3)] [(0, x1), (0, x3)] _ rfl ?_
  refine w_ic_ge rfl (by decide) (pc' := 39) rfl h.1 (fun c4 => ?_) (fun c4 => ?_)
  · have h := h.2.1 c4
    exact h (0, x3)
  · have h := h.2.2 c4
    refine zW.go 1 40 [(2, 261), (0, x1), (0, x2), (0, x3)] [(0, x2)] _ rfl ?_
    refine w_if_eq rfl (by decide) (pc' := 43) rfl h.1 (fun c5 => ?_) (fun c5 => ?_)
    · have h := h.2.1 c5
      exact h (0, x3)
    · have h := h.2.2 c5
      refine zW.go 1 44 [(2, 261), (0, x1), (0, x2), (0, x3)] [(2, 261)] _ rfl ?_
      refine w_getL (q := 261) (v := 262) rfl (by decide) (pc' := 47) rfl ⟨by decide, rfl⟩ rfl rfl (zall_at hR (by decide)) ?_
      refine zW.go 1 48 [(2, 261), (0, x1), (0, x2), (0, x3)] [(0, x3), (2, 262)] _ rfl ?_
      obtain ⟨g, h⟩ := h
      refine w_iald (q := 262) rfl (by decide) (pc' := 49) rfl ⟨by decide, rfl⟩ rfl g rfl ?_
      refine zW.go 1 51 [(2, 261), (0, x1), (0, x2), (0, x3)] [(0, 30), (0, (mem 262 (x3).toNat))] _ rfl ?_
      refine w_ic_gt rfl (by decide) (pc' := 54) rfl ⟨h.1, by decide⟩ (fun c6 => ?_) (fun c6 => ?_)
      · have h := h.2.1 c6
        refine zW.go 4 34 [(2, 261), (0, x1), (0, 0), (0, (x3 + 4))] [] _ rfl ?_
        exact h
      · have h := h.2.2 c6
        refine zW.go 2 56 [(2, 261), (0, x1), (0, x2), (0, x3)] [(2, 261), (2, 261)] _ rfl ?_
        refine w_getL (q := 261) (v := 262) rfl (by decide) (pc' := 59) rfl ⟨by decide, rfl⟩ rfl rfl (zall_at hR (by decide)) ?_
        refine zW.go 3 62 [(2, 261), (0, x1), (0, x2), (0, x3)] [(0, (x3 + 1)), (2, 262), (2, 261)] _ rfl ?_
        obtain ⟨g, h⟩ := h
        refine w_iald (q := 262) rfl (by decide) (pc' := 63) rfl ⟨by decide, rfl⟩ rfl g rfl ?_
        refine w_calli (as := [(2, 261), (0, (mem 262 ((x3 + 1)).toNat))]) [] 66 rfl rfl rfl rfl (Nat.le_of_ble_eq_true rfl) (Nat.le_of_ble_eq_true rfl) (Nat.le_of_ble_eq_true rfl) (Or.inr rfl) (Ci.imp h (fun r7 mem8 h => ?_))
        refine w_if_eq rfl (by decide) (pc' := 69) rfl h.1 (fun c9 => ?_) (fun c9 => ?_)
        · have h := h.2.1 c9
          refine zW.go 4 34 [(2, 261), (0, x1), (0, 0), (0, (x3 + 4))] [] _ rfl ?_
          exact h
        · have h := h.2.2 c9
          refine zW.go 2 71 [(2, 261), (0, x1), (0, x2), (0, x3)] [(2, 261), (2, 261)] _ rfl ?_
          refine w_getL (q := 261) (v := 262) rfl (by decide) (pc' := 74) rfl ⟨by decide, rfl⟩ rfl rfl (zall_at hR (by decide)) ?_
          refine zW.go 3 77 [(2, 261), (0, x1), (0, x2), (0, x3)] [(0, (x3 + 2)), (2, 262), (2, 261)] _ rfl ?_
          obtain ⟨g, h⟩ := h
          refine w_iald (q := 262) rfl (by decide) (pc' := 78) rfl ⟨by decide, rfl⟩ rfl g rfl ?_
          refine zW.go 1 79 [(2, 261), (0, x1), (0, x2), (0, x3)] [(2, 261), (0, (mem8 262 ((x3 + 2)).toNat)), (2, 261)] _ rfl ?_
          refine w_getL (q := 261) (v := 262) rfl (by decide) (pc' := 82) rfl ⟨by decide, rfl⟩ rfl rfl (zall_at hR (by decide)) ?_
          refine zW.go 3 85 [(2, 261), (0, x1), (0, x2), (0, x3)] [(0, (x3 + 3)), (2, 262), (0, (mem8 262 ((x3 + 2)).toNat)), (2, 261)] _ rfl ?_
          obtain ⟨g, h⟩ := h
          refine w_iald (q := 262) rfl (by decide) (pc' := 86) rfl ⟨by decide, rfl⟩ rfl g rfl ?_
          refine w_calli (as := [(2, 261), (0, (mem8 262 ((x3 + 2)).toNat)), (0, (mem8 262 ((x3 + 3)).toNat))]) [] 89 rfl rfl rfl rfl (Nat.le_of_ble_eq_true rfl) (Nat.le_of_ble_eq_true rfl) (Nat.le_of_ble_eq_true rfl) (Or.inr rfl) (Ci.imp h (fun r10 mem11 h => ?_))
          refine w_if_ne rfl (by decide) (pc' := 92) rfl h.1 (fun c12 => ?_) (fun c12 => ?_)
          · have h := h.2.1 c12
            refine zW.go 5 34 [(2, 261), (0, x1), (0, 1), (0, (x3 + 4))] [] _ rfl ?_
            exact h
          · have h := h.2.2 c12
            refine zW.go 1 93 [(2, 261), (0, x1), (0, x2), (0, x3)] [(2, 261)] _ rfl ?_
            refine w_getL (q := 261) (v := 262) rfl (by decide) (pc' := 96) rfl ⟨by decide, rfl⟩ rfl rfl (zall_at hR (by decide)) ?_
            refine zW.go 3 99 [(2, 261), (0, x1), (0, x2), (0, x3)] [(0, (x3 + 2)), (2, 262)] _ rfl ?_
            obtain ⟨g, h⟩ := h
            refine w_iald (q := 262) rfl (by decide) (pc' := 100) rfl ⟨by decide, rfl⟩ rfl g rfl ?_
            refine zW.go 1 103 [(2, 261), (0, x1), (0, x2), (0, x3)] [(0, 255), (0, (mem11 262 ((x3 + 2)).toNat))] _ rfl ?_
            refine w_ic_ne rfl (by decide) (pc' := 106) rfl ⟨h.1, by decide⟩ (fun c13 => ?_) (fun c13 => ?_)
            · have h := h.2.1 c13
              refine zW.go 4 34 [(2, 261), (0, x1), (0, 0), (0, (x3 + 4))] [] _ rfl ?_
              exact h
            · have h := h.2.2 c13
              refine zW.go 1 107 [(2, 261), (0, x1), (0, x2), (0, x3)] [(2, 261)] _ rfl ?_
              refine w_getL (q := 261) (v := 262) rfl (by decide) (pc' := 110) rfl ⟨by decide, rfl⟩ rfl rfl (zall_at hR (by decide)) ?_
              refine zW.go 3 113 [(2, 261), (0, x1), (0, x2), (0, x3)] [(0, (x3 + 3)), (2, 262)] _ rfl ?_
              obtain ⟨g, h⟩ := h
              refine w_iald (q := 262) rfl (by decide) (pc' := 114) rfl ⟨by decide, rfl⟩ rfl g rfl ?_
              refine zW.go 1 117 [(2, 261), (0, x1), (0, x2), (0, x3)] [(0, 255), (0, (mem11 262 ((x3 + 3)).toNat))] _ rfl ?_
              refine w_ic_ne rfl (by decide) (pc' := 120) rfl ⟨h.1, by decide⟩ (fun c14 => ?_) (fun c14 => ?_)
              · have h := h.2.1 c14
                refine zW.go 4 34 [(2, 261), (0, x1), (0, 0), (0, (x3 + 4))] [] _ rfl ?_
                exact h
              · have h := h.2.2 c14
                refine zW.go 5 34 [(2, 261), (0, x1), (0, 1), (0, (x3 + 4))] [] _ rfl ?_
                exact h
set_option maxRecDepth 4000 in
theorem s_m_feel_132 {X : zX} {d : Nat} {rf mem : zF} {Q : Int → zF → Prop} (hR : zall rf zRK = true) {x1 : Int} {x2 : Int} (h : (inI x2) ∧ ((¬ x2 = 0 → (inI x1) ∧ (L_m_feel_151 X d rf Q (zup mem 261 70 (x1.tdiv 4)) 0)) ∧ (x2 = 0 → Ci X d 240 [(2, 261), (0, 5)] rf mem (fun r16 mem17 => Q r16 mem17)))) : L_m_feel_132 X d rf Q mem x1 x2 := by
  intro z3
  refine zW.go 1 133 [(2, 261), (0, x1), (0, x2), z3] [(0, x2)] _ rfl ?_
  refine w_if_ne rfl (by decide) (pc' := 136) rfl h.1 (fun c15 => ?_) (fun c15 => ?_)
  · have h := h.2.1 c15
    refine zW.go 3 145 [(2, 261), (0, x1), (0, x2), z3] [(0, 4), (0, x1), (2, 261)] _ rfl ?_
    obtain ⟨g, h⟩ := h
    refine w_idiv rfl (by decide) (pc' := 146) rfl ⟨g, by decide, by decide⟩ ?_
    refine w_putI (q := 261) rfl (by decide) (pc' := 149) rfl ⟨by decide, rfl⟩ rfl (by decide) ?_
    refine zW.go 2 151 [(2, 261), (0, x1), (0, x2), (0, 0)] [] _ rfl ?_
    exact h (0, x1) (0, x2) (by show (0 : Nat) ≠ 1; decide)
  · have h := h.2.2 c15
    refine zW.go 2 138 [(2, 261), (0, x1), (0, x2), z3] [(0, 5), (2, 261)] _ rfl ?_
    refine w_calli (as := [(2, 261), (0, 5)]) [] 141 rfl rfl rfl rfl (Nat.le_of_ble_eq_true rfl) (Nat.le_of_ble_eq_true rfl) (Nat.le_of_ble_eq_true rfl) (Or.inr rfl) (Ci.imp h (fun r16 mem17 h => ?_))
    exact w_reti rfl rfl h
set_option maxRecDepth 4000 in
theorem s_m_feel_151 {X : zX} {d : Nat} {rf mem : zF} {Q : Int → zF → Prop} (hR : zall rf zRK = true) {x3 : Int} (h : (inI x3 ∧ inI (mem 261 70)) ∧ (((mem 261 70) ≤ x3 → Q (mem 261 70) mem) ∧ (¬ (mem 261 70) ≤ x3 → (0 ≤ (4 * x3) ∧ (4 * x3) < 1800) ∧ ((0 ≤ x3 ∧ x3 < 16) ∧ ((0 ≤ ((4 * x3) + 1) ∧ ((4 * x3) + 1) < 1800) ∧ ((0 ≤ x3 ∧ x3 < 16) ∧ ((0 ≤ ((4 * x3) + 2) ∧ ((4 * x3) + 2) < 1800) ∧ ((inI (mem 262 (((4 * x3) + 2)).toNat)) ∧ ((¬ (mem 262 (((4 * x3) + 2)).toNat) = 255 → (0 ≤ ((4 * x3) + 3) ∧ ((4 * x3) + 3) < 1800) ∧ ((0 ≤ ((4 * x3) + 2) ∧ ((4 * x3) + 2) < 1800) ∧ ((0 ≤ x3 ∧ x3 < 16) ∧ (L_m_feel_151 X d rf Q (zup (zup (zup mem 308 (x3).toNat (mem 262 ((4 * x3)).toNat)) 309 (x3).toNat (mem 262 (((4 * x3) + 1)).toNat)) 310 (x3).toNat ((8 * (mem 262 (((4 * x3) + 3)).toNat)) + (mem 262 (((4 * x3) + 2)).toNat))) (x3 + 1))))) ∧ ((mem 262 (((4 * x3) + 2)).toNat) = 255 → (0 ≤ x3 ∧ x3 < 16) ∧ (L_m_feel_151 X d rf Q (zup (zup (zup mem 308 (x3).toNat (mem 262 ((4 * x3)).toNat)) 309 (x3).toNat (mem 262 (((4 * x3) + 1)).toNat)) 310 (x3).toNat (-1)) (x3 + 1)))))))))))) : L_m_feel_151 X d rf Q mem x3 := by
  intro z1 z2 hz2
  refine zW.go 2 153 [(2, 261), z1, z2, (0, x3)] [(2, 261), (0, x3)] _ rfl ?_
  refine w_getI (q := 261) rfl (by decide) (pc' := 156) rfl ⟨by decide, rfl⟩ rfl (by decide) ?_
  refine w_ic_ge rfl (by decide) (pc' := 159) rfl h.1 (fun c18 => ?_) (fun c18 => ?_)
  · have h := h.2.1 c18
    refine zW.go 1 246 [(2, 261), z1, z2, (0, x3)] [(2, 261)] _ rfl ?_
    refine w_getI (q := 261) rfl (by decide) (pc' := 249) rfl ⟨by decide, rfl⟩ rfl (by decide) ?_
    exact w_reti rfl rfl h
  · have h := h.2.2 c18
    refine zW.go 1 160 [(2, 261), z1, z2, (0, x3)] [(2, 261)] _ rfl ?_
    refine w_getL (q := 261) (v := 308) rfl (by decide) (pc' := 163) rfl ⟨by decide, rfl⟩ rfl rfl (zall_at hR (by decide)) ?_
    refine zW.go 2 165 [(2, 261), z1, z2, (0, x3)] [(2, 261), (0, x3), (2, 308)] _ rfl ?_
    refine w_getL (q := 261) (v := 262) rfl (by decide) (pc' := 168) rfl ⟨by decide, rfl⟩ rfl rfl (zall_at hR (by decide)) ?_
    refine zW.go 3 171 [(2, 261), z1, z2, (0, x3)] [(0, (4 * x3)), (2, 262), (0, x3), (2, 308)] _ rfl ?_
    obtain ⟨g, h⟩ := h
    refine w_iald (q := 262) rfl (by decide) (pc' := 172) rfl ⟨by decide, rfl⟩ rfl g rfl ?_
    obtain ⟨g, h⟩ := h
    refine w_iast (q := 308) rfl (by decide) (pc' := 173) rfl ⟨by decide, rfl⟩ rfl g rfl ?_
    refine zW.go 1 174 [(2, 261), z1, z2, (0, x3)] [(2, 261)] _ rfl ?_
    refine w_getL (q := 261) (v := 309) rfl (by decide) (pc' := 177) rfl ⟨by decide, rfl⟩ rfl rfl (zall_at hR (by decide)) ?_
    refine zW.go 2 179 [(2, 261), z1, z2, (0, x3)] [(2, 261), (0, x3), (2, 309)] _ rfl ?_
    refine w_getL (q := 261) (v := 262) rfl (by decide) (pc' := 182) rfl ⟨by decide, rfl⟩ rfl rfl (zall_at hR (by decide)) ?_
    refine zW.go 5 187 [(2, 261), z1, z2, (0, x3)] [(0, ((4 * x3) + 1)), (2, 262), (0, x3), (2, 309)] _ rfl ?_
    obtain ⟨g, h⟩ := h
    refine w_iald (q := 262) rfl (by decide) (pc' := 188) rfl ⟨by decide, rfl⟩ rfl g rfl ?_
    obtain ⟨g, h⟩ := h
    refine w_iast (q := 309) rfl (by decide) (pc' := 189) rfl ⟨by decide, rfl⟩ rfl g rfl ?_
    refine zW.go 1 190 [(2, 261), z1, z2, (0, x3)] [(2, 261)] _ rfl ?_
    refine w_getL (q := 261) (v := 310) rfl (by decide) (pc' := 193) rfl ⟨by decide, rfl⟩ rfl rfl (zall_at hR (by decide)) ?_
    refine zW.go 2 195 [(2, 261), z1, z2, (0, x3)] [(2, 261), (0, x3), (2, 310)] _ rfl ?_
    refine w_getL (q := 261) (v := 262) rfl (by decide) (pc' := 198) rfl ⟨by decide, rfl⟩ rfl rfl (zall_at hR (by decide)) ?_
    refine zW.go 5 203 [(2, 261), z1, z2, (0, x3)] [(0, ((4 * x3) + 2)), (2, 262), (0, x3), (2, 310)] _ rfl ?_
    obtain ⟨g, h⟩ := h
    refine w_iald (q := 262) rfl (by decide) (pc' := 204) rfl ⟨by decide, rfl⟩ rfl g rfl ?_
    refine zW.go 1 207 [(2, 261), z1, z2, (0, x3)] [(0, 255), (0, (mem 262 (((4 * x3) + 2)).toNat)), (0, x3), (2, 310)] _ rfl ?_
    refine w_ic_ne rfl (by decide) (pc' := 210) rfl ⟨h.1, by decide⟩ (fun c19 => ?_) (fun c19 => ?_)
    · have h := h.2.1 c19
      refine zW.go 2 217 [(2, 261), z1, z2, (0, x3)] [(2, 261), (0, 8), (0, x3), (2, 310)] _ rfl ?_
      refine w_getL (q := 261) (v := 262) rfl (by decide) (pc' := 220) rfl ⟨by decide, rfl⟩ rfl rfl (zall_at hR (by decide)) ?_
      refine zW.go 5 225 [(2, 261), z1, z2, (0, x3)] [(0, ((4 * x3) + 3)), (2, 262), (0, 8), (0, x3), (2, 310)] _ rfl ?_
      obtain ⟨g, h⟩ := h
      refine w_iald (q := 262) rfl (by decide) (pc' := 226) rfl ⟨by decide, rfl⟩ rfl g rfl ?_
      refine zW.go 2 228 [(2, 261), z1, z2, (0, x3)] [(2, 261), (0, (8 * (mem 262 (((4 * x3) + 3)).toNat))), (0, x3), (2, 310)] _ rfl ?_
      refine w_getL (q := 261) (v := 262) rfl (by decide) (pc' := 231) rfl ⟨by decide, rfl⟩ rfl rfl (zall_at hR (by decide)) ?_
      refine zW.go 5 236 [(2, 261), z1, z2, (0, x3)] [(0, ((4 * x3) + 2)), (2, 262), (0, (8 * (mem 262 (((4 * x3) + 3)).toNat))), (0, x3), (2, 310)] _ rfl ?_
      obtain ⟨g, h⟩ := h
      refine w_iald (q := 262) rfl (by decide) (pc' := 237) rfl ⟨by decide, rfl⟩ rfl g rfl ?_
      refine zW.go 1 238 [(2, 261), z1, z2, (0, x3)] [(0, ((8 * (mem 262 (((4 * x3) + 3)).toNat)) + (mem 262 (((4 * x3) + 2)).toNat))), (0, x3), (2, 310)] _ rfl ?_
      obtain ⟨g, h⟩ := h
      refine w_iast (q := 310) rfl (by decide) (pc' := 239) rfl ⟨by decide, rfl⟩ rfl g rfl ?_
      refine zW.step 242 [(2, 261), z1, z2, (0, (x3 + 1))] [] _ rfl (by decide) (by decide) (by show some (_, zst1 [(2, 261), z1, z2, (0, x3)] 3 _, _, _) = _; rw [zst1_z (ls := [(2, 261), z1, z2, (0, x3)]) (i := 3) hz2]; rfl) ?_
      refine zW.go 1 151 [(2, 261), z1, z2, (0, (x3 + 1))] [] _ rfl ?_
      exact h z1 z2 hz2
    · have h := h.2.2 c19
      refine zW.go 2 238 [(2, 261), z1, z2, (0, x3)] [(0, (-1)), (0, x3), (2, 310)] _ rfl ?_
      obtain ⟨g, h⟩ := h
      refine w_iast (q := 310) rfl (by decide) (pc' := 239) rfl ⟨by decide, rfl⟩ rfl g rfl ?_
      refine zW.step 242 [(2, 261), z1, z2, (0, (x3 + 1))] [] _ rfl (by decide) (by decide) (by show some (_, zst1 [(2, 261), z1, z2, (0, x3)] 3 _, _, _) = _; rw [zst1_z (ls := [(2, 261), z1, z2, (0, x3)]) (i := 3) hz2]; rfl) ?_
      refine zW.go 1 151 [(2, 261), z1, z2, (0, (x3 + 1))] [] _ rfl ?_
      exact h z1 z2 hz2
set_option maxRecDepth 4000 in
theorem s_m_feel {X : zX} {d : Nat} {rf mem : zF} {Q : Int → zF → Prop} (hR : zall rf zRK = true) (h : (inI (mem 261 1)) ∧ (((mem 261 1) ≤ 0 → L_m_feel_34 X d rf Q (zup mem 261 1 0) (mem 261 1) 0 0) ∧ (¬ (mem 261 1) ≤ 0 → (inI (mem 261 1)) ∧ ((inI ((mem 261 1).tmod 4)) ∧ ((¬ ((mem 261 1).tmod 4) = 0 → L_m_feel_34 X d rf Q (zup mem 261 1 0) (mem 261 1) 0 0) ∧ (((mem 261 1).tmod 4) = 0 → (inI (mem 261 1)) ∧ ((64 < (mem 261 1) → L_m_feel_34 X d rf Q (zup mem 261 1 0) (mem 261 1) 0 0) ∧ (¬ 64 < (mem 261 1) → L_m_feel_34 X d rf Q (zup mem 261 1 0) (mem 261 1) 1 0)))))))) : Ci X (d + 1) 293 [(2, 261)] rf mem Q := by
  show zW X (d + 1) 293 0 [(2, 261), (9, 0), (9, 0), (9, 0)] [] (zty, rf, mem) (qi rf Q)
  refine zW.go 1 1 [(2, 261), (9, 0), (9, 0), (9, 0)] [(2, 261)] _ rfl ?_
  refine w_getI (q := 261) rfl (by decide) (pc' := 4) rfl ⟨by decide, rfl⟩ rfl (by decide) ?_
  refine zW.go 3 7 [(2, 261), (0, (mem 261 1)), (9, 0), (9, 0)] [(0, 0), (2, 261)] _ rfl ?_
  refine w_putI (q := 261) rfl (by decide) (pc' := 10) rfl ⟨by decide, rfl⟩ rfl (by decide) ?_
  refine zW.go 1 11 [(2, 261), (0, (mem 261 1)), (9, 0), (9, 0)] [(0, (mem 261 1))] _ rfl ?_
  refine w_if_le rfl (by decide) (pc' := 14) rfl h.1 (fun c1 => ?_) (fun c1 => ?_)
  · have h := h.2.1 c1
    refine zW.go 4 34 [(2, 261), (0, (mem 261 1)), (0, 0), (0, 0)] [] _ rfl ?_
    exact h
  · have h := h.2.2 c1
    refine zW.go 2 16 [(2, 261), (0, (mem 261 1)), (9, 0), (9, 0)] [(0, 4), (0, (mem 261 1))] _ rfl ?_
    obtain ⟨g, h⟩ := h
    refine w_irem rfl (by decide) (pc' := 17) rfl ⟨g, by decide, by decide⟩ ?_
    refine w_if_ne rfl (by decide) (pc' := 20) rfl h.1 (fun c2 => ?_) (fun c2 => ?_)
    · have h := h.2.1 c2
      refine zW.go 4 34 [(2, 261), (0, (mem 261 1)), (0, 0), (0, 0)] [] _ rfl ?_
      exact h
    · have h := h.2.2 c2
      refine zW.go 2 23 [(2, 261), (0, (mem 261 1)), (9, 0), (9, 0)] [(0, 64), (0, (mem 261 1))] _ rfl ?_
      refine w_ic_gt rfl (by decide) (pc' := 26) rfl ⟨h.1, by decide⟩ (fun c3 => ?_) (fun c3 => ?_)
      · have h := h.2.1 c3
        refine zW.go 4 34 [(2, 261), (0, (mem 261 1)), (0, 0), (0, 0)] [] _ rfl ?_
        exact h
      · have h := h.2.2 c3
        refine zW.go 5 34 [(2, 261), (0, (mem 261 1)), (0, 1), (0, 0)] [] _ rfl ?_
        exact h
def L_m_canBeFrom_21 (X : zX) (d : Nat) (rf : zF) (Q : Int → zF → Prop) (mem : zF) (x1 : Int) (x2 : Int) (x3 : Int) (x4 : Int) : Prop := ∀ z5 : zV, zW X (d + 1) 294 21 [(2, 261), (0, x1), (0, x2), (0, x3), (0, x4), z5] [] (zty, rf, mem) (qi rf Q)
def L_m_canBeFrom_57 (X : zX) (d : Nat) (rf : zF) (Q : Int → zF → Prop) (mem : zF) (x1 : Int) (x2 : Int) (x3 : Int) (x4 : Int) (x5 : Int) : Prop := zW X (d + 1) 294 57 [(2, 261), (0, x1), (0, x2), (0, x3), (0, x4), (0, x5)] [] (zty, rf, mem) (qi rf Q)
set_option maxRecDepth 4000 in
theorem s_m_canBeFrom_21 {X : zX} {d : Nat} {rf mem : zF} {Q : Int → zF → Prop} (hR : zall rf zRK = true) {x1 : Int} {x2 : Int} {x3 : Int} {x4 : Int} (h : Ci X d 283 [(2, 261), (0, x4), (0, 0), (0, 30)] rf mem (fun r2 mem3 => (inI r2) ∧ ((r2 = 0 → (inI x3 ∧ inI (mem3 261 70)) ∧ ((¬ x3 = (mem3 261 70) → Q 0 mem3) ∧ (x3 = (mem3 261 70) → Q 1 mem3))) ∧ (¬ r2 = 0 → (0 ≤ (6 + x1) ∧ (6 + x1) < 132) ∧ ((0 ≤ ((31 * x2) + x4) ∧ ((31 * x2) + x4) < 1984) ∧ (L_m_canBeFrom_57 X d rf Q (zup mem3 311 (((31 * x2) + x4)).toNat (mem3 297 ((6 + x1)).toNat)) x1 x2 x3 x4 0)))))) : L_m_canBeFrom_21 X d rf Q mem x1 x2 x3 x4 := by
  intro z5
  refine zW.go 4 27 [(2, 261), (0, x1), (0, x2), (0, x3), (0, x4), z5] [(0, 30), (0, 0), (0, x4), (2, 261)] _ rfl ?_
  refine w_calli (as := [(2, 261), (0, x4), (0, 0), (0, 30)]) [] 30 rfl rfl rfl rfl (Nat.le_of_ble_eq_true rfl) (Nat.le_of_ble_eq_true rfl) (Nat.le_of_ble_eq_true rfl) (Or.inr rfl) (Ci.imp h (fun r2 mem3 h => ?_))
  refine w_if_eq rfl (by decide) (pc' := 33) rfl h.1 (fun c4 => ?_) (fun c4 => ?_)
  · have h := h.2.1 c4
    refine zW.go 2 132 [(2, 261), (0, x1), (0, x2), (0, x3), (0, x4), z5] [(2, 261), (0, x3)] _ rfl ?_
    refine w_getI (q := 261) rfl (by decide) (pc' := 135) rfl ⟨by decide, rfl⟩ rfl (by decide) ?_
    refine w_ic_ne rfl (by decide) (pc' := 138) rfl h.1 (fun c5 => ?_) (fun c5 => ?_)
    · have h := h.2.1 c5
      refine zW.go 1 143 [(2, 261), (0, x1), (0, x2), (0, x3), (0, x4), z5] [(0, 0)] _ rfl ?_
      exact w_retz rfl rfl (by decide) h
    · have h := h.2.2 c5
      refine zW.go 2 143 [(2, 261), (0, x1), (0, x2), (0, x3), (0, x4), z5] [(0, 1)] _ rfl ?_
      exact w_retz rfl rfl (by decide) h
  · have h := h.2.2 c4
    refine zW.go 1 34 [(2, 261), (0, x1), (0, x2), (0, x3), (0, x4), z5] [(2, 261)] _ rfl ?_
    refine w_getL (q := 261) (v := 311) rfl (by decide) (pc' := 37) rfl ⟨by decide, rfl⟩ rfl rfl (zall_at hR (by decide)) ?_
    refine zW.go 6 45 [(2, 261), (0, x1), (0, x2), (0, x3), (0, x4), z5] [(2, 261), (0, ((31 * x2) + x4)), (2, 311)] _ rfl ?_
    refine w_getL (q := 261) (v := 297) rfl (by decide) (pc' := 48) rfl ⟨by decide, rfl⟩ rfl rfl (zall_at hR (by decide)) ?_
    refine zW.go 3 52 [(2, 261), (0, x1), (0, x2), (0, x3), (0, x4), z5] [(0, (6 + x1)), (2, 297), (0, ((31 * x2) + x4)), (2, 311)] _ rfl ?_
    obtain ⟨g, h⟩ := h
    refine w_iald (q := 297) rfl (by decide) (pc' := 53) rfl ⟨by decide, rfl⟩ rfl g rfl ?_
    obtain ⟨g, h⟩ := h
    refine w_iast (q := 311) rfl (by decide) (pc' := 54) rfl ⟨by decide, rfl⟩ rfl g rfl ?_
    refine zW.go 2 57 [(2, 261), (0, x1), (0, x2), (0, x3), (0, x4), (0, 0)] [] _ rfl ?_
    exact h
set_option maxRecDepth 4000 in
theorem s_m_canBeFrom_57 {X : zX} {d : Nat} {rf mem : zF} {Q : Int → zF → Prop} (hR : zall rf zRK = true) {x1 : Int} {x2 : Int} {x3 : Int} {x4 : Int} {x5 : Int} (h : (inI x5 ∧ inI (mem 261 70)) ∧ (((mem 261 70) ≤ x5 → Ci X d 268 [(2, 261), (0, 1), (0, (-1))] rf mem (fun r7 mem8 => L_m_canBeFrom_21 X d rf Q mem8 x1 x2 x3 (x4 + 1))) ∧ (¬ (mem 261 70) ≤ x5 → (0 ≤ x5 ∧ x5 < 16) ∧ ((inI (mem 308 (x5).toNat) ∧ inI x4) ∧ ((¬ (mem 308 (x5).toNat) = x4 → L_m_canBeFrom_57 X d rf Q mem x1 x2 (x3 + 0) x4 (x5 + 1)) ∧ ((mem 308 (x5).toNat) = x4 → (0 ≤ x5 ∧ x5 < 16) ∧ ((0 ≤ (6 + (mem 309 (x5).toNat)) ∧ (6 + (mem 309 (x5).toNat)) < 132) ∧ ((0 ≤ x5 ∧ x5 < 16) ∧ ((inI (mem 297 ((6 + (mem 309 (x5).toNat))).toNat) ∧ inI (mem 310 (x5).toNat)) ∧ ((¬ (mem 297 ((6 + (mem 309 (x5).toNat))).toNat) = (mem 310 (x5).toNat) → L_m_canBeFrom_57 X d rf Q mem x1 x2 (x3 + 0) x4 (x5 + 1)) ∧ ((mem 297 ((6 + (mem 309 (x5).toNat))).toNat) = (mem 310 (x5).toNat) → L_m_canBeFrom_57 X d rf Q mem x1 x2 (x3 + 1) x4 (x5 + 1)))))))))))) : L_m_canBeFrom_57 X d rf Q mem x1 x2 x3 x4 x5 := by
  refine zW.go 2 60 [(2, 261), (0, x1), (0, x2), (0, x3), (0, x4), (0, x5)] [(2, 261), (0, x5)] _ rfl ?_
  refine w_getI (q := 261) rfl (by decide) (pc' := 63) rfl ⟨by decide, rfl⟩ rfl (by decide) ?_
  refine w_ic_ge rfl (by decide) (pc' := 66) rfl h.1 (fun c6 => ?_) (fun c6 => ?_)
  · have h := h.2.1 c6
    refine zW.go 3 120 [(2, 261), (0, x1), (0, x2), (0, x3), (0, x4), (0, x5)] [(0, (-1)), (0, 1), (2, 261)] _ rfl ?_
    refine w_calli (as := [(2, 261), (0, 1), (0, (-1))]) [] 123 rfl rfl rfl rfl (Nat.le_of_ble_eq_true rfl) (Nat.le_of_ble_eq_true rfl) (Nat.le_of_ble_eq_true rfl) (Or.inr rfl) (Ci.imp h (fun r7 mem8 h => ?_))
    refine zW.go 3 21 [(2, 261), (0, x1), (0, x2), (0, x3), (0, (x4 + 1)), (0, x5)] [] _ rfl ?_
    exact h (0, x5)
  · have h := h.2.2 c6
    refine zW.go 2 68 [(2, 261), (0, x1), (0, x2), (0, x3), (0, x4), (0, x5)] [(2, 261), (0, x3)] _ rfl ?_
    refine w_getL (q := 261) (v := 308) rfl (by decide) (pc' := 71) rfl ⟨by decide, rfl⟩ rfl rfl (zall_at hR (by decide)) ?_
    refine zW.go 1 73 [(2, 261), (0, x1), (0, x2), (0, x3), (0, x4), (0, x5)] [(0, x5), (2, 308), (0, x3)] _ rfl ?_
    obtain ⟨g, h⟩ := h
    refine w_iald (q := 308) rfl (by decide) (pc' := 74) rfl ⟨by decide, rfl⟩ rfl g rfl ?_
    refine zW.go 1 76 [(2, 261), (0, x1), (0, x2), (0, x3), (0, x4), (0, x5)] [(0, x4), (0, (mem 308 (x5).toNat)), (0, x3)] _ rfl ?_
    refine w_ic_ne rfl (by decide) (pc' := 79) rfl h.1 (fun c9 => ?_) (fun c9 => ?_)
    · have h := h.2.1 c9
      refine zW.go 5 57 [(2, 261), (0, x1), (0, x2), (0, (x3 + 0)), (0, x4), (0, (x5 + 1))] [] _ rfl ?_
      exact h
    · have h := h.2.2 c9
      refine zW.go 1 80 [(2, 261), (0, x1), (0, x2), (0, x3), (0, x4), (0, x5)] [(2, 261), (0, x3)] _ rfl ?_
      refine w_getL (q := 261) (v := 297) rfl (by decide) (pc' := 83) rfl ⟨by decide, rfl⟩ rfl rfl (zall_at hR (by decide)) ?_
      refine zW.go 2 86 [(2, 261), (0, x1), (0, x2), (0, x3), (0, x4), (0, x5)] [(2, 261), (0, 6), (2, 297), (0, x3)] _ rfl ?_
      refine w_getL (q := 261) (v := 309) rfl (by decide) (pc' := 89) rfl ⟨by decide, rfl⟩ rfl rfl (zall_at hR (by decide)) ?_
      refine zW.go 1 91 [(2, 261), (0, x1), (0, x2), (0, x3), (0, x4), (0, x5)] [(0, x5), (2, 309), (0, 6), (2, 297), (0, x3)] _ rfl ?_
      obtain ⟨g, h⟩ := h
      refine w_iald (q := 309) rfl (by decide) (pc' := 92) rfl ⟨by decide, rfl⟩ rfl g rfl ?_
      refine zW.go 1 93 [(2, 261), (0, x1), (0, x2), (0, x3), (0, x4), (0, x5)] [(0, (6 + (mem 309 (x5).toNat))), (2, 297), (0, x3)] _ rfl ?_
      obtain ⟨g, h⟩ := h
      refine w_iald (q := 297) rfl (by decide) (pc' := 94) rfl ⟨by decide, rfl⟩ rfl g rfl ?_
      refine zW.go 1 95 [(2, 261), (0, x1), (0, x2), (0, x3), (0, x4), (0, x5)] [(2, 261), (0, (mem 297 ((6 + (mem 309 (x5).toNat))).toNat)), (0, x3)] _ rfl ?_
      refine w_getL (q := 261) (v := 310) rfl (by decide) (pc' := 98) rfl ⟨by decide, rfl⟩ rfl rfl (zall_at hR (by decide)) ?_
      refine zW.go 1 100 [(2, 261), (0, x1), (0, x2), (0, x3), (0, x4), (0, x5)] [(0, x5), (2, 310), (0, (mem 297 ((6 + (mem 309 (x5).toNat))).toNat)), (0, x3)] _ rfl ?_
      obtain ⟨g, h⟩ := h
      refine w_iald (q := 310) rfl (by decide) (pc' := 101) rfl ⟨by decide, rfl⟩ rfl g rfl ?_
      refine w_ic_ne rfl (by decide) (pc' := 104) rfl h.1 (fun c10 => ?_) (fun c10 => ?_)
      · have h := h.2.1 c10
        refine zW.go 5 57 [(2, 261), (0, x1), (0, x2), (0, (x3 + 0)), (0, x4), (0, (x5 + 1))] [] _ rfl ?_
        exact h
      · have h := h.2.2 c10
        refine zW.go 6 57 [(2, 261), (0, x1), (0, x2), (0, (x3 + 1)), (0, x4), (0, (x5 + 1))] [] _ rfl ?_
        exact h
set_option maxRecDepth 4000 in
theorem s_m_canBeFrom {X : zX} {d : Nat} {rf mem : zF} {Q : Int → zF → Prop} (hR : zall rf zRK = true) {x1 : Int} {x2 : Int} (h : Cv X d 242 [(2, 261), (0, 1), (0, 0)] rf mem (fun mem1 => (0 ≤ (6 + x1) ∧ (6 + x1) < 132) ∧ (L_m_canBeFrom_21 X d rf Q (zup mem1 297 ((6 + x1)).toNat x2) x1 x2 0 0))) : Ci X (d + 1) 294 [(2, 261), (0, x1), (0, x2)] rf mem Q := by
  show zW X (d + 1) 294 0 [(2, 261), (0, x1), (0, x2), (9, 0), (9, 0), (9, 0)] [] (zty, rf, mem) (qi rf Q)
  refine zW.go 3 3 [(2, 261), (0, x1), (0, x2), (9, 0), (9, 0), (9, 0)] [(0, 0), (0, 1), (2, 261)] _ rfl ?_
  refine w_callv (as := [(2, 261), (0, 1), (0, 0)]) [] 6 rfl rfl rfl rfl (Nat.le_of_ble_eq_true rfl) (Nat.le_of_ble_eq_true rfl) (Nat.le_of_ble_eq_true rfl) (Or.inr rfl) (Cv.imp h (fun mem1 h => ?_))
  refine zW.go 1 7 [(2, 261), (0, x1), (0, x2), (9, 0), (9, 0), (9, 0)] [(2, 261)] _ rfl ?_
  refine w_getL (q := 261) (v := 297) rfl (by decide) (pc' := 10) rfl ⟨by decide, rfl⟩ rfl rfl (zall_at hR (by decide)) ?_
  refine zW.go 4 15 [(2, 261), (0, x1), (0, x2), (9, 0), (9, 0), (9, 0)] [(0, x2), (0, (6 + x1)), (2, 297)] _ rfl ?_
  obtain ⟨g, h⟩ := h
  refine w_iast (q := 297) rfl (by decide) (pc' := 16) rfl ⟨by decide, rfl⟩ rfl g rfl ?_
  refine zW.go 4 21 [(2, 261), (0, x1), (0, x2), (0, 0), (0, 0), (9, 0)] [] _ rfl ?_
  exact h (9, 0)
def L_m_leaves_4 (X : zX) (d : Nat) (rf : zF) (Q : Int → zF → Prop) (mem : zF) (x1 : Int) (x2 : Int) (x3 : Int) : Prop := zW X (d + 1) 295 4 [(2, 261), (0, x1), (0, x2), (0, x3)] [] (zty, rf, mem) (qi rf Q)
def L_m_leaves_37 (X : zX) (d : Nat) (rf : zF) (Q : Int → zF → Prop) (mem : zF) (x1 : Int) (x2 : Int) (x3 : Int) (s1 : Int) (s2 : Int) : Prop := zW X (d + 1) 295 37 [(2, 261), (0, x1), (0, x2), (0, x3)] [(0, s2), (0, s1), (2, 312)] (zty, rf, mem) (qi rf Q)
set_option maxRecDepth 4000 in
theorem s_m_leaves_4 {X : zX} {d : Nat} {rf mem : zF} {Q : Int → zF → Prop} (hR : zall rf zRK = true) {x1 : Int} {x2 : Int} {x3 : Int} (h : (inI x3) ∧ ((64 ≤ x3 → Q x2 mem) ∧ (¬ 64 ≤ x3 → Ci X d 254 [(2, 261), (0, x3)] rf mem (fun r2 mem3 => (inI r2) ∧ ((r2 = 0 → L_m_leaves_37 X d rf Q mem3 x1 x2 x3 x3 0) ∧ (¬ r2 = 0 → Ci X d 294 [(2, 261), (0, x1), (0, x3)] rf mem3 (fun r5 mem6 => (inI r5) ∧ ((r5 = 0 → L_m_leaves_37 X d rf Q mem6 x1 x2 x3 x3 0) ∧ (¬ r5 = 0 → L_m_leaves_37 X d rf Q mem6 x1 x2 x3 x3 1))))))))) : L_m_leaves_4 X d rf Q mem x1 x2 x3 := by
  refine zW.go 2 7 [(2, 261), (0, x1), (0, x2), (0, x3)] [(0, 64), (0, x3)] _ rfl ?_
  refine w_ic_ge rfl (by decide) (pc' := 10) rfl ⟨h.1, by decide⟩ (fun c1 => ?_) (fun c1 => ?_)
  · have h := h.2.1 c1
    refine zW.go 1 54 [(2, 261), (0, x1), (0, x2), (0, x3)] [(0, x2)] _ rfl ?_
    exact w_reti rfl rfl h
  · have h := h.2.2 c1
    refine zW.go 1 11 [(2, 261), (0, x1), (0, x2), (0, x3)] [(2, 261)] _ rfl ?_
    refine w_getL (q := 261) (v := 312) rfl (by decide) (pc' := 14) rfl ⟨by decide, rfl⟩ rfl rfl (zall_at hR (by decide)) ?_
    refine zW.go 3 17 [(2, 261), (0, x1), (0, x2), (0, x3)] [(0, x3), (2, 261), (0, x3), (2, 312)] _ rfl ?_
    refine w_calli (as := [(2, 261), (0, x3)]) [(0, x3), (2, 312)] 20 rfl rfl rfl rfl (Nat.le_of_ble_eq_true rfl) (Nat.le_of_ble_eq_true rfl) (Nat.le_of_ble_eq_true rfl) (Or.inr rfl) (Ci.imp h (fun r2 mem3 h => ?_))
    refine w_if_eq rfl (by decide) (pc' := 23) rfl h.1 (fun c4 => ?_) (fun c4 => ?_)
    · have h := h.2.1 c4
      refine zW.go 1 37 [(2, 261), (0, x1), (0, x2), (0, x3)] [(0, 0), (0, x3), (2, 312)] _ rfl ?_
      exact h
    · have h := h.2.2 c4
      refine zW.go 3 26 [(2, 261), (0, x1), (0, x2), (0, x3)] [(0, x3), (0, x1), (2, 261), (0, x3), (2, 312)] _ rfl ?_
      refine w_calli (as := [(2, 261), (0, x1), (0, x3)]) [(0, x3), (2, 312)] 29 rfl rfl rfl rfl (Nat.le_of_ble_eq_true rfl) (Nat.le_of_ble_eq_true rfl) (Nat.le_of_ble_eq_true rfl) (Or.inr rfl) (Ci.imp h (fun r5 mem6 h => ?_))
      refine w_if_eq rfl (by decide) (pc' := 32) rfl h.1 (fun c7 => ?_) (fun c7 => ?_)
      · have h := h.2.1 c7
        refine zW.go 1 37 [(2, 261), (0, x1), (0, x2), (0, x3)] [(0, 0), (0, x3), (2, 312)] _ rfl ?_
        exact h
      · have h := h.2.2 c7
        refine zW.go 2 37 [(2, 261), (0, x1), (0, x2), (0, x3)] [(0, 1), (0, x3), (2, 312)] _ rfl ?_
        exact h
set_option maxRecDepth 4000 in
theorem s_m_leaves_37 {X : zX} {d : Nat} {rf mem : zF} {Q : Int → zF → Prop} (hR : zall rf zRK = true) {x1 : Int} {x2 : Int} {x3 : Int} {s1 : Int} {s2 : Int} (h : (0 ≤ s1 ∧ s1 < 64) ∧ ((0 ≤ x3 ∧ x3 < 64) ∧ (L_m_leaves_4 X d rf Q (zup mem 312 (s1).toNat s2) x1 (x2 + ((zup mem 312 (s1).toNat s2) 312 (x3).toNat)) (x3 + 1)))) : L_m_leaves_37 X d rf Q mem x1 x2 x3 s1 s2 := by
  obtain ⟨g, h⟩ := h
  refine w_iast (q := 312) rfl (by decide) (pc' := 38) rfl ⟨by decide, rfl⟩ rfl g rfl ?_
  refine zW.go 2 40 [(2, 261), (0, x1), (0, x2), (0, x3)] [(2, 261), (0, x2)] _ rfl ?_
  refine w_getL (q := 261) (v := 312) rfl (by decide) (pc' := 43) rfl ⟨by decide, rfl⟩ rfl rfl (zall_at hR (by decide)) ?_
  refine zW.go 1 44 [(2, 261), (0, x1), (0, x2), (0, x3)] [(0, x3), (2, 312), (0, x2)] _ rfl ?_
  obtain ⟨g, h⟩ := h
  refine w_iald (q := 312) rfl (by decide) (pc' := 45) rfl ⟨by decide, rfl⟩ rfl g rfl ?_
  refine zW.go 4 4 [(2, 261), (0, x1), (0, (x2 + ((zup mem 312 (s1).toNat s2) 312 (x3).toNat))), (0, (x3 + 1))] [] _ rfl ?_
  exact h
set_option maxRecDepth 4000 in
theorem s_m_leaves {X : zX} {d : Nat} {rf mem : zF} {Q : Int → zF → Prop} (hR : zall rf zRK = true) {x1 : Int} (h : L_m_leaves_4 X d rf Q mem x1 0 0) : Ci X (d + 1) 295 [(2, 261), (0, x1)] rf mem Q := by
  show zW X (d + 1) 295 0 [(2, 261), (0, x1), (9, 0), (9, 0)] [] (zty, rf, mem) (qi rf Q)
  refine zW.go 4 4 [(2, 261), (0, x1), (0, 0), (0, 0)] [] _ rfl ?_
  exact h
def L_m_from_43 (X : zX) (d : Nat) (rf : zF) (Q : Int → zF → Prop) (mem : zF) (x2 : Int) (x4 : Int) (x5 : Int) : Prop := ∀ z1 : zV, ∀ z3 : zV, z3.1 ≠ 1 → zW X (d + 1) 296 43 [(2, 261), z1, (0, x2), z3, (0, x4), (0, x5)] [] (zty, rf, mem) (qi rf Q)
def L_m_from_70 (X : zX) (d : Nat) (rf : zF) (Q : Int → zF → Prop) (mem : zF) (x2 : Int) (x4 : Int) (x5 : Int) : Prop := ∀ z1 : zV, ∀ z3 : zV, z3.1 ≠ 1 → zW X (d + 1) 296 70 [(2, 261), z1, (0, x2), z3, (0, x4), (0, x5)] [] (zty, rf, mem) (qi rf Q)
set_option maxRecDepth 4000 in
theorem s_m_from_43 {X : zX} {d : Nat} {rf mem : zF} {Q : Int → zF → Prop} (hR : zall rf zRK = true) {x2 : Int} {x4 : Int} {x5 : Int} (h : (inI x5) ∧ ((64 ≤ x5 → Q (-1) mem) ∧ (¬ 64 ≤ x5 → (0 ≤ x5 ∧ x5 < 64) ∧ ((inI (mem 312 (x5).toNat)) ∧ ((¬ (mem 312 (x5).toNat) = 1 → L_m_from_70 X d rf Q mem x2 x4 x5) ∧ ((mem 312 (x5).toNat) = 1 → (inI x4 ∧ inI x2) ∧ ((¬ x4 = x2 → L_m_from_70 X d rf Q mem x2 x4 x5) ∧ (x4 = x2 → Q x5 mem)))))))) : L_m_from_43 X d rf Q mem x2 x4 x5 := by
  intro z1 z3 hz3
  refine zW.go 2 47 [(2, 261), z1, (0, x2), z3, (0, x4), (0, x5)] [(0, 64), (0, x5)] _ rfl ?_
  refine w_ic_ge rfl (by decide) (pc' := 50) rfl ⟨h.1, by decide⟩ (fun c11 => ?_) (fun c11 => ?_)
  · have h := h.2.1 c11
    refine zW.go 1 89 [(2, 261), z1, (0, x2), z3, (0, x4), (0, x5)] [(0, (-1))] _ rfl ?_
    exact w_reti rfl rfl h
  · have h := h.2.2 c11
    refine zW.go 1 51 [(2, 261), z1, (0, x2), z3, (0, x4), (0, x5)] [(2, 261)] _ rfl ?_
    refine w_getL (q := 261) (v := 312) rfl (by decide) (pc' := 54) rfl ⟨by decide, rfl⟩ rfl rfl (zall_at hR (by decide)) ?_
    refine zW.go 1 56 [(2, 261), z1, (0, x2), z3, (0, x4), (0, x5)] [(0, x5), (2, 312)] _ rfl ?_
    obtain ⟨g, h⟩ := h
    refine w_iald (q := 312) rfl (by decide) (pc' := 57) rfl ⟨by decide, rfl⟩ rfl g rfl ?_
    refine zW.go 1 58 [(2, 261), z1, (0, x2), z3, (0, x4), (0, x5)] [(0, 1), (0, (mem 312 (x5).toNat))] _ rfl ?_
    refine w_ic_ne rfl (by decide) (pc' := 61) rfl ⟨h.1, by decide⟩ (fun c12 => ?_) (fun c12 => ?_)
    · have h := h.2.1 c12
      exact h z1 z3 hz3
    · have h := h.2.2 c12
      refine zW.go 2 64 [(2, 261), z1, (0, x2), z3, (0, x4), (0, x5)] [(0, x2), (0, x4)] _ rfl ?_
      refine w_ic_ne rfl (by decide) (pc' := 67) rfl h.1 (fun c13 => ?_) (fun c13 => ?_)
      · have h := h.2.1 c13
        exact h z1 z3 hz3
      · have h := h.2.2 c13
        refine zW.go 1 69 [(2, 261), z1, (0, x2), z3, (0, x4), (0, x5)] [(0, x5)] _ rfl ?_
        exact w_reti rfl rfl h
set_option maxRecDepth 4000 in
theorem s_m_from_70 {X : zX} {d : Nat} {rf mem : zF} {Q : Int → zF → Prop} (hR : zall rf zRK = true) {x2 : Int} {x4 : Int} {x5 : Int} (h : (0 ≤ x5 ∧ x5 < 64) ∧ (L_m_from_43 X d rf Q mem x2 (x4 + (mem 312 (x5).toNat)) (x5 + 1))) : L_m_from_70 X d rf Q mem x2 x4 x5 := by
  intro z1 z3 hz3
  refine zW.go 2 73 [(2, 261), z1, (0, x2), z3, (0, x4), (0, x5)] [(2, 261), (0, x4)] _ rfl ?_
  refine w_getL (q := 261) (v := 312) rfl (by decide) (pc' := 76) rfl ⟨by decide, rfl⟩ rfl rfl (zall_at hR (by decide)) ?_
  refine zW.go 1 78 [(2, 261), z1, (0, x2), z3, (0, x4), (0, x5)] [(0, x5), (2, 312), (0, x4)] _ rfl ?_
  obtain ⟨g, h⟩ := h
  refine w_iald (q := 312) rfl (by decide) (pc' := 79) rfl ⟨by decide, rfl⟩ rfl g rfl ?_
  refine zW.go 1 80 [(2, 261), z1, (0, x2), z3, (0, x4), (0, x5)] [(0, (x4 + (mem 312 (x5).toNat)))] _ rfl ?_
  refine zW.step 82 [(2, 261), z1, (0, x2), z3, (0, (x4 + (mem 312 (x5).toNat))), (0, x5)] [] _ rfl (by decide) (by decide) (by show some (_, zst1 [(2, 261), z1, (0, x2), z3, (0, x4), (0, x5)] 4 _, _, _) = _; rw [zst1_z (ls := [(2, 261), z1, (0, x2), z3, (0, x4), (0, x5)]) (i := 4) hz3]; rfl) ?_
  refine zW.go 2 43 [(2, 261), z1, (0, x2), z3, (0, (x4 + (mem 312 (x5).toNat))), (0, (x5 + 1))] [] _ rfl ?_
  exact h z1 z3 hz3
set_option maxRecDepth 4000 in
theorem s_m_from {X : zX} {d : Nat} {rf mem : zF} {Q : Int → zF → Prop} (hR : zall rf zRK = true) {x1 : Int} {x2 : Int} (h : Ci X d 271 [(2, 261), (0, x1)] rf mem (fun r1 mem2 => (inI r1) ∧ ((r1 = 0 → Q (-1) mem2) ∧ (¬ r1 = 0 → Ci X d 258 [(2, 261), (0, 0), (0, x1)] rf mem2 (fun r4 mem5 => (inI r4) ∧ ((r4 = 0 → Q (-1) mem5) ∧ (¬ r4 = 0 → (inI x2) ∧ (((-1) ≤ x2 → Ci X d 295 [(2, 261), (0, x1)] rf mem5 (fun r8 mem9 => (inI x2) ∧ ((¬ x2 = (-1) → L_m_from_43 X d rf Q mem9 x2 0 0) ∧ (x2 = (-1) → Q r8 mem9)))) ∧ (¬ (-1) ≤ x2 → Q (-1) mem5))))))))) : Ci X (d + 1) 296 [(2, 261), (0, x1), (0, x2)] rf mem Q := by
  show zW X (d + 1) 296 0 [(2, 261), (0, x1), (0, x2), (9, 0), (9, 0), (9, 0)] [] (zty, rf, mem) (qi rf Q)
  refine zW.go 2 2 [(2, 261), (0, x1), (0, x2), (9, 0), (9, 0), (9, 0)] [(0, x1), (2, 261)] _ rfl ?_
  refine w_calli (as := [(2, 261), (0, x1)]) [] 5 rfl rfl rfl rfl (Nat.le_of_ble_eq_true rfl) (Nat.le_of_ble_eq_true rfl) (Nat.le_of_ble_eq_true rfl) (Or.inr rfl) (Ci.imp h (fun r1 mem2 h => ?_))
  refine w_if_eq rfl (by decide) (pc' := 8) rfl h.1 (fun c3 => ?_) (fun c3 => ?_)
  · have h := h.2.1 c3
    refine zW.go 1 23 [(2, 261), (0, x1), (0, x2), (9, 0), (9, 0), (9, 0)] [(0, (-1))] _ rfl ?_
    exact w_reti rfl rfl h
  · have h := h.2.2 c3
    refine zW.go 3 11 [(2, 261), (0, x1), (0, x2), (9, 0), (9, 0), (9, 0)] [(0, x1), (0, 0), (2, 261)] _ rfl ?_
    refine w_calli (as := [(2, 261), (0, 0), (0, x1)]) [] 14 rfl rfl rfl rfl (Nat.le_of_ble_eq_true rfl) (Nat.le_of_ble_eq_true rfl) (Nat.le_of_ble_eq_true rfl) (Or.inr rfl) (Ci.imp h (fun r4 mem5 h => ?_))
    refine w_if_eq rfl (by decide) (pc' := 17) rfl h.1 (fun c6 => ?_) (fun c6 => ?_)
    · have h := h.2.1 c6
      refine zW.go 1 23 [(2, 261), (0, x1), (0, x2), (9, 0), (9, 0), (9, 0)] [(0, (-1))] _ rfl ?_
      exact w_reti rfl rfl h
    · have h := h.2.2 c6
      refine zW.go 2 19 [(2, 261), (0, x1), (0, x2), (9, 0), (9, 0), (9, 0)] [(0, (-1)), (0, x2)] _ rfl ?_
      refine w_ic_ge rfl (by decide) (pc' := 22) rfl ⟨h.1, by decide⟩ (fun c7 => ?_) (fun c7 => ?_)
      · have h := h.2.1 c7
        refine zW.go 2 26 [(2, 261), (0, x1), (0, x2), (9, 0), (9, 0), (9, 0)] [(0, x1), (2, 261)] _ rfl ?_
        refine w_calli (as := [(2, 261), (0, x1)]) [] 29 rfl rfl rfl rfl (Nat.le_of_ble_eq_true rfl) (Nat.le_of_ble_eq_true rfl) (Nat.le_of_ble_eq_true rfl) (Or.inr rfl) (Ci.imp h (fun r8 mem9 h => ?_))
        refine zW.go 3 32 [(2, 261), (0, x1), (0, x2), (0, r8), (9, 0), (9, 0)] [(0, (-1)), (0, x2)] _ rfl ?_
        refine w_ic_ne rfl (by decide) (pc' := 35) rfl ⟨h.1, by decide⟩ (fun c10 => ?_) (fun c10 => ?_)
        · have h := h.2.1 c10
          refine zW.go 4 43 [(2, 261), (0, x1), (0, x2), (0, r8), (0, 0), (0, 0)] [] _ rfl ?_
          exact h (0, x1) (0, r8) (by show (0 : Nat) ≠ 1; decide)
        · have h := h.2.2 c10
          refine zW.go 1 36 [(2, 261), (0, x1), (0, x2), (0, r8), (9, 0), (9, 0)] [(0, r8)] _ rfl ?_
          exact w_reti rfl rfl h
      · have h := h.2.2 c7
        refine zW.go 1 23 [(2, 261), (0, x1), (0, x2), (9, 0), (9, 0), (9, 0)] [(0, (-1))] _ rfl ?_
        exact w_reti rfl rfl h
def L_m_mostBy_2 (X : zX) (d : Nat) (rf : zF) (Q : Int → zF → Prop) (mem : zF) (x1 : Int) (x2 : Int) : Prop := ∀ z3 : zV, ∀ z4 : zV, zW X d 297 2 [(2, 261), (0, x1), (0, x2), z3, z4] [] (zty, rf, mem) (qi rf Q)
def L_m_mostBy_25 (X : zX) (d : Nat) (rf : zF) (Q : Int → zF → Prop) (mem : zF) (x1 : Int) (x2 : Int) (x3 : Int) : Prop := ∀ z4 : zV, zW X d 297 25 [(2, 261), (0, x1), (0, x2), (0, x3), z4] [] (zty, rf, mem) (qi rf Q)
set_option maxRecDepth 4000 in
theorem s_m_mostBy_2 {X : zX} {d : Nat} {rf mem : zF} {Q : Int → zF → Prop} (hR : zall rf zRK = true) {x1 : Int} {x2 : Int} (h : (inI x2) ∧ ((64 < x2 → L_m_mostBy_25 X d rf Q mem x1 0 0) ∧ (¬ 64 < x2 → (0 ≤ x2 ∧ x2 < 65) ∧ (L_m_mostBy_2 X d rf Q (zup mem 313 (x2).toNat 0) x1 (x2 + 1))))) : L_m_mostBy_2 X d rf Q mem x1 x2 := by
  intro z3 z4
  refine zW.go 2 5 [(2, 261), (0, x1), (0, x2), z3, z4] [(0, 64), (0, x2)] _ rfl ?_
  refine w_ic_gt rfl (by decide) (pc' := 8) rfl ⟨h.1, by decide⟩ (fun c1 => ?_) (fun c1 => ?_)
  · have h := h.2.1 c1
    refine zW.go 4 25 [(2, 261), (0, x1), (0, 0), (0, 0), z4] [] _ rfl ?_
    exact h z4
  · have h := h.2.2 c1
    refine zW.go 1 9 [(2, 261), (0, x1), (0, x2), z3, z4] [(2, 261)] _ rfl ?_
    refine w_getL (q := 261) (v := 313) rfl (by decide) (pc' := 12) rfl ⟨by decide, rfl⟩ rfl rfl (zall_at hR (by decide)) ?_
    refine zW.go 2 14 [(2, 261), (0, x1), (0, x2), z3, z4] [(0, 0), (0, x2), (2, 313)] _ rfl ?_
    obtain ⟨g, h⟩ := h
    refine w_iast (q := 313) rfl (by decide) (pc' := 15) rfl ⟨by decide, rfl⟩ rfl g rfl ?_
    refine zW.go 2 2 [(2, 261), (0, x1), (0, (x2 + 1)), z3, z4] [] _ rfl ?_
    exact h z3 z4
set_option maxRecDepth 4000 in
theorem s_m_mostBy_25 {X : zX} {d : Nat} {rf mem : zF} {Q : Int → zF → Prop} (hR : zall rf zRK = true) {x1 : Int} {x2 : Int} {x3 : Int} (h : (inI x3) ∧ ((64 ≤ x3 → Q x2 mem) ∧ (¬ 64 ≤ x3 → (0 ≤ x3 ∧ x3 < 64) ∧ ((inI (mem 312 (x3).toNat)) ∧ ((¬ (mem 312 (x3).toNat) = 0 → (0 ≤ ((31 * x3) + x1) ∧ ((31 * x3) + x1) < 1984) ∧ ((0 ≤ ((mem 311 (((31 * x3) + x1)).toNat) + 1) ∧ ((mem 311 (((31 * x3) + x1)).toNat) + 1) < 65) ∧ ((0 ≤ ((mem 311 (((31 * x3) + x1)).toNat) + 1) ∧ ((mem 311 (((31 * x3) + x1)).toNat) + 1) < 65) ∧ ((0 ≤ ((mem 311 (((31 * x3) + x1)).toNat) + 1) ∧ ((mem 311 (((31 * x3) + x1)).toNat) + 1) < 65) ∧ ((inI ((zup mem 313 (((mem 311 (((31 * x3) + x1)).toNat) + 1)).toNat ((mem 313 (((mem 311 (((31 * x3) + x1)).toNat) + 1)).toNat) + 1)) 313 (((mem 311 (((31 * x3) + x1)).toNat) + 1)).toNat) ∧ inI x2) ∧ ((((zup mem 313 (((mem 311 (((31 * x3) + x1)).toNat) + 1)).toNat ((mem 313 (((mem 311 (((31 * x3) + x1)).toNat) + 1)).toNat) + 1)) 313 (((mem 311 (((31 * x3) + x1)).toNat) + 1)).toNat) ≤ x2 → L_m_mostBy_25 X d rf Q (zup mem 313 (((mem 311 (((31 * x3) + x1)).toNat) + 1)).toNat ((mem 313 (((mem 311 (((31 * x3) + x1)).toNat) + 1)).toNat) + 1)) x1 x2 (x3 + 1)) ∧ (¬ ((zup mem 313 (((mem 311 (((31 * x3) + x1)).toNat) + 1)).toNat ((mem 313 (((mem 311 (((31 * x3) + x1)).toNat) + 1)).toNat) + 1)) 313 (((mem 311 (((31 * x3) + x1)).toNat) + 1)).toNat) ≤ x2 → (0 ≤ ((mem 311 (((31 * x3) + x1)).toNat) + 1) ∧ ((mem 311 (((31 * x3) + x1)).toNat) + 1) < 65) ∧ (L_m_mostBy_25 X d rf Q (zup mem 313 (((mem 311 (((31 * x3) + x1)).toNat) + 1)).toNat ((mem 313 (((mem 311 (((31 * x3) + x1)).toNat) + 1)).toNat) + 1)) x1 ((zup mem 313 (((mem 311 (((31 * x3) + x1)).toNat) + 1)).toNat ((mem 313 (((mem 311 (((31 * x3) + x1)).toNat) + 1)).toNat) + 1)) 313 (((mem 311 (((31 * x3) + x1)).toNat) + 1)).toNat) (x3 + 1))))))))) ∧ ((mem 312 (x3).toNat) = 0 → L_m_mostBy_25 X d rf Q mem x1 x2 (x3 + 1))))))) : L_m_mostBy_25 X d rf Q mem x1 x2 x3 := by
  intro z4
  refine zW.go 2 28 [(2, 261), (0, x1), (0, x2), (0, x3), z4] [(0, 64), (0, x3)] _ rfl ?_
  refine w_ic_ge rfl (by decide) (pc' := 31) rfl ⟨h.1, by decide⟩ (fun c2 => ?_) (fun c2 => ?_)
  · have h := h.2.1 c2
    refine zW.go 1 99 [(2, 261), (0, x1), (0, x2), (0, x3), z4] [(0, x2)] _ rfl ?_
    exact w_reti rfl rfl h
  · have h := h.2.2 c2
    refine zW.go 1 32 [(2, 261), (0, x1), (0, x2), (0, x3), z4] [(2, 261)] _ rfl ?_
    refine w_getL (q := 261) (v := 312) rfl (by decide) (pc' := 35) rfl ⟨by decide, rfl⟩ rfl rfl (zall_at hR (by decide)) ?_
    refine zW.go 1 36 [(2, 261), (0, x1), (0, x2), (0, x3), z4] [(0, x3), (2, 312)] _ rfl ?_
    obtain ⟨g, h⟩ := h
    refine w_iald (q := 312) rfl (by decide) (pc' := 37) rfl ⟨by decide, rfl⟩ rfl g rfl ?_
    refine w_if_ne rfl (by decide) (pc' := 40) rfl h.1 (fun c3 => ?_) (fun c3 => ?_)
    · have h := h.2.1 c3
      refine zW.go 1 44 [(2, 261), (0, x1), (0, x2), (0, x3), z4] [(2, 261)] _ rfl ?_
      refine w_getL (q := 261) (v := 311) rfl (by decide) (pc' := 47) rfl ⟨by decide, rfl⟩ rfl rfl (zall_at hR (by decide)) ?_
      refine zW.go 5 53 [(2, 261), (0, x1), (0, x2), (0, x3), z4] [(0, ((31 * x3) + x1)), (2, 311)] _ rfl ?_
      obtain ⟨g, h⟩ := h
      refine w_iald (q := 311) rfl (by decide) (pc' := 54) rfl ⟨by decide, rfl⟩ rfl g rfl ?_
      refine zW.go 4 59 [(2, 261), (0, x1), (0, x2), (0, x3), (0, ((mem 311 (((31 * x3) + x1)).toNat) + 1))] [(2, 261)] _ rfl ?_
      refine w_getL (q := 261) (v := 313) rfl (by decide) (pc' := 62) rfl ⟨by decide, rfl⟩ rfl rfl (zall_at hR (by decide)) ?_
      refine zW.go 2 65 [(2, 261), (0, x1), (0, x2), (0, x3), (0, ((mem 311 (((31 * x3) + x1)).toNat) + 1))] [(0, ((mem 311 (((31 * x3) + x1)).toNat) + 1)), (2, 313), (0, ((mem 311 (((31 * x3) + x1)).toNat) + 1)), (2, 313)] _ rfl ?_
      obtain ⟨g, h⟩ := h
      refine w_iald (q := 313) rfl (by decide) (pc' := 66) rfl ⟨by decide, rfl⟩ rfl g rfl ?_
      refine zW.go 2 68 [(2, 261), (0, x1), (0, x2), (0, x3), (0, ((mem 311 (((31 * x3) + x1)).toNat) + 1))] [(0, ((mem 313 (((mem 311 (((31 * x3) + x1)).toNat) + 1)).toNat) + 1)), (0, ((mem 311 (((31 * x3) + x1)).toNat) + 1)), (2, 313)] _ rfl ?_
      obtain ⟨g, h⟩ := h
      refine w_iast (q := 313) rfl (by decide) (pc' := 69) rfl ⟨by decide, rfl⟩ rfl g rfl ?_
      refine zW.go 1 70 [(2, 261), (0, x1), (0, x2), (0, x3), (0, ((mem 311 (((31 * x3) + x1)).toNat) + 1))] [(2, 261)] _ rfl ?_
      refine w_getL (q := 261) (v := 313) rfl (by decide) (pc' := 73) rfl ⟨by decide, rfl⟩ rfl rfl (zall_at hR (by decide)) ?_
      refine zW.go 1 75 [(2, 261), (0, x1), (0, x2), (0, x3), (0, ((mem 311 (((31 * x3) + x1)).toNat) + 1))] [(0, ((mem 311 (((31 * x3) + x1)).toNat) + 1)), (2, 313)] _ rfl ?_
      obtain ⟨g, h⟩ := h
      refine w_iald (q := 313) rfl (by decide) (pc' := 76) rfl ⟨by decide, rfl⟩ rfl g rfl ?_
      refine zW.go 1 77 [(2, 261), (0, x1), (0, x2), (0, x3), (0, ((mem 311 (((31 * x3) + x1)).toNat) + 1))] [(0, x2), (0, ((zup mem 313 (((mem 311 (((31 * x3) + x1)).toNat) + 1)).toNat ((mem 313 (((mem 311 (((31 * x3) + x1)).toNat) + 1)).toNat) + 1)) 313 (((mem 311 (((31 * x3) + x1)).toNat) + 1)).toNat))] _ rfl ?_
      refine w_ic_le rfl (by decide) (pc' := 80) rfl h.1 (fun c4 => ?_) (fun c4 => ?_)
      · have h := h.2.1 c4
        refine zW.go 4 25 [(2, 261), (0, x1), (0, x2), (0, (x3 + 1)), (0, ((mem 311 (((31 * x3) + x1)).toNat) + 1))] [] _ rfl ?_
        exact h (0, ((mem 311 (((31 * x3) + x1)).toNat) + 1))
      · have h := h.2.2 c4
        refine zW.go 1 81 [(2, 261), (0, x1), (0, x2), (0, x3), (0, ((mem 311 (((31 * x3) + x1)).toNat) + 1))] [(2, 261)] _ rfl ?_
        refine w_getL (q := 261) (v := 313) rfl (by decide) (pc' := 84) rfl ⟨by decide, rfl⟩ rfl rfl (zall_at hR (by decide)) ?_
        refine zW.go 1 86 [(2, 261), (0, x1), (0, x2), (0, x3), (0, ((mem 311 (((31 * x3) + x1)).toNat) + 1))] [(0, ((mem 311 (((31 * x3) + x1)).toNat) + 1)), (2, 313)] _ rfl ?_
        obtain ⟨g, h⟩ := h
        refine w_iald (q := 313) rfl (by decide) (pc' := 87) rfl ⟨by decide, rfl⟩ rfl g rfl ?_
        refine zW.go 4 25 [(2, 261), (0, x1), (0, ((zup mem 313 (((mem 311 (((31 * x3) + x1)).toNat) + 1)).toNat ((mem 313 (((mem 311 (((31 * x3) + x1)).toNat) + 1)).toNat) + 1)) 313 (((mem 311 (((31 * x3) + x1)).toNat) + 1)).toNat)), (0, (x3 + 1)), (0, ((mem 311 (((31 * x3) + x1)).toNat) + 1))] [] _ rfl ?_
        exact h (0, ((mem 311 (((31 * x3) + x1)).toNat) + 1))
    · have h := h.2.2 c3
      refine zW.go 3 25 [(2, 261), (0, x1), (0, x2), (0, (x3 + 1)), z4] [] _ rfl ?_
      exact h z4
set_option maxRecDepth 4000 in
theorem s_m_mostBy {X : zX} {d : Nat} {rf mem : zF} {Q : Int → zF → Prop} (hR : zall rf zRK = true) {x1 : Int} (h : L_m_mostBy_2 X d rf Q mem x1 0) : Ci X d 297 [(2, 261), (0, x1)] rf mem Q := by
  show zW X d 297 0 [(2, 261), (0, x1), (9, 0), (9, 0), (9, 0)] [] (zty, rf, mem) (qi rf Q)
  refine zW.go 2 2 [(2, 261), (0, x1), (0, 0), (9, 0), (9, 0)] [] _ rfl ?_
  exact h (9, 0) (9, 0)
def L_m_tells_45 (X : zX) (d : Nat) (rf : zF) (Q : Int → zF → Prop) (mem : zF) (x2 : Int) (x3 : Int) (x4 : Int) (x5 : Int) (x6 : Int) : Prop := ∀ z1 : zV, ∀ z7 : zV, zW X (d + 1) 298 45 [(2, 261), z1, (0, x2), (0, x3), (0, x4), (0, x5), (0, x6), z7] [] (zty, rf, mem) (qi rf Q)
def L_m_tells_93 (X : zX) (d : Nat) (rf : zF) (Q : Int → zF → Prop) (mem : zF) (x2 : Int) (x4 : Int) (x5 : Int) : Prop := ∀ z0 : zV, ∀ z1 : zV, ∀ z3 : zV, ∀ z6 : zV, ∀ z7 : zV, zW X (d + 1) 298 93 [z0, z1, (0, x2), z3, (0, x4), (0, x5), z6, z7] [] (zty, rf, mem) (qi rf Q)
set_option maxRecDepth 4000 in
theorem s_m_tells_45 {X : zX} {d : Nat} {rf mem : zF} {Q : Int → zF → Prop} (hR : zall rf zRK = true) {x2 : Int} {x3 : Int} {x4 : Int} {x5 : Int} {x6 : Int} (h : Ci X d 283 [(2, 261), (0, x6), (0, 1), (0, 30)] rf mem (fun r12 mem13 => (inI r12) ∧ ((r12 = 0 → L_m_tells_93 X d rf Q mem13 x2 x4 x5) ∧ (¬ r12 = 0 → (inI x3) ∧ ((x3 ≤ 0 → L_m_tells_93 X d rf Q mem13 x2 x4 x5) ∧ (¬ x3 ≤ 0 → Ci X d 297 [(2, 261), (0, x6)] rf mem13 (fun r16 mem17 => (inI r16 ∧ inI x5) ∧ ((r16 < x5 → L_m_tells_45 X d rf Q mem17 x2 x3 x6 r16 (x6 + 1)) ∧ (¬ r16 < x5 → L_m_tells_45 X d rf Q mem17 x2 x3 x4 x5 (x6 + 1)))))))))) : L_m_tells_45 X d rf Q mem x2 x3 x4 x5 x6 := by
  intro z1 z7
  refine zW.go 4 51 [(2, 261), z1, (0, x2), (0, x3), (0, x4), (0, x5), (0, x6), z7] [(0, 30), (0, 1), (0, x6), (2, 261)] _ rfl ?_
  refine w_calli (as := [(2, 261), (0, x6), (0, 1), (0, 30)]) [] 54 rfl rfl rfl rfl (Nat.le_of_ble_eq_true rfl) (Nat.le_of_ble_eq_true rfl) (Nat.le_of_ble_eq_true rfl) (Or.inr rfl) (Ci.imp h (fun r12 mem13 h => ?_))
  refine w_if_eq rfl (by decide) (pc' := 57) rfl h.1 (fun c14 => ?_) (fun c14 => ?_)
  · have h := h.2.1 c14
    exact h (2, 261) z1 (0, x3) (0, x6) z7
  · have h := h.2.2 c14
    refine zW.go 1 58 [(2, 261), z1, (0, x2), (0, x3), (0, x4), (0, x5), (0, x6), z7] [(0, x3)] _ rfl ?_
    refine w_if_le rfl (by decide) (pc' := 61) rfl h.1 (fun c15 => ?_) (fun c15 => ?_)
    · have h := h.2.1 c15
      exact h (2, 261) z1 (0, x3) (0, x6) z7
    · have h := h.2.2 c15
      refine zW.go 2 64 [(2, 261), z1, (0, x2), (0, x3), (0, x4), (0, x5), (0, x6), z7] [(0, x6), (2, 261)] _ rfl ?_
      refine w_calli (as := [(2, 261), (0, x6)]) [] 67 rfl rfl rfl rfl (Nat.le_of_ble_eq_true rfl) (Nat.le_of_ble_eq_true rfl) (Nat.le_of_ble_eq_true rfl) (Or.inr rfl) (Ci.imp h (fun r16 mem17 h => ?_))
      refine zW.go 3 73 [(2, 261), z1, (0, x2), (0, x3), (0, x4), (0, x5), (0, x6), (0, r16)] [(0, x5), (0, r16)] _ rfl ?_
      refine w_ic_lt rfl (by decide) (pc' := 76) rfl h.1 (fun c18 => ?_) (fun c18 => ?_)
      · have h := h.2.1 c18
        refine zW.go 6 45 [(2, 261), z1, (0, x2), (0, x3), (0, x6), (0, r16), (0, (x6 + 1)), (0, r16)] [] _ rfl ?_
        exact h z1 (0, r16)
      · have h := h.2.2 c18
        refine zW.go 3 45 [(2, 261), z1, (0, x2), (0, x3), (0, x4), (0, x5), (0, (x6 + 1)), (0, r16)] [] _ rfl ?_
        exact h z1 (0, r16)
set_option maxRecDepth 4000 in
theorem s_m_tells_93 {X : zX} {d : Nat} {rf mem : zF} {Q : Int → zF → Prop} (hR : zall rf zRK = true) {x2 : Int} {x4 : Int} {x5 : Int} (h : (inI x4) ∧ ((x4 = (-1) → Q x4 mem) ∧ (¬ x4 = (-1) → (inI x2) ∧ ((¬ x2 = 0 → Q x5 mem) ∧ (x2 = 0 → Q x4 mem))))) : L_m_tells_93 X d rf Q mem x2 x4 x5 := by
  intro z0 z1 z3 z6 z7
  refine zW.go 2 96 [z0, z1, (0, x2), z3, (0, x4), (0, x5), z6, z7] [(0, (-1)), (0, x4)] _ rfl ?_
  refine w_ic_eq rfl (by decide) (pc' := 99) rfl ⟨h.1, by decide⟩ (fun c19 => ?_) (fun c19 => ?_)
  · have h := h.2.1 c19
    refine zW.go 2 110 [z0, z1, (0, x2), z3, (0, x4), (0, x5), z6, z7] [(0, x4)] _ rfl ?_
    exact w_reti rfl rfl h
  · have h := h.2.2 c19
    refine zW.go 1 100 [z0, z1, (0, x2), z3, (0, x4), (0, x5), z6, z7] [(0, x2)] _ rfl ?_
    refine w_if_ne rfl (by decide) (pc' := 103) rfl h.1 (fun c20 => ?_) (fun c20 => ?_)
    · have h := h.2.1 c20
      refine zW.go 1 110 [z0, z1, (0, x2), z3, (0, x4), (0, x5), z6, z7] [(0, x5)] _ rfl ?_
      exact w_reti rfl rfl h
    · have h := h.2.2 c20
      refine zW.go 2 110 [z0, z1, (0, x2), z3, (0, x4), (0, x5), z6, z7] [(0, x4)] _ rfl ?_
      exact w_reti rfl rfl h
set_option maxRecDepth 4000 in
theorem s_m_tells {X : zX} {d : Nat} {rf mem : zF} {Q : Int → zF → Prop} (hR : zall rf zRK = true) {x1 : Int} {x2 : Int} (h : Ci X d 271 [(2, 261), (0, x1)] rf mem (fun r1 mem2 => (inI r1) ∧ ((r1 = 0 → Q (-1) mem2) ∧ (¬ r1 = 0 → Ci X d 258 [(2, 261), (0, 0), (0, x1)] rf mem2 (fun r4 mem5 => (inI r4) ∧ ((r4 = 0 → Q (-1) mem5) ∧ (¬ r4 = 0 → Ci X d 194 [(0, x2), (0, 0), (0, 1)] rf mem5 (fun r7 mem8 => (inI r7) ∧ ((¬ r7 = 0 → Ci X d 295 [(2, 261), (0, x1)] rf mem8 (fun r10 mem11 => L_m_tells_45 X d rf Q mem11 x2 r10 (-1) 100000000 1)) ∧ (r7 = 0 → Q (-1) mem8)))))))))) : Ci X (d + 1) 298 [(2, 261), (0, x1), (0, x2)] rf mem Q := by
  show zW X (d + 1) 298 0 [(2, 261), (0, x1), (0, x2), (9, 0), (9, 0), (9, 0), (9, 0), (9, 0)] [] (zty, rf, mem) (qi rf Q)
  refine zW.go 2 2 [(2, 261), (0, x1), (0, x2), (9, 0), (9, 0), (9, 0), (9, 0), (9, 0)] [(0, x1), (2, 261)] _ rfl ?_
  refine w_calli (as := [(2, 261), (0, x1)]) [] 5 rfl rfl rfl rfl (Nat.le_of_ble_eq_true rfl) (Nat.le_of_ble_eq_true rfl) (Nat.le_of_ble_eq_true rfl) (Or.inr rfl) (Ci.imp h (fun r1 mem2 h => ?_))
  refine w_if_eq rfl (by decide) (pc' := 8) rfl h.1 (fun c3 => ?_) (fun c3 => ?_)
  · have h := h.2.1 c3
    refine zW.go 1 27 [(2, 261), (0, x1), (0, x2), (9, 0), (9, 0), (9, 0), (9, 0), (9, 0)] [(0, (-1))] _ rfl ?_
    exact w_reti rfl rfl h
  · have h := h.2.2 c3
    refine zW.go 3 11 [(2, 261), (0, x1), (0, x2), (9, 0), (9, 0), (9, 0), (9, 0), (9, 0)] [(0, x1), (0, 0), (2, 261)] _ rfl ?_
    refine w_calli (as := [(2, 261), (0, 0), (0, x1)]) [] 14 rfl rfl rfl rfl (Nat.le_of_ble_eq_true rfl) (Nat.le_of_ble_eq_true rfl) (Nat.le_of_ble_eq_true rfl) (Or.inr rfl) (Ci.imp h (fun r4 mem5 h => ?_))
    refine w_if_eq rfl (by decide) (pc' := 17) rfl h.1 (fun c6 => ?_) (fun c6 => ?_)
    · have h := h.2.1 c6
      refine zW.go 1 27 [(2, 261), (0, x1), (0, x2), (9, 0), (9, 0), (9, 0), (9, 0), (9, 0)] [(0, (-1))] _ rfl ?_
      exact w_reti rfl rfl h
    · have h := h.2.2 c6
      refine zW.go 3 20 [(2, 261), (0, x1), (0, x2), (9, 0), (9, 0), (9, 0), (9, 0), (9, 0)] [(0, 1), (0, 0), (0, x2)] _ rfl ?_
      refine w_calli (as := [(0, x2), (0, 0), (0, 1)]) [] 23 rfl rfl rfl rfl (Nat.le_of_ble_eq_true rfl) (Nat.le_of_ble_eq_true rfl) (Nat.le_of_ble_eq_true rfl) (Or.inl rfl) (Ci.imp h (fun r7 mem8 h => ?_))
      refine w_if_ne rfl (by decide) (pc' := 26) rfl h.1 (fun c9 => ?_) (fun c9 => ?_)
      · have h := h.2.1 c9
        refine zW.go 2 30 [(2, 261), (0, x1), (0, x2), (9, 0), (9, 0), (9, 0), (9, 0), (9, 0)] [(0, x1), (2, 261)] _ rfl ?_
        refine w_calli (as := [(2, 261), (0, x1)]) [] 33 rfl rfl rfl rfl (Nat.le_of_ble_eq_true rfl) (Nat.le_of_ble_eq_true rfl) (Nat.le_of_ble_eq_true rfl) (Or.inr rfl) (Ci.imp h (fun r10 mem11 h => ?_))
        refine zW.go 7 45 [(2, 261), (0, x1), (0, x2), (0, r10), (0, (-1)), (0, 100000000), (0, 1), (9, 0)] [] _ rfl ?_
        exact h (0, x1) (9, 0)
      · have h := h.2.2 c9
        refine zW.go 1 27 [(2, 261), (0, x1), (0, x2), (9, 0), (9, 0), (9, 0), (9, 0), (9, 0)] [(0, (-1))] _ rfl ?_
        exact w_reti rfl rfl h
def L_m_seconds_25 (X : zX) (d : Nat) (rf : zF) (Q : Int → zF → Prop) (mem : zF) (x1 : Int) (x2 : Int) (x3 : Int) : Prop := zW X (d + 1) 299 25 [(2, 261), (0, x1), (0, x2), (0, x3)] [] (zty, rf, mem) (qi rf Q)
set_option maxRecDepth 4000 in
theorem s_m_seconds_25 {X : zX} {d : Nat} {rf mem : zF} {Q : Int → zF → Prop} (hR : zall rf zRK = true) {x1 : Int} {x2 : Int} {x3 : Int} (h : (inI x3 ∧ inI x1) ∧ ((x1 ≤ x3 → Q x2 mem) ∧ (¬ x1 ≤ x3 → Ci X d 268 [(2, 261), (0, 0), (0, (-1))] rf mem (fun r8 mem9 => L_m_seconds_25 X d rf Q mem9 x1 (x2 + r8) (x3 + 1))))) : L_m_seconds_25 X d rf Q mem x1 x2 x3 := by
  refine zW.go 2 27 [(2, 261), (0, x1), (0, x2), (0, x3)] [(0, x1), (0, x3)] _ rfl ?_
  refine w_ic_ge rfl (by decide) (pc' := 30) rfl h.1 (fun c7 => ?_) (fun c7 => ?_)
  · have h := h.2.1 c7
    refine zW.go 1 46 [(2, 261), (0, x1), (0, x2), (0, x3)] [(0, x2)] _ rfl ?_
    exact w_reti rfl rfl h
  · have h := h.2.2 c7
    refine zW.go 4 34 [(2, 261), (0, x1), (0, x2), (0, x3)] [(0, (-1)), (0, 0), (2, 261), (0, x2)] _ rfl ?_
    refine w_calli (as := [(2, 261), (0, 0), (0, (-1))]) [(0, x2)] 37 rfl rfl rfl rfl (Nat.le_of_ble_eq_true rfl) (Nat.le_of_ble_eq_true rfl) (Nat.le_of_ble_eq_true rfl) (Or.inr rfl) (Ci.imp h (fun r8 mem9 h => ?_))
    refine zW.go 4 25 [(2, 261), (0, x1), (0, (x2 + r8)), (0, (x3 + 1))] [] _ rfl ?_
    exact h
set_option maxRecDepth 4000 in
theorem s_m_seconds {X : zX} {d : Nat} {rf mem : zF} {Q : Int → zF → Prop} (hR : zall rf zRK = true) {x1 : Int} (h : Ci X d 283 [(2, 261), (0, x1), (0, 1), (0, 40)] rf mem (fun r1 mem2 => (inI r1) ∧ ((¬ r1 = 0 → Cv X d 245 [(2, 261)] rf mem2 (fun mem4 => L_m_seconds_25 X d rf Q mem4 x1 0 0)) ∧ (r1 = 0 → Ci X d 240 [(2, 261), (0, 2)] rf mem2 (fun r5 mem6 => Q r5 mem6))))) : Ci X (d + 1) 299 [(2, 261), (0, x1)] rf mem Q := by
  show zW X (d + 1) 299 0 [(2, 261), (0, x1), (9, 0), (9, 0)] [] (zty, rf, mem) (qi rf Q)
  refine zW.go 4 5 [(2, 261), (0, x1), (9, 0), (9, 0)] [(0, 40), (0, 1), (0, x1), (2, 261)] _ rfl ?_
  refine w_calli (as := [(2, 261), (0, x1), (0, 1), (0, 40)]) [] 8 rfl rfl rfl rfl (Nat.le_of_ble_eq_true rfl) (Nat.le_of_ble_eq_true rfl) (Nat.le_of_ble_eq_true rfl) (Or.inr rfl) (Ci.imp h (fun r1 mem2 h => ?_))
  refine w_if_ne rfl (by decide) (pc' := 11) rfl h.1 (fun c3 => ?_) (fun c3 => ?_)
  · have h := h.2.1 c3
    refine zW.go 1 18 [(2, 261), (0, x1), (9, 0), (9, 0)] [(2, 261)] _ rfl ?_
    refine w_callv (as := [(2, 261)]) [] 21 rfl rfl rfl rfl (Nat.le_of_ble_eq_true rfl) (Nat.le_of_ble_eq_true rfl) (Nat.le_of_ble_eq_true rfl) (Or.inr rfl) (Cv.imp h (fun mem4 h => ?_))
    refine zW.go 4 25 [(2, 261), (0, x1), (0, 0), (0, 0)] [] _ rfl ?_
    exact h
  · have h := h.2.2 c3
    refine zW.go 2 13 [(2, 261), (0, x1), (9, 0), (9, 0)] [(0, 2), (2, 261)] _ rfl ?_
    refine w_calli (as := [(2, 261), (0, 2)]) [] 16 rfl rfl rfl rfl (Nat.le_of_ble_eq_true rfl) (Nat.le_of_ble_eq_true rfl) (Nat.le_of_ble_eq_true rfl) (Or.inr rfl) (Ci.imp h (fun r5 mem6 h => ?_))
    exact w_reti rfl rfl h
set_option maxRecDepth 4000 in
theorem s_m_draw {X : zX} {d : Nat} {rf mem : zF} {Q : Int → zF → Prop} (hR : zall rf zRK = true) {x1 : Int} (h : (inL ((1103515245 * (mem 261 66)) + 12345)) ∧ ((inL (((1103515245 * (mem 261 66)) + 12345).tmod 2147483648)) ∧ ((inI x1) ∧ ((inL ((((1103515245 * (mem 261 66)) + 12345).tmod 2147483648).tdiv 64) ∧ inL x1 ∧ x1 ≠ 0) ∧ (Q (((((1103515245 * (mem 261 66)) + 12345).tmod 2147483648).tdiv 64).tmod x1) (zup mem 261 66 (((1103515245 * (mem 261 66)) + 12345).tmod 2147483648))))))) : Ci X d 300 [(2, 261), (0, x1)] rf mem Q := by
  show zW X d 300 0 [(2, 261), (0, x1)] [] (zty, rf, mem) (qi rf Q)
  refine zW.go 3 5 [(2, 261), (0, x1)] [(2, 261), (1, 1103515245), (2, 261)] _ rfl ?_
  refine w_getJ (q := 261) rfl (by decide) (pc' := 8) rfl ⟨by decide, rfl⟩ rfl (by decide) ?_
  refine zW.go 4 16 [(2, 261), (0, x1)] [(1, 2147483648), (1, ((1103515245 * (mem 261 66)) + 12345)), (2, 261)] _ rfl ?_
  obtain ⟨g, h⟩ := h
  refine w_lrem rfl (by decide) (pc' := 17) rfl ⟨g, by decide, by decide⟩ ?_
  refine w_putJ (q := 261) rfl (by decide) (pc' := 20) rfl ⟨by decide, rfl⟩ rfl (by decide) ?_
  refine zW.go 1 21 [(2, 261), (0, x1)] [(2, 261)] _ rfl ?_
  refine w_getJ (q := 261) rfl (by decide) (pc' := 24) rfl ⟨by decide, rfl⟩ rfl (by decide) ?_
  refine zW.go 1 27 [(2, 261), (0, x1)] [(1, 64), (1, (((1103515245 * (mem 261 66)) + 12345).tmod 2147483648))] _ rfl ?_
  obtain ⟨g, h⟩ := h
  refine w_ldiv rfl (by decide) (pc' := 28) rfl ⟨g, by decide, by decide⟩ ?_
  refine zW.go 1 29 [(2, 261), (0, x1)] [(0, x1), (1, ((((1103515245 * (mem 261 66)) + 12345).tmod 2147483648).tdiv 64))] _ rfl ?_
  obtain ⟨g, h⟩ := h
  refine w_i2l rfl (by decide) (pc' := 30) rfl g ?_
  obtain ⟨g, h⟩ := h
  refine w_lrem rfl (by decide) (pc' := 31) rfl g ?_
  refine zW.go 1 32 [(2, 261), (0, x1)] [(0, (((((1103515245 * (mem 261 66)) + 12345).tmod 2147483648).tdiv 64).tmod x1))] _ rfl ?_
  exact w_reti rfl rfl h
def L_m_chance_25 (X : zX) (d : Nat) (rf : zF) (Q : Int → zF → Prop) (mem : zF) (x1 : Int) (x2 : Int) (x3 : Int) : Prop := ∀ z4 : zV, zW X (d + 1) 301 25 [(2, 261), (0, x1), (0, x2), (0, x3), z4] [] (zty, rf, mem) (qi rf Q)
def L_m_chance_53 (X : zX) (d : Nat) (rf : zF) (Q : Int → zF → Prop) (mem : zF) (x1 : Int) (x2 : Int) (x3 : Int) (s0 : Int) : Prop := ∀ z4 : zV, zW X (d + 1) 301 53 [(2, 261), (0, x1), (0, x2), (0, x3), z4] [(0, s0)] (zty, rf, mem) (qi rf Q)
def L_m_chance_66 (X : zX) (d : Nat) (rf : zF) (Q : Int → zF → Prop) (mem : zF) (x1 : Int) (x3 : Int) (x4 : Int) (s0 : Int) (s1 : Int) : Prop := ∀ z2 : zV, zW X (d + 1) 301 66 [(2, 261), (0, x1), z2, (0, x3), (0, x4)] [(0, s1), (0, s0)] (zty, rf, mem) (qi rf Q)
set_option maxRecDepth 4000 in
theorem s_m_chance_25 {X : zX} {d : Nat} {rf mem : zF} {Q : Int → zF → Prop} (hR : zall rf zRK = true) {x1 : Int} {x2 : Int} {x3 : Int} (h : (inI x3 ∧ inI x1) ∧ ((x1 ≤ x3 → Q x2 mem) ∧ (¬ x1 ≤ x3 → Ci X d 300 [(2, 261), (0, 100)] rf mem (fun r8 mem9 => (0 ≤ (mem9 261 13) ∧ (mem9 261 13) < 2) ∧ ((inI r8 ∧ inI (mem9 278 ((mem9 261 13)).toNat)) ∧ (((mem9 278 ((mem9 261 13)).toNat) ≤ r8 → L_m_chance_53 X d rf Q mem9 x1 x2 x3 0) ∧ (¬ (mem9 278 ((mem9 261 13)).toNat) ≤ r8 → L_m_chance_53 X d rf Q mem9 x1 x2 x3 1))))))) : L_m_chance_25 X d rf Q mem x1 x2 x3 := by
  intro z4
  refine zW.go 2 27 [(2, 261), (0, x1), (0, x2), (0, x3), z4] [(0, x1), (0, x3)] _ rfl ?_
  refine w_ic_ge rfl (by decide) (pc' := 30) rfl h.1 (fun c7 => ?_) (fun c7 => ?_)
  · have h := h.2.1 c7
    refine zW.go 1 95 [(2, 261), (0, x1), (0, x2), (0, x3), z4] [(0, x2)] _ rfl ?_
    exact w_reti rfl rfl h
  · have h := h.2.2 c7
    refine zW.go 2 33 [(2, 261), (0, x1), (0, x2), (0, x3), z4] [(0, 100), (2, 261)] _ rfl ?_
    refine w_calli (as := [(2, 261), (0, 100)]) [] 36 rfl rfl rfl rfl (Nat.le_of_ble_eq_true rfl) (Nat.le_of_ble_eq_true rfl) (Nat.le_of_ble_eq_true rfl) (Or.inr rfl) (Ci.imp h (fun r8 mem9 h => ?_))
    refine zW.go 1 37 [(2, 261), (0, x1), (0, x2), (0, x3), z4] [(2, 261), (0, r8)] _ rfl ?_
    refine w_getL (q := 261) (v := 278) rfl (by decide) (pc' := 40) rfl ⟨by decide, rfl⟩ rfl rfl (zall_at hR (by decide)) ?_
    refine zW.go 1 41 [(2, 261), (0, x1), (0, x2), (0, x3), z4] [(2, 261), (2, 278), (0, r8)] _ rfl ?_
    refine w_getI (q := 261) rfl (by decide) (pc' := 44) rfl ⟨by decide, rfl⟩ rfl (by decide) ?_
    obtain ⟨g, h⟩ := h
    refine w_iald (q := 278) rfl (by decide) (pc' := 45) rfl ⟨by decide, rfl⟩ rfl g rfl ?_
    refine w_ic_ge rfl (by decide) (pc' := 48) rfl h.1 (fun c10 => ?_) (fun c10 => ?_)
    · have h := h.2.1 c10
      refine zW.go 1 53 [(2, 261), (0, x1), (0, x2), (0, x3), z4] [(0, 0)] _ rfl ?_
      exact h z4
    · have h := h.2.2 c10
      refine zW.go 2 53 [(2, 261), (0, x1), (0, x2), (0, x3), z4] [(0, 1)] _ rfl ?_
      exact h z4
set_option maxRecDepth 4000 in
theorem s_m_chance_53 {X : zX} {d : Nat} {rf mem : zF} {Q : Int → zF → Prop} (hR : zall rf zRK = true) {x1 : Int} {x2 : Int} {x3 : Int} {s0 : Int} (h : (inI s0) ∧ ((s0 = 0 → L_m_chance_66 X d rf Q mem x1 x3 s0 x2 0) ∧ (¬ s0 = 0 → L_m_chance_66 X d rf Q mem x1 x3 s0 x2 1))) : L_m_chance_53 X d rf Q mem x1 x2 x3 s0 := by
  intro z4
  refine zW.go 3 58 [(2, 261), (0, x1), (0, x2), (0, x3), (0, s0)] [(0, s0), (0, x2)] _ rfl ?_
  refine w_if_eq rfl (by decide) (pc' := 61) rfl h.1 (fun c11 => ?_) (fun c11 => ?_)
  · have h := h.2.1 c11
    refine zW.go 1 66 [(2, 261), (0, x1), (0, x2), (0, x3), (0, s0)] [(0, 0), (0, x2)] _ rfl ?_
    exact h (0, x2)
  · have h := h.2.2 c11
    refine zW.go 2 66 [(2, 261), (0, x1), (0, x2), (0, x3), (0, s0)] [(0, 1), (0, x2)] _ rfl ?_
    exact h (0, x2)
set_option maxRecDepth 4000 in
theorem s_m_chance_66 {X : zX} {d : Nat} {rf mem : zF} {Q : Int → zF → Prop} (hR : zall rf zRK = true) {x1 : Int} {x3 : Int} {x4 : Int} {s0 : Int} {s1 : Int} (h : (inI x4) ∧ ((x4 = 0 → Ci X d 268 [(2, 261), (0, 0), (0, (-1))] rf mem (fun r13 mem14 => L_m_chance_25 X d rf Q mem14 x1 (s0 + s1) (x3 + 1))) ∧ (¬ x4 = 0 → Ci X d 300 [(2, 261), (0, 4)] rf mem (fun r15 mem16 => Ci X d 268 [(2, 261), (0, 0), (0, r15)] rf mem16 (fun r17 mem18 => L_m_chance_25 X d rf Q mem18 x1 (s0 + s1) (x3 + 1)))))) : L_m_chance_66 X d rf Q mem x1 x3 x4 s0 s1 := by
  intro z2
  refine zW.go 5 72 [(2, 261), (0, x1), (0, (s0 + s1)), (0, x3), (0, x4)] [(0, x4), (0, 0), (2, 261)] _ rfl ?_
  refine w_if_eq rfl (by decide) (pc' := 75) rfl h.1 (fun c12 => ?_) (fun c12 => ?_)
  · have h := h.2.1 c12
    refine zW.go 1 84 [(2, 261), (0, x1), (0, (s0 + s1)), (0, x3), (0, x4)] [(0, (-1)), (0, 0), (2, 261)] _ rfl ?_
    refine w_calli (as := [(2, 261), (0, 0), (0, (-1))]) [] 87 rfl rfl rfl rfl (Nat.le_of_ble_eq_true rfl) (Nat.le_of_ble_eq_true rfl) (Nat.le_of_ble_eq_true rfl) (Or.inr rfl) (Ci.imp h (fun r13 mem14 h => ?_))
    refine zW.go 3 25 [(2, 261), (0, x1), (0, (s0 + s1)), (0, (x3 + 1)), (0, x4)] [] _ rfl ?_
    exact h (0, x4)
  · have h := h.2.2 c12
    refine zW.go 2 77 [(2, 261), (0, x1), (0, (s0 + s1)), (0, x3), (0, x4)] [(0, 4), (2, 261), (0, 0), (2, 261)] _ rfl ?_
    refine w_calli (as := [(2, 261), (0, 4)]) [(0, 0), (2, 261)] 80 rfl rfl rfl rfl (Nat.le_of_ble_eq_true rfl) (Nat.le_of_ble_eq_true rfl) (Nat.le_of_ble_eq_true rfl) (Or.inr rfl) (Ci.imp h (fun r15 mem16 h => ?_))
    refine zW.go 1 84 [(2, 261), (0, x1), (0, (s0 + s1)), (0, x3), (0, x4)] [(0, r15), (0, 0), (2, 261)] _ rfl ?_
    refine w_calli (as := [(2, 261), (0, 0), (0, r15)]) [] 87 rfl rfl rfl rfl (Nat.le_of_ble_eq_true rfl) (Nat.le_of_ble_eq_true rfl) (Nat.le_of_ble_eq_true rfl) (Or.inr rfl) (Ci.imp h (fun r17 mem18 h => ?_))
    refine zW.go 3 25 [(2, 261), (0, x1), (0, (s0 + s1)), (0, (x3 + 1)), (0, x4)] [] _ rfl ?_
    exact h (0, x4)
set_option maxRecDepth 4000 in
theorem s_m_chance {X : zX} {d : Nat} {rf mem : zF} {Q : Int → zF → Prop} (hR : zall rf zRK = true) {x1 : Int} (h : Ci X d 283 [(2, 261), (0, x1), (0, 1), (0, 40)] rf mem (fun r1 mem2 => (inI r1) ∧ ((¬ r1 = 0 → Cv X d 245 [(2, 261)] rf mem2 (fun mem4 => L_m_chance_25 X d rf Q mem4 x1 0 0)) ∧ (r1 = 0 → Ci X d 240 [(2, 261), (0, 2)] rf mem2 (fun r5 mem6 => Q r5 mem6))))) : Ci X (d + 1) 301 [(2, 261), (0, x1)] rf mem Q := by
  show zW X (d + 1) 301 0 [(2, 261), (0, x1), (9, 0), (9, 0), (9, 0)] [] (zty, rf, mem) (qi rf Q)
  refine zW.go 4 5 [(2, 261), (0, x1), (9, 0), (9, 0), (9, 0)] [(0, 40), (0, 1), (0, x1), (2, 261)] _ rfl ?_
  refine w_calli (as := [(2, 261), (0, x1), (0, 1), (0, 40)]) [] 8 rfl rfl rfl rfl (Nat.le_of_ble_eq_true rfl) (Nat.le_of_ble_eq_true rfl) (Nat.le_of_ble_eq_true rfl) (Or.inr rfl) (Ci.imp h (fun r1 mem2 h => ?_))
  refine w_if_ne rfl (by decide) (pc' := 11) rfl h.1 (fun c3 => ?_) (fun c3 => ?_)
  · have h := h.2.1 c3
    refine zW.go 1 18 [(2, 261), (0, x1), (9, 0), (9, 0), (9, 0)] [(2, 261)] _ rfl ?_
    refine w_callv (as := [(2, 261)]) [] 21 rfl rfl rfl rfl (Nat.le_of_ble_eq_true rfl) (Nat.le_of_ble_eq_true rfl) (Nat.le_of_ble_eq_true rfl) (Or.inr rfl) (Cv.imp h (fun mem4 h => ?_))
    refine zW.go 4 25 [(2, 261), (0, x1), (0, 0), (0, 0), (9, 0)] [] _ rfl ?_
    exact h (9, 0)
  · have h := h.2.2 c3
    refine zW.go 2 13 [(2, 261), (0, x1), (9, 0), (9, 0), (9, 0)] [(0, 2), (2, 261)] _ rfl ?_
    refine w_calli (as := [(2, 261), (0, 2)]) [] 16 rfl rfl rfl rfl (Nat.le_of_ble_eq_true rfl) (Nat.le_of_ble_eq_true rfl) (Nat.le_of_ble_eq_true rfl) (Or.inr rfl) (Ci.imp h (fun r5 mem6 h => ?_))
    exact w_reti rfl rfl h
def L_m_swing_40 (X : zX) (d : Nat) (rf : zF) (Q : Int → zF → Prop) (mem : zF) : Prop := ∀ z1 : zV, ∀ z2 : zV, zW X (d + 1) 302 40 [(2, 261), z1, z2] [] (zty, rf, mem) (qi rf Q)
def L_m_swing_37 (X : zX) (d : Nat) (rf : zF) (Q : Int → zF → Prop) (mem : zF) (x1 : Int) (s0 : Int) (s1 : Int) : Prop := ∀ z2 : zV, zW X (d + 1) 302 37 [(2, 261), (0, x1), z2] [(0, s1), (0, s0)] (zty, rf, mem) (qi rf Q)
set_option maxRecDepth 4000 in
theorem s_m_swing_40 {X : zX} {d : Nat} {rf mem : zF} {Q : Int → zF → Prop} (hR : zall rf zRK = true) (h : Ci X d 240 [(2, 261), (0, 3)] rf mem (fun r10 mem11 => (inI r10) ∧ ((r10 < 0 → Q 0 mem11) ∧ (¬ r10 < 0 → Q 1 mem11)))) : L_m_swing_40 X d rf Q mem := by
  intro z1 z2
  refine zW.go 2 42 [(2, 261), z1, z2] [(0, 3), (2, 261)] _ rfl ?_
  refine w_calli (as := [(2, 261), (0, 3)]) [] 45 rfl rfl rfl rfl (Nat.le_of_ble_eq_true rfl) (Nat.le_of_ble_eq_true rfl) (Nat.le_of_ble_eq_true rfl) (Or.inr rfl) (Ci.imp h (fun r10 mem11 h => ?_))
  refine w_if_lt rfl (by decide) (pc' := 48) rfl h.1 (fun c12 => ?_) (fun c12 => ?_)
  · have h := h.2.1 c12
    refine zW.go 1 53 [(2, 261), z1, z2] [(0, 0)] _ rfl ?_
    exact w_retz rfl rfl (by decide) h
  · have h := h.2.2 c12
    refine zW.go 2 53 [(2, 261), z1, z2] [(0, 1)] _ rfl ?_
    exact w_retz rfl rfl (by decide) h
set_option maxRecDepth 4000 in
theorem s_m_swing_37 {X : zX} {d : Nat} {rf mem : zF} {Q : Int → zF → Prop} (hR : zall rf zRK = true) {x1 : Int} {s0 : Int} {s1 : Int} (h : (inI s0 ∧ inI s1) ∧ ((¬ s0 = s1 → Cv X d 245 [(2, 261)] rf mem (fun mem14 => Q 1 (zup mem14 295 0 (zxor (mem14 295 0) (zshl 1 x1))))) ∧ (s0 = s1 → L_m_swing_40 X d rf Q mem))) : L_m_swing_37 X d rf Q mem x1 s0 s1 := by
  intro z2
  refine w_ic_ne rfl (by decide) (pc' := 40) rfl h.1 (fun c13 => ?_) (fun c13 => ?_)
  · have h := h.2.1 c13
    refine zW.go 1 55 [(2, 261), (0, x1), z2] [(2, 261)] _ rfl ?_
    refine w_callv (as := [(2, 261)]) [] 58 rfl rfl rfl rfl (Nat.le_of_ble_eq_true rfl) (Nat.le_of_ble_eq_true rfl) (Nat.le_of_ble_eq_true rfl) (Or.inr rfl) (Cv.imp h (fun mem14 h => ?_))
    refine zW.go 1 59 [(2, 261), (0, x1), z2] [(2, 261)] _ rfl ?_
    refine w_getL (q := 261) (v := 295) rfl (by decide) (pc' := 62) rfl ⟨by decide, rfl⟩ rfl rfl (zall_at hR (by decide)) ?_
    refine zW.go 2 64 [(2, 261), (0, x1), z2] [(0, 0), (2, 295), (0, 0), (2, 295)] _ rfl ?_
    refine w_iald (q := 295) rfl (by decide) (pc' := 65) rfl ⟨by decide, rfl⟩ rfl (by decide) rfl ?_
    refine zW.go 4 69 [(2, 261), (0, x1), z2] [(0, (zxor (mem14 295 0) (zshl 1 x1))), (0, 0), (2, 295)] _ rfl ?_
    refine w_iast (q := 295) rfl (by decide) (pc' := 70) rfl ⟨by decide, rfl⟩ rfl (by decide) rfl ?_
    refine zW.go 1 71 [(2, 261), (0, x1), z2] [(0, 1)] _ rfl ?_
    exact w_retz rfl rfl (by decide) h
  · have h := h.2.2 c13
    exact h (0, x1) z2
set_option maxRecDepth 4000 in
theorem s_m_swing {X : zX} {d : Nat} {rf mem : zF} {Q : Int → zF → Prop} (hR : zall rf zRK = true) {x1 : Int} {x2 : Int} (h : Ci X d 269 [(2, 261), (0, x1)] rf mem (fun r1 mem2 => (inI r1) ∧ ((r1 = 0 → L_m_swing_40 X d rf Q mem2) ∧ (¬ r1 = 0 → Ci X d 194 [(0, x2), (0, 0), (0, 1)] rf mem2 (fun r4 mem5 => (inI r4) ∧ ((r4 = 0 → L_m_swing_40 X d rf Q mem5) ∧ (¬ r4 = 0 → Ci X d 223 [(0, (mem5 295 0)), (0, x1)] rf mem5 (fun r7 mem8 => (inI x2) ∧ ((¬ x2 = 1 → L_m_swing_37 X d rf Q mem8 x1 r7 0) ∧ (x2 = 1 → L_m_swing_37 X d rf Q mem8 x1 r7 1)))))))))) : Ci X (d + 1) 302 [(2, 261), (0, x1), (0, x2)] rf mem Q := by
  show zW X (d + 1) 302 0 [(2, 261), (0, x1), (0, x2)] [] (zty, rf, mem) (qi rf Q)
  refine zW.go 2 2 [(2, 261), (0, x1), (0, x2)] [(0, x1), (2, 261)] _ rfl ?_
  refine w_calli (as := [(2, 261), (0, x1)]) [] 5 rfl rfl rfl rfl (Nat.le_of_ble_eq_true rfl) (Nat.le_of_ble_eq_true rfl) (Nat.le_of_ble_eq_true rfl) (Or.inr rfl) (Ci.imp h (fun r1 mem2 h => ?_))
  refine w_if_eq rfl (by decide) (pc' := 8) rfl h.1 (fun c3 => ?_) (fun c3 => ?_)
  · have h := h.2.1 c3
    exact h (0, x1) (0, x2)
  · have h := h.2.2 c3
    refine zW.go 3 11 [(2, 261), (0, x1), (0, x2)] [(0, 1), (0, 0), (0, x2)] _ rfl ?_
    refine w_calli (as := [(0, x2), (0, 0), (0, 1)]) [] 14 rfl rfl rfl rfl (Nat.le_of_ble_eq_true rfl) (Nat.le_of_ble_eq_true rfl) (Nat.le_of_ble_eq_true rfl) (Or.inl rfl) (Ci.imp h (fun r4 mem5 h => ?_))
    refine w_if_eq rfl (by decide) (pc' := 17) rfl h.1 (fun c6 => ?_) (fun c6 => ?_)
    · have h := h.2.1 c6
      exact h (0, x1) (0, x2)
    · have h := h.2.2 c6
      refine zW.go 1 18 [(2, 261), (0, x1), (0, x2)] [(2, 261)] _ rfl ?_
      refine w_getL (q := 261) (v := 295) rfl (by decide) (pc' := 21) rfl ⟨by decide, rfl⟩ rfl rfl (zall_at hR (by decide)) ?_
      refine zW.go 1 22 [(2, 261), (0, x1), (0, x2)] [(0, 0), (2, 295)] _ rfl ?_
      refine w_iald (q := 295) rfl (by decide) (pc' := 23) rfl ⟨by decide, rfl⟩ rfl (by decide) rfl ?_
      refine zW.go 1 24 [(2, 261), (0, x1), (0, x2)] [(0, x1), (0, (mem5 295 0))] _ rfl ?_
      refine w_calli (as := [(0, (mem5 295 0)), (0, x1)]) [] 27 rfl rfl rfl rfl (Nat.le_of_ble_eq_true rfl) (Nat.le_of_ble_eq_true rfl) (Nat.le_of_ble_eq_true rfl) (Or.inl rfl) (Ci.imp h (fun r7 mem8 h => ?_))
      refine zW.go 2 29 [(2, 261), (0, x1), (0, x2)] [(0, 1), (0, x2), (0, r7)] _ rfl ?_
      refine w_ic_ne rfl (by decide) (pc' := 32) rfl ⟨h.1, by decide⟩ (fun c9 => ?_) (fun c9 => ?_)
      · have h := h.2.1 c9
        refine zW.go 1 37 [(2, 261), (0, x1), (0, x2)] [(0, 0), (0, r7)] _ rfl ?_
        exact h (0, x2)
      · have h := h.2.2 c9
        refine zW.go 2 37 [(2, 261), (0, x1), (0, x2)] [(0, 1), (0, r7)] _ rfl ?_
        exact h (0, x2)
def L_m_tiptoe_32 (X : zX) (d : Nat) (rf : zF) (Q : Int → zF → Prop) (mem : zF) (x1 : Int) (s0 : Int) : Prop := ∀ z2 : zV, z2.1 ≠ 1 → ∀ z3 : zV, zW X (d + 1) 303 32 [(2, 261), (0, x1), z2, z3] [(0, s0)] (zty, rf, mem) (qi rf Q)
def L_m_tiptoe_48 (X : zX) (d : Nat) (rf : zF) (Q : Int → zF → Prop) (mem : zF) : Prop := ∀ z1 : zV, ∀ z2 : zV, ∀ z3 : zV, zW X (d + 1) 303 48 [(2, 261), z1, z2, z3] [] (zty, rf, mem) (qi rf Q)
set_option maxRecDepth 4000 in
theorem s_m_tiptoe_32 {X : zX} {d : Nat} {rf mem : zF} {Q : Int → zF → Prop} (hR : zall rf zRK = true) {x1 : Int} {s0 : Int} (h : (inI s0) ∧ ((s0 = (-1) → L_m_tiptoe_48 X d rf Q mem) ∧ (¬ s0 = (-1) → Ci X d 259 [(2, 261), (0, 0), (0, s0)] rf mem (fun r10 mem11 => (inI r10) ∧ ((r10 = (-1) → Cv X d 245 [(2, 261)] rf mem11 (fun mem13 => (0 ≤ x1 ∧ x1 < 132) ∧ (Q 1 (zup mem13 296 (x1).toNat s0)))) ∧ (¬ r10 = (-1) → L_m_tiptoe_48 X d rf Q mem11)))))) : L_m_tiptoe_32 X d rf Q mem x1 s0 := by
  intro z2 hz2 z3
  refine zW.step 33 [(2, 261), (0, x1), z2, (0, s0)] [] _ rfl (by decide) (by decide) (by show some (_, zst1 [(2, 261), (0, x1), z2, z3] 3 _, _, _) = _; rw [zst1_z (ls := [(2, 261), (0, x1), z2, z3]) (i := 3) hz2]; rfl) ?_
  refine zW.go 2 35 [(2, 261), (0, x1), z2, (0, s0)] [(0, (-1)), (0, s0)] _ rfl ?_
  refine w_ic_eq rfl (by decide) (pc' := 38) rfl ⟨h.1, by decide⟩ (fun c9 => ?_) (fun c9 => ?_)
  · have h := h.2.1 c9
    exact h (0, x1) z2 (0, s0)
  · have h := h.2.2 c9
    refine zW.go 3 41 [(2, 261), (0, x1), z2, (0, s0)] [(0, s0), (0, 0), (2, 261)] _ rfl ?_
    refine w_calli (as := [(2, 261), (0, 0), (0, s0)]) [] 44 rfl rfl rfl rfl (Nat.le_of_ble_eq_true rfl) (Nat.le_of_ble_eq_true rfl) (Nat.le_of_ble_eq_true rfl) (Or.inr rfl) (Ci.imp h (fun r10 mem11 h => ?_))
    refine zW.go 1 45 [(2, 261), (0, x1), z2, (0, s0)] [(0, (-1)), (0, r10)] _ rfl ?_
    refine w_ic_eq rfl (by decide) (pc' := 48) rfl ⟨h.1, by decide⟩ (fun c12 => ?_) (fun c12 => ?_)
    · have h := h.2.1 c12
      refine zW.go 1 63 [(2, 261), (0, x1), z2, (0, s0)] [(2, 261)] _ rfl ?_
      refine w_callv (as := [(2, 261)]) [] 66 rfl rfl rfl rfl (Nat.le_of_ble_eq_true rfl) (Nat.le_of_ble_eq_true rfl) (Nat.le_of_ble_eq_true rfl) (Or.inr rfl) (Cv.imp h (fun mem13 h => ?_))
      refine zW.go 1 67 [(2, 261), (0, x1), z2, (0, s0)] [(2, 261)] _ rfl ?_
      refine w_getL (q := 261) (v := 296) rfl (by decide) (pc' := 70) rfl ⟨by decide, rfl⟩ rfl rfl (zall_at hR (by decide)) ?_
      refine zW.go 2 72 [(2, 261), (0, x1), z2, (0, s0)] [(0, s0), (0, x1), (2, 296)] _ rfl ?_
      obtain ⟨g, h⟩ := h
      refine w_iast (q := 296) rfl (by decide) (pc' := 73) rfl ⟨by decide, rfl⟩ rfl g rfl ?_
      refine zW.go 1 74 [(2, 261), (0, x1), z2, (0, s0)] [(0, 1)] _ rfl ?_
      exact w_retz rfl rfl (by decide) h
    · have h := h.2.2 c12
      exact h (0, x1) z2 (0, s0)
set_option maxRecDepth 4000 in
theorem s_m_tiptoe_48 {X : zX} {d : Nat} {rf mem : zF} {Q : Int → zF → Prop} (hR : zall rf zRK = true) (h : Ci X d 240 [(2, 261), (0, 3)] rf mem (fun r14 mem15 => (inI r14) ∧ ((r14 < 0 → Q 0 mem15) ∧ (¬ r14 < 0 → Q 1 mem15)))) : L_m_tiptoe_48 X d rf Q mem := by
  intro z1 z2 z3
  refine zW.go 2 50 [(2, 261), z1, z2, z3] [(0, 3), (2, 261)] _ rfl ?_
  refine w_calli (as := [(2, 261), (0, 3)]) [] 53 rfl rfl rfl rfl (Nat.le_of_ble_eq_true rfl) (Nat.le_of_ble_eq_true rfl) (Nat.le_of_ble_eq_true rfl) (Or.inr rfl) (Ci.imp h (fun r14 mem15 h => ?_))
  refine w_if_lt rfl (by decide) (pc' := 56) rfl h.1 (fun c16 => ?_) (fun c16 => ?_)
  · have h := h.2.1 c16
    refine zW.go 1 61 [(2, 261), z1, z2, z3] [(0, 0)] _ rfl ?_
    exact w_retz rfl rfl (by decide) h
  · have h := h.2.2 c16
    refine zW.go 2 61 [(2, 261), z1, z2, z3] [(0, 1)] _ rfl ?_
    exact w_retz rfl rfl (by decide) h
set_option maxRecDepth 4000 in
theorem s_m_tiptoe {X : zX} {d : Nat} {rf mem : zF} {Q : Int → zF → Prop} (hR : zall rf zRK = true) {x1 : Int} {x2 : Int} (h : Ci X d 270 [(2, 261), (0, x1)] rf mem (fun r1 mem2 => (inI r1) ∧ ((r1 = 0 → L_m_tiptoe_32 X d rf Q mem2 x1 (-1)) ∧ (¬ r1 = 0 → Ci X d 194 [(0, x2), (0, 0), (0, 3)] rf mem2 (fun r4 mem5 => (inI r4) ∧ ((r4 = 0 → L_m_tiptoe_32 X d rf Q mem5 x1 (-1)) ∧ (¬ r4 = 0 → (0 ≤ x1 ∧ x1 < 132) ∧ (Ci X d 255 [(2, 261), (0, (mem5 296 (x1).toNat)), (0, x2)] rf mem5 (fun r7 mem8 => L_m_tiptoe_32 X d rf Q mem8 x1 r7))))))))) : Ci X (d + 1) 303 [(2, 261), (0, x1), (0, x2)] rf mem Q := by
  show zW X (d + 1) 303 0 [(2, 261), (0, x1), (0, x2), (9, 0)] [] (zty, rf, mem) (qi rf Q)
  refine zW.go 2 2 [(2, 261), (0, x1), (0, x2), (9, 0)] [(0, x1), (2, 261)] _ rfl ?_
  refine w_calli (as := [(2, 261), (0, x1)]) [] 5 rfl rfl rfl rfl (Nat.le_of_ble_eq_true rfl) (Nat.le_of_ble_eq_true rfl) (Nat.le_of_ble_eq_true rfl) (Or.inr rfl) (Ci.imp h (fun r1 mem2 h => ?_))
  refine w_if_eq rfl (by decide) (pc' := 8) rfl h.1 (fun c3 => ?_) (fun c3 => ?_)
  · have h := h.2.1 c3
    refine zW.go 1 32 [(2, 261), (0, x1), (0, x2), (9, 0)] [(0, (-1))] _ rfl ?_
    exact h (0, x2) (by show (0 : Nat) ≠ 1; decide) (9, 0)
  · have h := h.2.2 c3
    refine zW.go 3 11 [(2, 261), (0, x1), (0, x2), (9, 0)] [(0, 3), (0, 0), (0, x2)] _ rfl ?_
    refine w_calli (as := [(0, x2), (0, 0), (0, 3)]) [] 14 rfl rfl rfl rfl (Nat.le_of_ble_eq_true rfl) (Nat.le_of_ble_eq_true rfl) (Nat.le_of_ble_eq_true rfl) (Or.inl rfl) (Ci.imp h (fun r4 mem5 h => ?_))
    refine w_if_eq rfl (by decide) (pc' := 17) rfl h.1 (fun c6 => ?_) (fun c6 => ?_)
    · have h := h.2.1 c6
      refine zW.go 1 32 [(2, 261), (0, x1), (0, x2), (9, 0)] [(0, (-1))] _ rfl ?_
      exact h (0, x2) (by show (0 : Nat) ≠ 1; decide) (9, 0)
    · have h := h.2.2 c6
      refine zW.go 2 19 [(2, 261), (0, x1), (0, x2), (9, 0)] [(2, 261), (2, 261)] _ rfl ?_
      refine w_getL (q := 261) (v := 296) rfl (by decide) (pc' := 22) rfl ⟨by decide, rfl⟩ rfl rfl (zall_at hR (by decide)) ?_
      refine zW.go 1 23 [(2, 261), (0, x1), (0, x2), (9, 0)] [(0, x1), (2, 296), (2, 261)] _ rfl ?_
      obtain ⟨g, h⟩ := h
      refine w_iald (q := 296) rfl (by decide) (pc' := 24) rfl ⟨by decide, rfl⟩ rfl g rfl ?_
      refine zW.go 1 25 [(2, 261), (0, x1), (0, x2), (9, 0)] [(0, x2), (0, (mem5 296 (x1).toNat)), (2, 261)] _ rfl ?_
      refine w_calli (as := [(2, 261), (0, (mem5 296 (x1).toNat)), (0, x2)]) [] 28 rfl rfl rfl rfl (Nat.le_of_ble_eq_true rfl) (Nat.le_of_ble_eq_true rfl) (Nat.le_of_ble_eq_true rfl) (Or.inr rfl) (Ci.imp h (fun r7 mem8 h => ?_))
      refine zW.go 1 32 [(2, 261), (0, x1), (0, x2), (9, 0)] [(0, r7)] _ rfl ?_
      exact h (0, x2) (by show (0 : Nat) ≠ 1; decide) (9, 0)
def L_m_carry_24 (X : zX) (d : Nat) (rf : zF) (Q : Int → zF → Prop) (mem : zF) : Prop := ∀ z1 : zV, ∀ z2 : zV, zW X (d + 1) 304 24 [(2, 261), z1, z2] [] (zty, rf, mem) (qi rf Q)
set_option maxRecDepth 4000 in
theorem s_m_carry_24 {X : zX} {d : Nat} {rf mem : zF} {Q : Int → zF → Prop} (hR : zall rf zRK = true) (h : Ci X d 240 [(2, 261), (0, 3)] rf mem (fun r6 mem7 => (inI r6) ∧ ((r6 < 0 → Q 0 mem7) ∧ (¬ r6 < 0 → Q 1 mem7)))) : L_m_carry_24 X d rf Q mem := by
  intro z1 z2
  refine zW.go 2 26 [(2, 261), z1, z2] [(0, 3), (2, 261)] _ rfl ?_
  refine w_calli (as := [(2, 261), (0, 3)]) [] 29 rfl rfl rfl rfl (Nat.le_of_ble_eq_true rfl) (Nat.le_of_ble_eq_true rfl) (Nat.le_of_ble_eq_true rfl) (Or.inr rfl) (Ci.imp h (fun r6 mem7 h => ?_))
  refine w_if_lt rfl (by decide) (pc' := 32) rfl h.1 (fun c8 => ?_) (fun c8 => ?_)
  · have h := h.2.1 c8
    refine zW.go 1 37 [(2, 261), z1, z2] [(0, 0)] _ rfl ?_
    exact w_retz rfl rfl (by decide) h
  · have h := h.2.2 c8
    refine zW.go 2 37 [(2, 261), z1, z2] [(0, 1)] _ rfl ?_
    exact w_retz rfl rfl (by decide) h
set_option maxRecDepth 4000 in
theorem s_m_carry {X : zX} {d : Nat} {rf mem : zF} {Q : Int → zF → Prop} (hR : zall rf zRK = true) {x1 : Int} {x2 : Int} (h : Ci X d 253 [(2, 261), (0, x1), (0, x2)] rf mem (fun r1 mem2 => (inI r1) ∧ ((r1 = 0 → L_m_carry_24 X d rf Q mem2) ∧ (¬ r1 = 0 → (inI (mem2 294 0) ∧ inI ((8 * x2) + x1)) ∧ ((¬ (mem2 294 0) = ((8 * x2) + x1) → Cv X d 245 [(2, 261)] rf mem2 (fun mem5 => Q 1 (zup mem5 294 0 ((8 * x2) + x1)))) ∧ ((mem2 294 0) = ((8 * x2) + x1) → L_m_carry_24 X d rf Q mem2)))))) : Ci X (d + 1) 304 [(2, 261), (0, x1), (0, x2)] rf mem Q := by
  show zW X (d + 1) 304 0 [(2, 261), (0, x1), (0, x2)] [] (zty, rf, mem) (qi rf Q)
  refine zW.go 3 3 [(2, 261), (0, x1), (0, x2)] [(0, x2), (0, x1), (2, 261)] _ rfl ?_
  refine w_calli (as := [(2, 261), (0, x1), (0, x2)]) [] 6 rfl rfl rfl rfl (Nat.le_of_ble_eq_true rfl) (Nat.le_of_ble_eq_true rfl) (Nat.le_of_ble_eq_true rfl) (Or.inr rfl) (Ci.imp h (fun r1 mem2 h => ?_))
  refine w_if_eq rfl (by decide) (pc' := 9) rfl h.1 (fun c3 => ?_) (fun c3 => ?_)
  · have h := h.2.1 c3
    exact h (0, x1) (0, x2)
  · have h := h.2.2 c3
    refine zW.go 1 10 [(2, 261), (0, x1), (0, x2)] [(2, 261)] _ rfl ?_
    refine w_getL (q := 261) (v := 294) rfl (by decide) (pc' := 13) rfl ⟨by decide, rfl⟩ rfl rfl (zall_at hR (by decide)) ?_
    refine zW.go 1 14 [(2, 261), (0, x1), (0, x2)] [(0, 0), (2, 294)] _ rfl ?_
    refine w_iald (q := 294) rfl (by decide) (pc' := 15) rfl ⟨by decide, rfl⟩ rfl (by decide) rfl ?_
    refine zW.go 5 21 [(2, 261), (0, x1), (0, x2)] [(0, ((8 * x2) + x1)), (0, (mem2 294 0))] _ rfl ?_
    refine w_ic_ne rfl (by decide) (pc' := 24) rfl h.1 (fun c4 => ?_) (fun c4 => ?_)
    · have h := h.2.1 c4
      refine zW.go 1 39 [(2, 261), (0, x1), (0, x2)] [(2, 261)] _ rfl ?_
      refine w_callv (as := [(2, 261)]) [] 42 rfl rfl rfl rfl (Nat.le_of_ble_eq_true rfl) (Nat.le_of_ble_eq_true rfl) (Nat.le_of_ble_eq_true rfl) (Or.inr rfl) (Cv.imp h (fun mem5 h => ?_))
      refine zW.go 1 43 [(2, 261), (0, x1), (0, x2)] [(2, 261)] _ rfl ?_
      refine w_getL (q := 261) (v := 294) rfl (by decide) (pc' := 46) rfl ⟨by decide, rfl⟩ rfl rfl (zall_at hR (by decide)) ?_
      refine zW.go 6 53 [(2, 261), (0, x1), (0, x2)] [(0, ((8 * x2) + x1)), (0, 0), (2, 294)] _ rfl ?_
      refine w_iast (q := 294) rfl (by decide) (pc' := 54) rfl ⟨by decide, rfl⟩ rfl (by decide) rfl ?_
      refine zW.go 1 55 [(2, 261), (0, x1), (0, x2)] [(0, 1)] _ rfl ?_
      exact w_retz rfl rfl (by decide) h
    · have h := h.2.2 c4
      exact h (0, x1) (0, x2)
set_option maxRecDepth 4000 in
theorem s_m_seed {X : zX} {d : Nat} {rf mem : zF} {Q : Int → zF → Prop} (hR : zall rf zRK = true) {x1 : Int} (h : (inI x1) ∧ ((0 ≤ x1 → (inI x1) ∧ (Q 1 (zup mem 261 66 x1))) ∧ (¬ 0 ≤ x1 → Ci X d 240 [(2, 261), (0, 5)] rf mem (fun r2 mem3 => (inI r2) ∧ ((r2 < 0 → Q 0 mem3) ∧ (¬ r2 < 0 → Q 1 mem3)))))) : Ci X (d + 1) 305 [(2, 261), (0, x1)] rf mem Q := by
  show zW X (d + 1) 305 0 [(2, 261), (0, x1)] [] (zty, rf, mem) (qi rf Q)
  refine zW.go 1 1 [(2, 261), (0, x1)] [(0, x1)] _ rfl ?_
  refine w_if_ge rfl (by decide) (pc' := 4) rfl h.1 (fun c1 => ?_) (fun c1 => ?_)
  · have h := h.2.1 c1
    refine zW.go 2 20 [(2, 261), (0, x1)] [(0, x1), (2, 261)] _ rfl ?_
    obtain ⟨g, h⟩ := h
    refine w_i2l rfl (by decide) (pc' := 21) rfl g ?_
    refine w_putJ (q := 261) rfl (by decide) (pc' := 24) rfl ⟨by decide, rfl⟩ rfl (by decide) ?_
    refine zW.go 1 25 [(2, 261), (0, x1)] [(0, 1)] _ rfl ?_
    exact w_retz rfl rfl (by decide) h
  · have h := h.2.2 c1
    refine zW.go 2 6 [(2, 261), (0, x1)] [(0, 5), (2, 261)] _ rfl ?_
    refine w_calli (as := [(2, 261), (0, 5)]) [] 9 rfl rfl rfl rfl (Nat.le_of_ble_eq_true rfl) (Nat.le_of_ble_eq_true rfl) (Nat.le_of_ble_eq_true rfl) (Or.inr rfl) (Ci.imp h (fun r2 mem3 h => ?_))
    refine w_if_lt rfl (by decide) (pc' := 12) rfl h.1 (fun c4 => ?_) (fun c4 => ?_)
    · have h := h.2.1 c4
      refine zW.go 1 17 [(2, 261), (0, x1)] [(0, 0)] _ rfl ?_
      exact w_retz rfl rfl (by decide) h
    · have h := h.2.2 c4
      refine zW.go 2 17 [(2, 261), (0, x1)] [(0, 1)] _ rfl ?_
      exact w_retz rfl rfl (by decide) h
set_option maxRecDepth 4000 in
theorem s_m_kept {X : zX} {d : Nat} {rf mem : zF} {Q : Int → zF → Prop} (hR : zall rf zRK = true) {x1 : Int} {x2 : Int} (h : Ci X d 194 [(0, x1), (0, 0), (0, ((mem 303 0) - 1))] rf mem (fun r1 mem2 => (inI r1) ∧ ((r1 = 0 → Q (-1) mem2) ∧ (¬ r1 = 0 → Ci X d 194 [(0, x2), (0, 0), (0, 3)] rf mem2 (fun r4 mem5 => (inI r4) ∧ ((r4 = 0 → Q (-1) mem5) ∧ (¬ r4 = 0 → (0 ≤ ((4 * x1) + x2) ∧ ((4 * x1) + x2) < 3520) ∧ (Q (mem5 304 (((4 * x1) + x2)).toNat) mem5)))))))) : Ci X (d + 1) 306 [(2, 261), (0, x1), (0, x2)] rf mem Q := by
  show zW X (d + 1) 306 0 [(2, 261), (0, x1), (0, x2)] [] (zty, rf, mem) (qi rf Q)
  refine zW.go 3 3 [(2, 261), (0, x1), (0, x2)] [(2, 261), (0, 0), (0, x1)] _ rfl ?_
  refine w_getL (q := 261) (v := 303) rfl (by decide) (pc' := 6) rfl ⟨by decide, rfl⟩ rfl rfl (zall_at hR (by decide)) ?_
  refine zW.go 1 7 [(2, 261), (0, x1), (0, x2)] [(0, 0), (2, 303), (0, 0), (0, x1)] _ rfl ?_
  refine w_iald (q := 303) rfl (by decide) (pc' := 8) rfl ⟨by decide, rfl⟩ rfl (by decide) rfl ?_
  refine zW.go 2 10 [(2, 261), (0, x1), (0, x2)] [(0, ((mem 303 0) - 1)), (0, 0), (0, x1)] _ rfl ?_
  refine w_calli (as := [(0, x1), (0, 0), (0, ((mem 303 0) - 1))]) [] 13 rfl rfl rfl rfl (Nat.le_of_ble_eq_true rfl) (Nat.le_of_ble_eq_true rfl) (Nat.le_of_ble_eq_true rfl) (Or.inl rfl) (Ci.imp h (fun r1 mem2 h => ?_))
  refine w_if_eq rfl (by decide) (pc' := 16) rfl h.1 (fun c3 => ?_) (fun c3 => ?_)
  · have h := h.2.1 c3
    refine zW.go 1 39 [(2, 261), (0, x1), (0, x2)] [(0, (-1))] _ rfl ?_
    exact w_reti rfl rfl h
  · have h := h.2.2 c3
    refine zW.go 3 19 [(2, 261), (0, x1), (0, x2)] [(0, 3), (0, 0), (0, x2)] _ rfl ?_
    refine w_calli (as := [(0, x2), (0, 0), (0, 3)]) [] 22 rfl rfl rfl rfl (Nat.le_of_ble_eq_true rfl) (Nat.le_of_ble_eq_true rfl) (Nat.le_of_ble_eq_true rfl) (Or.inl rfl) (Ci.imp h (fun r4 mem5 h => ?_))
    refine w_if_eq rfl (by decide) (pc' := 25) rfl h.1 (fun c6 => ?_) (fun c6 => ?_)
    · have h := h.2.1 c6
      refine zW.go 1 39 [(2, 261), (0, x1), (0, x2)] [(0, (-1))] _ rfl ?_
      exact w_reti rfl rfl h
    · have h := h.2.2 c6
      refine zW.go 1 26 [(2, 261), (0, x1), (0, x2)] [(2, 261)] _ rfl ?_
      refine w_getL (q := 261) (v := 304) rfl (by decide) (pc' := 29) rfl ⟨by decide, rfl⟩ rfl rfl (zall_at hR (by decide)) ?_
      refine zW.go 5 34 [(2, 261), (0, x1), (0, x2)] [(0, ((4 * x1) + x2)), (2, 304)] _ rfl ?_
      obtain ⟨g, h⟩ := h
      refine w_iald (q := 304) rfl (by decide) (pc' := 35) rfl ⟨by decide, rfl⟩ rfl g rfl ?_
      refine zW.go 1 39 [(2, 261), (0, x1), (0, x2)] [(0, (mem5 304 (((4 * x1) + x2)).toNat))] _ rfl ?_
      exact w_reti rfl rfl h
set_option maxRecDepth 4000 in
theorem s_m_writes {X : zX} {d : Nat} {rf mem : zF} {Q : zF → Prop} (hR : zall rf zRK = true) {x1 : Int} (h : (0 ≤ (mem 261 78) ∧ (mem 261 78) < 90) ∧ (Q (zup (zup mem 314 ((mem 261 78)).toNat (zand x1 255)) 261 78 ((mem 261 78) + 1)))) : Cv X d 307 [(2, 261), (0, x1)] rf mem Q := by
  show zW X d 307 0 [(2, 261), (0, x1)] [] (zty, rf, mem) (qv rf Q)
  refine zW.go 1 1 [(2, 261), (0, x1)] [(2, 261)] _ rfl ?_
  refine w_getL (q := 261) (v := 314) rfl (by decide) (pc' := 4) rfl ⟨by decide, rfl⟩ rfl rfl (zall_at hR (by decide)) ?_
  refine zW.go 1 5 [(2, 261), (0, x1)] [(2, 261), (2, 314)] _ rfl ?_
  refine w_getI (q := 261) rfl (by decide) (pc' := 8) rfl ⟨by decide, rfl⟩ rfl (by decide) ?_
  refine zW.go 3 13 [(2, 261), (0, x1)] [(0, (zand x1 255)), (0, (mem 261 78)), (2, 314)] _ rfl ?_
  obtain ⟨g, h⟩ := h
  refine w_iast (q := 314) rfl (by decide) (pc' := 14) rfl ⟨by decide, rfl⟩ rfl g rfl ?_
  refine zW.go 2 16 [(2, 261), (0, x1)] [(2, 261), (2, 261)] _ rfl ?_
  refine w_getI (q := 261) rfl (by decide) (pc' := 19) rfl ⟨by decide, rfl⟩ rfl (by decide) ?_
  refine zW.go 2 21 [(2, 261), (0, x1)] [(0, ((mem 261 78) + 1)), (2, 261)] _ rfl ?_
  refine w_putI (q := 261) rfl (by decide) (pc' := 24) rfl ⟨by decide, rfl⟩ rfl (by decide) ?_
  exact w_retv rfl rfl h
def L_m_image_58 (X : zX) (d : Nat) (rf : zF) (Q : Int → zF → Prop) (mem : zF) (x1 : Int) : Prop := ∀ z2 : zV, zW X (d + 1) 308 58 [(2, 261), (0, x1), z2] [] (zty, rf, mem) (qi rf Q)
def L_m_image_101 (X : zX) (d : Nat) (rf : zF) (Q : Int → zF → Prop) (mem : zF) (x1 : Int) : Prop := ∀ z2 : zV, zW X (d + 1) 308 101 [(2, 261), (0, x1), z2] [] (zty, rf, mem) (qi rf Q)
def L_m_image_150 (X : zX) (d : Nat) (rf : zF) (Q : Int → zF → Prop) (mem : zF) (x1 : Int) : Prop := ∀ z2 : zV, zW X (d + 1) 308 150 [(2, 261), (0, x1), z2] [] (zty, rf, mem) (qi rf Q)
def L_m_image_229 (X : zX) (d : Nat) (rf : zF) (Q : Int → zF → Prop) (mem : zF) (x1 : Int) : Prop := ∀ z2 : zV, zW X (d + 1) 308 229 [(2, 261), (0, x1), z2] [] (zty, rf, mem) (qi rf Q)
def L_m_image_287 (X : zX) (d : Nat) (rf : zF) (Q : Int → zF → Prop) (mem : zF) (x1 : Int) (x2 : Int) : Prop := zW X (d + 1) 308 287 [(2, 261), (0, x1), (0, x2)] [] (zty, rf, mem) (qi rf Q)
set_option maxRecDepth 4000 in
theorem s_m_image_58 {X : zX} {d : Nat} {rf mem : zF} {Q : Int → zF → Prop} (hR : zall rf zRK = true) {x1 : Int} (h : (0 ≤ (mem 261 13) ∧ (mem 261 13) < 2) ∧ ((inI x1 ∧ inI (mem 266 ((mem 261 13)).toNat)) ∧ (((mem 266 ((mem 261 13)).toNat) ≤ x1 → L_m_image_101 X d rf Q mem 0) ∧ (¬ (mem 266 ((mem 261 13)).toNat) ≤ x1 → Ci X d 223 [(0, (mem 295 0)), (0, x1)] rf mem (fun r10 mem11 => (inI r10) ∧ ((r10 = 0 → Cv X d 307 [(2, 261), (0, 0)] rf mem11 (fun mem13 => L_m_image_58 X d rf Q mem13 (x1 + 1))) ∧ (¬ r10 = 0 → Cv X d 307 [(2, 261), (0, 1)] rf mem11 (fun mem14 => L_m_image_58 X d rf Q mem14 (x1 + 1))))))))) : L_m_image_58 X d rf Q mem x1 := by
  intro z2
  refine zW.go 2 60 [(2, 261), (0, x1), z2] [(2, 261), (0, x1)] _ rfl ?_
  refine w_getL (q := 261) (v := 266) rfl (by decide) (pc' := 63) rfl ⟨by decide, rfl⟩ rfl rfl (zall_at hR (by decide)) ?_
  refine zW.go 1 64 [(2, 261), (0, x1), z2] [(2, 261), (2, 266), (0, x1)] _ rfl ?_
  refine w_getI (q := 261) rfl (by decide) (pc' := 67) rfl ⟨by decide, rfl⟩ rfl (by decide) ?_
  obtain ⟨g, h⟩ := h
  refine w_iald (q := 266) rfl (by decide) (pc' := 68) rfl ⟨by decide, rfl⟩ rfl g rfl ?_
  refine w_ic_ge rfl (by decide) (pc' := 71) rfl h.1 (fun c9 => ?_) (fun c9 => ?_)
  · have h := h.2.1 c9
    refine zW.go 2 101 [(2, 261), (0, 0), z2] [] _ rfl ?_
    exact h z2
  · have h := h.2.2 c9
    refine zW.go 2 73 [(2, 261), (0, x1), z2] [(2, 261), (2, 261)] _ rfl ?_
    refine w_getL (q := 261) (v := 295) rfl (by decide) (pc' := 76) rfl ⟨by decide, rfl⟩ rfl rfl (zall_at hR (by decide)) ?_
    refine zW.go 1 77 [(2, 261), (0, x1), z2] [(0, 0), (2, 295), (2, 261)] _ rfl ?_
    refine w_iald (q := 295) rfl (by decide) (pc' := 78) rfl ⟨by decide, rfl⟩ rfl (by decide) rfl ?_
    refine zW.go 1 79 [(2, 261), (0, x1), z2] [(0, x1), (0, (mem 295 0)), (2, 261)] _ rfl ?_
    refine w_calli (as := [(0, (mem 295 0)), (0, x1)]) [(2, 261)] 82 rfl rfl rfl rfl (Nat.le_of_ble_eq_true rfl) (Nat.le_of_ble_eq_true rfl) (Nat.le_of_ble_eq_true rfl) (Or.inl rfl) (Ci.imp h (fun r10 mem11 h => ?_))
    refine w_if_eq rfl (by decide) (pc' := 85) rfl h.1 (fun c12 => ?_) (fun c12 => ?_)
    · have h := h.2.1 c12
      refine zW.go 1 90 [(2, 261), (0, x1), z2] [(0, 0), (2, 261)] _ rfl ?_
      refine w_callv (as := [(2, 261), (0, 0)]) [] 93 rfl rfl rfl rfl (Nat.le_of_ble_eq_true rfl) (Nat.le_of_ble_eq_true rfl) (Nat.le_of_ble_eq_true rfl) (Or.inr rfl) (Cv.imp h (fun mem13 h => ?_))
      refine zW.go 2 58 [(2, 261), (0, (x1 + 1)), z2] [] _ rfl ?_
      exact h z2
    · have h := h.2.2 c12
      refine zW.go 2 90 [(2, 261), (0, x1), z2] [(0, 1), (2, 261)] _ rfl ?_
      refine w_callv (as := [(2, 261), (0, 1)]) [] 93 rfl rfl rfl rfl (Nat.le_of_ble_eq_true rfl) (Nat.le_of_ble_eq_true rfl) (Nat.le_of_ble_eq_true rfl) (Or.inr rfl) (Cv.imp h (fun mem14 h => ?_))
      refine zW.go 2 58 [(2, 261), (0, (x1 + 1)), z2] [] _ rfl ?_
      exact h z2
set_option maxRecDepth 4000 in
theorem s_m_image_101 {X : zX} {d : Nat} {rf mem : zF} {Q : Int → zF → Prop} (hR : zall rf zRK = true) {x1 : Int} (h : (0 ≤ (mem 261 13) ∧ (mem 261 13) < 2) ∧ ((inI x1 ∧ inI (mem 271 ((mem 261 13)).toNat)) ∧ (((mem 271 ((mem 261 13)).toNat) ≤ x1 → L_m_image_150 X d rf Q mem 0) ∧ (¬ (mem 271 ((mem 261 13)).toNat) ≤ x1 → (0 ≤ x1 ∧ x1 < 132) ∧ (Ci X d 275 [(0, (mem 296 (x1).toNat)), (0, 0)] rf mem (fun r16 mem17 => Cv X d 307 [(2, 261), (0, r16)] rf mem17 (fun mem18 => (0 ≤ x1 ∧ x1 < 132) ∧ (Ci X d 275 [(0, (mem18 296 (x1).toNat)), (0, 1)] rf mem18 (fun r19 mem20 => Cv X d 307 [(2, 261), (0, r19)] rf mem20 (fun mem21 => L_m_image_101 X d rf Q mem21 (x1 + 1))))))))))) : L_m_image_101 X d rf Q mem x1 := by
  intro z2
  refine zW.go 2 103 [(2, 261), (0, x1), z2] [(2, 261), (0, x1)] _ rfl ?_
  refine w_getL (q := 261) (v := 271) rfl (by decide) (pc' := 106) rfl ⟨by decide, rfl⟩ rfl rfl (zall_at hR (by decide)) ?_
  refine zW.go 1 107 [(2, 261), (0, x1), z2] [(2, 261), (2, 271), (0, x1)] _ rfl ?_
  refine w_getI (q := 261) rfl (by decide) (pc' := 110) rfl ⟨by decide, rfl⟩ rfl (by decide) ?_
  obtain ⟨g, h⟩ := h
  refine w_iald (q := 271) rfl (by decide) (pc' := 111) rfl ⟨by decide, rfl⟩ rfl g rfl ?_
  refine w_ic_ge rfl (by decide) (pc' := 114) rfl h.1 (fun c15 => ?_) (fun c15 => ?_)
  · have h := h.2.1 c15
    refine zW.go 2 150 [(2, 261), (0, 0), z2] [] _ rfl ?_
    exact h z2
  · have h := h.2.2 c15
    refine zW.go 2 116 [(2, 261), (0, x1), z2] [(2, 261), (2, 261)] _ rfl ?_
    refine w_getL (q := 261) (v := 296) rfl (by decide) (pc' := 119) rfl ⟨by decide, rfl⟩ rfl rfl (zall_at hR (by decide)) ?_
    refine zW.go 1 120 [(2, 261), (0, x1), z2] [(0, x1), (2, 296), (2, 261)] _ rfl ?_
    obtain ⟨g, h⟩ := h
    refine w_iald (q := 296) rfl (by decide) (pc' := 121) rfl ⟨by decide, rfl⟩ rfl g rfl ?_
    refine zW.go 1 122 [(2, 261), (0, x1), z2] [(0, 0), (0, (mem 296 (x1).toNat)), (2, 261)] _ rfl ?_
    refine w_calli (as := [(0, (mem 296 (x1).toNat)), (0, 0)]) [(2, 261)] 125 rfl rfl rfl rfl (Nat.le_of_ble_eq_true rfl) (Nat.le_of_ble_eq_true rfl) (Nat.le_of_ble_eq_true rfl) (Or.inl rfl) (Ci.imp h (fun r16 mem17 h => ?_))
    refine w_callv (as := [(2, 261), (0, r16)]) [] 128 rfl rfl rfl rfl (Nat.le_of_ble_eq_true rfl) (Nat.le_of_ble_eq_true rfl) (Nat.le_of_ble_eq_true rfl) (Or.inr rfl) (Cv.imp h (fun mem18 h => ?_))
    refine zW.go 2 130 [(2, 261), (0, x1), z2] [(2, 261), (2, 261)] _ rfl ?_
    refine w_getL (q := 261) (v := 296) rfl (by decide) (pc' := 133) rfl ⟨by decide, rfl⟩ rfl rfl (zall_at hR (by decide)) ?_
    refine zW.go 1 134 [(2, 261), (0, x1), z2] [(0, x1), (2, 296), (2, 261)] _ rfl ?_
    obtain ⟨g, h⟩ := h
    refine w_iald (q := 296) rfl (by decide) (pc' := 135) rfl ⟨by decide, rfl⟩ rfl g rfl ?_
    refine zW.go 1 136 [(2, 261), (0, x1), z2] [(0, 1), (0, (mem18 296 (x1).toNat)), (2, 261)] _ rfl ?_
    refine w_calli (as := [(0, (mem18 296 (x1).toNat)), (0, 1)]) [(2, 261)] 139 rfl rfl rfl rfl (Nat.le_of_ble_eq_true rfl) (Nat.le_of_ble_eq_true rfl) (Nat.le_of_ble_eq_true rfl) (Or.inl rfl) (Ci.imp h (fun r19 mem20 h => ?_))
    refine w_callv (as := [(2, 261), (0, r19)]) [] 142 rfl rfl rfl rfl (Nat.le_of_ble_eq_true rfl) (Nat.le_of_ble_eq_true rfl) (Nat.le_of_ble_eq_true rfl) (Or.inr rfl) (Cv.imp h (fun mem21 h => ?_))
    refine zW.go 2 101 [(2, 261), (0, (x1 + 1)), z2] [] _ rfl ?_
    exact h z2
set_option maxRecDepth 4000 in
theorem s_m_image_150 {X : zX} {d : Nat} {rf mem : zF} {Q : Int → zF → Prop} (hR : zall rf zRK = true) {x1 : Int} (h : (0 ≤ (mem 261 13) ∧ (mem 261 13) < 2) ∧ ((inI x1 ∧ inI (mem 274 ((mem 261 13)).toNat)) ∧ (((mem 274 ((mem 261 13)).toNat) ≤ x1 → L_m_image_229 X d rf Q mem 0) ∧ (¬ (mem 274 ((mem 261 13)).toNat) ≤ x1 → (0 ≤ x1 ∧ x1 < 132) ∧ (Ci X d 275 [(0, (mem 297 (x1).toNat)), (0, 0)] rf mem (fun r23 mem24 => Cv X d 307 [(2, 261), (0, r23)] rf mem24 (fun mem25 => (0 ≤ x1 ∧ x1 < 132) ∧ (Ci X d 275 [(0, (mem25 297 (x1).toNat)), (0, 1)] rf mem25 (fun r26 mem27 => Cv X d 307 [(2, 261), (0, r26)] rf mem27 (fun mem28 => (0 ≤ x1 ∧ x1 < 132) ∧ (Cv X d 307 [(2, 261), (0, (mem28 298 (x1).toNat))] rf mem28 (fun mem29 => (0 ≤ x1 ∧ x1 < 132) ∧ (Cv X d 307 [(2, 261), (0, (mem29 299 (x1).toNat))] rf mem29 (fun mem30 => (0 ≤ x1 ∧ x1 < 132) ∧ (Cv X d 307 [(2, 261), (0, (mem30 300 (x1).toNat))] rf mem30 (fun mem31 => L_m_image_150 X d rf Q mem31 (x1 + 1))))))))))))))))) : L_m_image_150 X d rf Q mem x1 := by
  intro z2
  refine zW.go 2 152 [(2, 261), (0, x1), z2] [(2, 261), (0, x1)] _ rfl ?_
  refine w_getL (q := 261) (v := 274) rfl (by decide) (pc' := 155) rfl ⟨by decide, rfl⟩ rfl rfl (zall_at hR (by decide)) ?_
  refine zW.go 1 156 [(2, 261), (0, x1), z2] [(2, 261), (2, 274), (0, x1)] _ rfl ?_
  refine w_getI (q := 261) rfl (by decide) (pc' := 159) rfl ⟨by decide, rfl⟩ rfl (by decide) ?_
  obtain ⟨g, h⟩ := h
  refine w_iald (q := 274) rfl (by decide) (pc' := 160) rfl ⟨by decide, rfl⟩ rfl g rfl ?_
  refine w_ic_ge rfl (by decide) (pc' := 163) rfl h.1 (fun c22 => ?_) (fun c22 => ?_)
  · have h := h.2.1 c22
    refine zW.go 2 229 [(2, 261), (0, 0), z2] [] _ rfl ?_
    exact h z2
  · have h := h.2.2 c22
    refine zW.go 2 165 [(2, 261), (0, x1), z2] [(2, 261), (2, 261)] _ rfl ?_
    refine w_getL (q := 261) (v := 297) rfl (by decide) (pc' := 168) rfl ⟨by decide, rfl⟩ rfl rfl (zall_at hR (by decide)) ?_
    refine zW.go 1 169 [(2, 261), (0, x1), z2] [(0, x1), (2, 297), (2, 261)] _ rfl ?_
    obtain ⟨g, h⟩ := h
    refine w_iald (q := 297) rfl (by decide) (pc' := 170) rfl ⟨by decide, rfl⟩ rfl g rfl ?_
    refine zW.go 1 171 [(2, 261), (0, x1), z2] [(0, 0), (0, (mem 297 (x1).toNat)), (2, 261)] _ rfl ?_
    refine w_calli (as := [(0, (mem 297 (x1).toNat)), (0, 0)]) [(2, 261)] 174 rfl rfl rfl rfl (Nat.le_of_ble_eq_true rfl) (Nat.le_of_ble_eq_true rfl) (Nat.le_of_ble_eq_true rfl) (Or.inl rfl) (Ci.imp h (fun r23 mem24 h => ?_))
    refine w_callv (as := [(2, 261), (0, r23)]) [] 177 rfl rfl rfl rfl (Nat.le_of_ble_eq_true rfl) (Nat.le_of_ble_eq_true rfl) (Nat.le_of_ble_eq_true rfl) (Or.inr rfl) (Cv.imp h (fun mem25 h => ?_))
    refine zW.go 2 179 [(2, 261), (0, x1), z2] [(2, 261), (2, 261)] _ rfl ?_
    refine w_getL (q := 261) (v := 297) rfl (by decide) (pc' := 182) rfl ⟨by decide, rfl⟩ rfl rfl (zall_at hR (by decide)) ?_
    refine zW.go 1 183 [(2, 261), (0, x1), z2] [(0, x1), (2, 297), (2, 261)] _ rfl ?_
    obtain ⟨g, h⟩ := h
    refine w_iald (q := 297) rfl (by decide) (pc' := 184) rfl ⟨by decide, rfl⟩ rfl g rfl ?_
    refine zW.go 1 185 [(2, 261), (0, x1), z2] [(0, 1), (0, (mem25 297 (x1).toNat)), (2, 261)] _ rfl ?_
    refine w_calli (as := [(0, (mem25 297 (x1).toNat)), (0, 1)]) [(2, 261)] 188 rfl rfl rfl rfl (Nat.le_of_ble_eq_true rfl) (Nat.le_of_ble_eq_true rfl) (Nat.le_of_ble_eq_true rfl) (Or.inl rfl) (Ci.imp h (fun r26 mem27 h => ?_))
    refine w_callv (as := [(2, 261), (0, r26)]) [] 191 rfl rfl rfl rfl (Nat.le_of_ble_eq_true rfl) (Nat.le_of_ble_eq_true rfl) (Nat.le_of_ble_eq_true rfl) (Or.inr rfl) (Cv.imp h (fun mem28 h => ?_))
    refine zW.go 2 193 [(2, 261), (0, x1), z2] [(2, 261), (2, 261)] _ rfl ?_
    refine w_getL (q := 261) (v := 298) rfl (by decide) (pc' := 196) rfl ⟨by decide, rfl⟩ rfl rfl (zall_at hR (by decide)) ?_
    refine zW.go 1 197 [(2, 261), (0, x1), z2] [(0, x1), (2, 298), (2, 261)] _ rfl ?_
    obtain ⟨g, h⟩ := h
    refine w_iald (q := 298) rfl (by decide) (pc' := 198) rfl ⟨by decide, rfl⟩ rfl g rfl ?_
    refine w_callv (as := [(2, 261), (0, (mem28 298 (x1).toNat))]) [] 201 rfl rfl rfl rfl (Nat.le_of_ble_eq_true rfl) (Nat.le_of_ble_eq_true rfl) (Nat.le_of_ble_eq_true rfl) (Or.inr rfl) (Cv.imp h (fun mem29 h => ?_))
    refine zW.go 2 203 [(2, 261), (0, x1), z2] [(2, 261), (2, 261)] _ rfl ?_
    refine w_getL (q := 261) (v := 299) rfl (by decide) (pc' := 206) rfl ⟨by decide, rfl⟩ rfl rfl (zall_at hR (by decide)) ?_
    refine zW.go 1 207 [(2, 261), (0, x1), z2] [(0, x1), (2, 299), (2, 261)] _ rfl ?_
    obtain ⟨g, h⟩ := h
    refine w_iald (q := 299) rfl (by decide) (pc' := 208) rfl ⟨by decide, rfl⟩ rfl g rfl ?_
    refine w_callv (as := [(2, 261), (0, (mem29 299 (x1).toNat))]) [] 211 rfl rfl rfl rfl (Nat.le_of_ble_eq_true rfl) (Nat.le_of_ble_eq_true rfl) (Nat.le_of_ble_eq_true rfl) (Or.inr rfl) (Cv.imp h (fun mem30 h => ?_))
    refine zW.go 2 213 [(2, 261), (0, x1), z2] [(2, 261), (2, 261)] _ rfl ?_
    refine w_getL (q := 261) (v := 300) rfl (by decide) (pc' := 216) rfl ⟨by decide, rfl⟩ rfl rfl (zall_at hR (by decide)) ?_
    refine zW.go 1 217 [(2, 261), (0, x1), z2] [(0, x1), (2, 300), (2, 261)] _ rfl ?_
    obtain ⟨g, h⟩ := h
    refine w_iald (q := 300) rfl (by decide) (pc' := 218) rfl ⟨by decide, rfl⟩ rfl g rfl ?_
    refine w_callv (as := [(2, 261), (0, (mem30 300 (x1).toNat))]) [] 221 rfl rfl rfl rfl (Nat.le_of_ble_eq_true rfl) (Nat.le_of_ble_eq_true rfl) (Nat.le_of_ble_eq_true rfl) (Or.inr rfl) (Cv.imp h (fun mem31 h => ?_))
    refine zW.go 2 150 [(2, 261), (0, (x1 + 1)), z2] [] _ rfl ?_
    exact h z2
set_option maxRecDepth 4000 in
theorem s_m_image_229 {X : zX} {d : Nat} {rf mem : zF} {Q : Int → zF → Prop} (hR : zall rf zRK = true) {x1 : Int} (h : (0 ≤ (mem 261 13) ∧ (mem 261 13) < 2) ∧ ((inI x1 ∧ inI (mem 274 ((mem 261 13)).toNat)) ∧ (((mem 274 ((mem 261 13)).toNat) ≤ x1 → L_m_image_287 X d rf Q mem 197 0) ∧ (¬ (mem 274 ((mem 261 13)).toNat) ≤ x1 → (0 ≤ x1 ∧ x1 < 132) ∧ (Cv X d 307 [(2, 261), (0, (mem 301 (x1).toNat))] rf mem (fun mem33 => (0 ≤ x1 ∧ x1 < 132) ∧ (Cv X d 307 [(2, 261), (0, (zshr (mem33 302 (x1).toNat) 8))] rf mem33 (fun mem34 => (0 ≤ x1 ∧ x1 < 132) ∧ (Cv X d 307 [(2, 261), (0, (mem34 302 (x1).toNat))] rf mem34 (fun mem35 => L_m_image_229 X d rf Q mem35 (x1 + 1))))))))))) : L_m_image_229 X d rf Q mem x1 := by
  intro z2
  refine zW.go 2 231 [(2, 261), (0, x1), z2] [(2, 261), (0, x1)] _ rfl ?_
  refine w_getL (q := 261) (v := 274) rfl (by decide) (pc' := 234) rfl ⟨by decide, rfl⟩ rfl rfl (zall_at hR (by decide)) ?_
  refine zW.go 1 235 [(2, 261), (0, x1), z2] [(2, 261), (2, 274), (0, x1)] _ rfl ?_
  refine w_getI (q := 261) rfl (by decide) (pc' := 238) rfl ⟨by decide, rfl⟩ rfl (by decide) ?_
  obtain ⟨g, h⟩ := h
  refine w_iald (q := 274) rfl (by decide) (pc' := 239) rfl ⟨by decide, rfl⟩ rfl g rfl ?_
  refine w_ic_ge rfl (by decide) (pc' := 242) rfl h.1 (fun c32 => ?_) (fun c32 => ?_)
  · have h := h.2.1 c32
    refine zW.go 4 287 [(2, 261), (0, 197), (0, 0)] [] _ rfl ?_
    exact h
  · have h := h.2.2 c32
    refine zW.go 2 244 [(2, 261), (0, x1), z2] [(2, 261), (2, 261)] _ rfl ?_
    refine w_getL (q := 261) (v := 301) rfl (by decide) (pc' := 247) rfl ⟨by decide, rfl⟩ rfl rfl (zall_at hR (by decide)) ?_
    refine zW.go 1 248 [(2, 261), (0, x1), z2] [(0, x1), (2, 301), (2, 261)] _ rfl ?_
    obtain ⟨g, h⟩ := h
    refine w_iald (q := 301) rfl (by decide) (pc' := 249) rfl ⟨by decide, rfl⟩ rfl g rfl ?_
    refine w_callv (as := [(2, 261), (0, (mem 301 (x1).toNat))]) [] 252 rfl rfl rfl rfl (Nat.le_of_ble_eq_true rfl) (Nat.le_of_ble_eq_true rfl) (Nat.le_of_ble_eq_true rfl) (Or.inr rfl) (Cv.imp h (fun mem33 h => ?_))
    refine zW.go 2 254 [(2, 261), (0, x1), z2] [(2, 261), (2, 261)] _ rfl ?_
    refine w_getL (q := 261) (v := 302) rfl (by decide) (pc' := 257) rfl ⟨by decide, rfl⟩ rfl rfl (zall_at hR (by decide)) ?_
    refine zW.go 1 258 [(2, 261), (0, x1), z2] [(0, x1), (2, 302), (2, 261)] _ rfl ?_
    obtain ⟨g, h⟩ := h
    refine w_iald (q := 302) rfl (by decide) (pc' := 259) rfl ⟨by decide, rfl⟩ rfl g rfl ?_
    refine zW.go 2 262 [(2, 261), (0, x1), z2] [(0, (zshr (mem33 302 (x1).toNat) 8)), (2, 261)] _ rfl ?_
    refine w_callv (as := [(2, 261), (0, (zshr (mem33 302 (x1).toNat) 8))]) [] 265 rfl rfl rfl rfl (Nat.le_of_ble_eq_true rfl) (Nat.le_of_ble_eq_true rfl) (Nat.le_of_ble_eq_true rfl) (Or.inr rfl) (Cv.imp h (fun mem34 h => ?_))
    refine zW.go 2 267 [(2, 261), (0, x1), z2] [(2, 261), (2, 261)] _ rfl ?_
    refine w_getL (q := 261) (v := 302) rfl (by decide) (pc' := 270) rfl ⟨by decide, rfl⟩ rfl rfl (zall_at hR (by decide)) ?_
    refine zW.go 1 271 [(2, 261), (0, x1), z2] [(0, x1), (2, 302), (2, 261)] _ rfl ?_
    obtain ⟨g, h⟩ := h
    refine w_iald (q := 302) rfl (by decide) (pc' := 272) rfl ⟨by decide, rfl⟩ rfl g rfl ?_
    refine w_callv (as := [(2, 261), (0, (mem34 302 (x1).toNat))]) [] 275 rfl rfl rfl rfl (Nat.le_of_ble_eq_true rfl) (Nat.le_of_ble_eq_true rfl) (Nat.le_of_ble_eq_true rfl) (Or.inr rfl) (Cv.imp h (fun mem35 h => ?_))
    refine zW.go 2 229 [(2, 261), (0, (x1 + 1)), z2] [] _ rfl ?_
    exact h z2
set_option maxRecDepth 4000 in
theorem s_m_image_287 {X : zX} {d : Nat} {rf mem : zF} {Q : Int → zF → Prop} (hR : zall rf zRK = true) {x1 : Int} {x2 : Int} (h : (inI x2 ∧ inI (mem 261 78)) ∧ (((mem 261 78) ≤ x2 → Cv X d 307 [(2, 261), (0, x1)] rf mem (fun mem37 => Q (mem37 261 78) mem37)) ∧ (¬ (mem 261 78) ≤ x2 → (0 ≤ x2 ∧ x2 < 90) ∧ ((inI ((5 * x1) + (mem 314 (x2).toNat))) ∧ (L_m_image_287 X d rf Q mem (((5 * x1) + (mem 314 (x2).toNat)).tmod 251) (x2 + 1)))))) : L_m_image_287 X d rf Q mem x1 x2 := by
  refine zW.go 2 289 [(2, 261), (0, x1), (0, x2)] [(2, 261), (0, x2)] _ rfl ?_
  refine w_getI (q := 261) rfl (by decide) (pc' := 292) rfl ⟨by decide, rfl⟩ rfl (by decide) ?_
  refine w_ic_ge rfl (by decide) (pc' := 295) rfl h.1 (fun c36 => ?_) (fun c36 => ?_)
  · have h := h.2.1 c36
    refine zW.go 2 318 [(2, 261), (0, x1), (0, x2)] [(0, x1), (2, 261)] _ rfl ?_
    refine w_callv (as := [(2, 261), (0, x1)]) [] 321 rfl rfl rfl rfl (Nat.le_of_ble_eq_true rfl) (Nat.le_of_ble_eq_true rfl) (Nat.le_of_ble_eq_true rfl) (Or.inr rfl) (Cv.imp h (fun mem37 h => ?_))
    refine zW.go 1 322 [(2, 261), (0, x1), (0, x2)] [(2, 261)] _ rfl ?_
    refine w_getI (q := 261) rfl (by decide) (pc' := 325) rfl ⟨by decide, rfl⟩ rfl (by decide) ?_
    exact w_reti rfl rfl h
  · have h := h.2.2 c36
    refine zW.go 4 299 [(2, 261), (0, x1), (0, x2)] [(2, 261), (0, (5 * x1))] _ rfl ?_
    refine w_getL (q := 261) (v := 314) rfl (by decide) (pc' := 302) rfl ⟨by decide, rfl⟩ rfl rfl (zall_at hR (by decide)) ?_
    refine zW.go 1 303 [(2, 261), (0, x1), (0, x2)] [(0, x2), (2, 314), (0, (5 * x1))] _ rfl ?_
    obtain ⟨g, h⟩ := h
    refine w_iald (q := 314) rfl (by decide) (pc' := 304) rfl ⟨by decide, rfl⟩ rfl g rfl ?_
    refine zW.go 2 308 [(2, 261), (0, x1), (0, x2)] [(0, 251), (0, ((5 * x1) + (mem 314 (x2).toNat)))] _ rfl ?_
    obtain ⟨g, h⟩ := h
    refine w_irem rfl (by decide) (pc' := 309) rfl ⟨g, by decide, by decide⟩ ?_
    refine zW.go 3 287 [(2, 261), (0, (((5 * x1) + (mem 314 (x2).toNat)).tmod 251)), (0, (x2 + 1))] [] _ rfl ?_
    exact h
set_option maxRecDepth 4000 in
theorem s_m_image {X : zX} {d : Nat} {rf mem : zF} {Q : Int → zF → Prop} (hR : zall rf zRK = true) (h : Cv X d 307 [(2, 261), (0, (zshr (mem 293 0) 8))] rf (zup mem 261 78 0) (fun mem1 => Cv X d 307 [(2, 261), (0, (mem1 293 0))] rf mem1 (fun mem2 => Ci X d 275 [(0, (mem2 294 0)), (0, 0)] rf mem2 (fun r3 mem4 => Cv X d 307 [(2, 261), (0, r3)] rf mem4 (fun mem5 => Ci X d 275 [(0, (mem5 294 0)), (0, 1)] rf mem5 (fun r6 mem7 => Cv X d 307 [(2, 261), (0, r6)] rf mem7 (fun mem8 => L_m_image_58 X d rf Q mem8 0))))))) : Ci X (d + 1) 308 [(2, 261)] rf mem Q := by
  show zW X (d + 1) 308 0 [(2, 261), (9, 0), (9, 0)] [] (zty, rf, mem) (qi rf Q)
  refine zW.go 2 2 [(2, 261), (9, 0), (9, 0)] [(0, 0), (2, 261)] _ rfl ?_
  refine w_putI (q := 261) rfl (by decide) (pc' := 5) rfl ⟨by decide, rfl⟩ rfl (by decide) ?_
  refine zW.go 2 7 [(2, 261), (9, 0), (9, 0)] [(2, 261), (2, 261)] _ rfl ?_
  refine w_getL (q := 261) (v := 293) rfl (by decide) (pc' := 10) rfl ⟨by decide, rfl⟩ rfl rfl (zall_at hR (by decide)) ?_
  refine zW.go 1 11 [(2, 261), (9, 0), (9, 0)] [(0, 0), (2, 293), (2, 261)] _ rfl ?_
  refine w_iald (q := 293) rfl (by decide) (pc' := 12) rfl ⟨by decide, rfl⟩ rfl (by decide) rfl ?_
  refine zW.go 2 15 [(2, 261), (9, 0), (9, 0)] [(0, (zshr (mem 293 0) 8)), (2, 261)] _ rfl ?_
  refine w_callv (as := [(2, 261), (0, (zshr (mem 293 0) 8))]) [] 18 rfl rfl rfl rfl (Nat.le_of_ble_eq_true rfl) (Nat.le_of_ble_eq_true rfl) (Nat.le_of_ble_eq_true rfl) (Or.inr rfl) (Cv.imp h (fun mem1 h => ?_))
  refine zW.go 2 20 [(2, 261), (9, 0), (9, 0)] [(2, 261), (2, 261)] _ rfl ?_
  refine w_getL (q := 261) (v := 293) rfl (by decide) (pc' := 23) rfl ⟨by decide, rfl⟩ rfl rfl (zall_at hR (by decide)) ?_
  refine zW.go 1 24 [(2, 261), (9, 0), (9, 0)] [(0, 0), (2, 293), (2, 261)] _ rfl ?_
  refine w_iald (q := 293) rfl (by decide) (pc' := 25) rfl ⟨by decide, rfl⟩ rfl (by decide) rfl ?_
  refine w_callv (as := [(2, 261), (0, (mem1 293 0))]) [] 28 rfl rfl rfl rfl (Nat.le_of_ble_eq_true rfl) (Nat.le_of_ble_eq_true rfl) (Nat.le_of_ble_eq_true rfl) (Or.inr rfl) (Cv.imp h (fun mem2 h => ?_))
  refine zW.go 2 30 [(2, 261), (9, 0), (9, 0)] [(2, 261), (2, 261)] _ rfl ?_
  refine w_getL (q := 261) (v := 294) rfl (by decide) (pc' := 33) rfl ⟨by decide, rfl⟩ rfl rfl (zall_at hR (by decide)) ?_
  refine zW.go 1 34 [(2, 261), (9, 0), (9, 0)] [(0, 0), (2, 294), (2, 261)] _ rfl ?_
  refine w_iald (q := 294) rfl (by decide) (pc' := 35) rfl ⟨by decide, rfl⟩ rfl (by decide) rfl ?_
  refine zW.go 1 36 [(2, 261), (9, 0), (9, 0)] [(0, 0), (0, (mem2 294 0)), (2, 261)] _ rfl ?_
  refine w_calli (as := [(0, (mem2 294 0)), (0, 0)]) [(2, 261)] 39 rfl rfl rfl rfl (Nat.le_of_ble_eq_true rfl) (Nat.le_of_ble_eq_true rfl) (Nat.le_of_ble_eq_true rfl) (Or.inl rfl) (Ci.imp h (fun r3 mem4 h => ?_))
  refine w_callv (as := [(2, 261), (0, r3)]) [] 42 rfl rfl rfl rfl (Nat.le_of_ble_eq_true rfl) (Nat.le_of_ble_eq_true rfl) (Nat.le_of_ble_eq_true rfl) (Or.inr rfl) (Cv.imp h (fun mem5 h => ?_))
  refine zW.go 2 44 [(2, 261), (9, 0), (9, 0)] [(2, 261), (2, 261)] _ rfl ?_
  refine w_getL (q := 261) (v := 294) rfl (by decide) (pc' := 47) rfl ⟨by decide, rfl⟩ rfl rfl (zall_at hR (by decide)) ?_
  refine zW.go 1 48 [(2, 261), (9, 0), (9, 0)] [(0, 0), (2, 294), (2, 261)] _ rfl ?_
  refine w_iald (q := 294) rfl (by decide) (pc' := 49) rfl ⟨by decide, rfl⟩ rfl (by decide) rfl ?_
  refine zW.go 1 50 [(2, 261), (9, 0), (9, 0)] [(0, 1), (0, (mem5 294 0)), (2, 261)] _ rfl ?_
  refine w_calli (as := [(0, (mem5 294 0)), (0, 1)]) [(2, 261)] 53 rfl rfl rfl rfl (Nat.le_of_ble_eq_true rfl) (Nat.le_of_ble_eq_true rfl) (Nat.le_of_ble_eq_true rfl) (Or.inl rfl) (Ci.imp h (fun r6 mem7 h => ?_))
  refine w_callv (as := [(2, 261), (0, r6)]) [] 56 rfl rfl rfl rfl (Nat.le_of_ble_eq_true rfl) (Nat.le_of_ble_eq_true rfl) (Nat.le_of_ble_eq_true rfl) (Or.inr rfl) (Cv.imp h (fun mem8 h => ?_))
  refine zW.go 2 58 [(2, 261), (0, 0), (9, 0)] [] _ rfl ?_
  exact h (9, 0)
set_option maxRecDepth 4000 in
theorem s_m_octet {X : zX} {d : Nat} {rf mem : zF} {Q : Int → zF → Prop} (hR : zall rf zRK = true) {x1 : Int} (h : Ci X d 194 [(0, x1), (0, 0), (0, ((mem 261 78) - 1))] rf mem (fun r1 mem2 => (inI r1) ∧ ((r1 = 0 → Q (-1) mem2) ∧ (¬ r1 = 0 → (0 ≤ x1 ∧ x1 < 90) ∧ (Q (mem2 314 (x1).toNat) mem2))))) : Ci X (d + 1) 309 [(2, 261), (0, x1)] rf mem Q := by
  show zW X (d + 1) 309 0 [(2, 261), (0, x1)] [] (zty, rf, mem) (qi rf Q)
  refine zW.go 3 3 [(2, 261), (0, x1)] [(2, 261), (0, 0), (0, x1)] _ rfl ?_
  refine w_getI (q := 261) rfl (by decide) (pc' := 6) rfl ⟨by decide, rfl⟩ rfl (by decide) ?_
  refine zW.go 2 8 [(2, 261), (0, x1)] [(0, ((mem 261 78) - 1)), (0, 0), (0, x1)] _ rfl ?_
  refine w_calli (as := [(0, x1), (0, 0), (0, ((mem 261 78) - 1))]) [] 11 rfl rfl rfl rfl (Nat.le_of_ble_eq_true rfl) (Nat.le_of_ble_eq_true rfl) (Nat.le_of_ble_eq_true rfl) (Or.inl rfl) (Ci.imp h (fun r1 mem2 h => ?_))
  refine w_if_eq rfl (by decide) (pc' := 14) rfl h.1 (fun c3 => ?_) (fun c3 => ?_)
  · have h := h.2.1 c3
    refine zW.go 1 24 [(2, 261), (0, x1)] [(0, (-1))] _ rfl ?_
    exact w_reti rfl rfl h
  · have h := h.2.2 c3
    refine zW.go 1 15 [(2, 261), (0, x1)] [(2, 261)] _ rfl ?_
    refine w_getL (q := 261) (v := 314) rfl (by decide) (pc' := 18) rfl ⟨by decide, rfl⟩ rfl rfl (zall_at hR (by decide)) ?_
    refine zW.go 1 19 [(2, 261), (0, x1)] [(0, x1), (2, 314)] _ rfl ?_
    obtain ⟨g, h⟩ := h
    refine w_iald (q := 314) rfl (by decide) (pc' := 20) rfl ⟨by decide, rfl⟩ rfl g rfl ?_
    refine zW.go 1 24 [(2, 261), (0, x1)] [(0, (mem2 314 (x1).toNat))] _ rfl ?_
    exact w_reti rfl rfl h
set_option maxRecDepth 4000 in
theorem s_m_isNone {X : zX} {d : Nat} {rf mem : zF} {Q : Int → zF → Prop} (hR : zall rf zRK = true) {x1 : Int} (h : (0 ≤ x1 ∧ x1 < 1800) ∧ ((inI (mem 262 (x1).toNat)) ∧ ((¬ (mem 262 (x1).toNat) = 255 → Q 0 mem) ∧ ((mem 262 (x1).toNat) = 255 → (0 ≤ (x1 + 1) ∧ (x1 + 1) < 1800) ∧ ((inI (mem 262 ((x1 + 1)).toNat)) ∧ ((¬ (mem 262 ((x1 + 1)).toNat) = 255 → Q 0 mem) ∧ ((mem 262 ((x1 + 1)).toNat) = 255 → Q 1 mem))))))) : Ci X d 310 [(2, 261), (0, x1)] rf mem Q := by
  show zW X d 310 0 [(2, 261), (0, x1)] [] (zty, rf, mem) (qi rf Q)
  refine zW.go 1 1 [(2, 261), (0, x1)] [(2, 261)] _ rfl ?_
  refine w_getL (q := 261) (v := 262) rfl (by decide) (pc' := 4) rfl ⟨by decide, rfl⟩ rfl rfl (zall_at hR (by decide)) ?_
  refine zW.go 1 5 [(2, 261), (0, x1)] [(0, x1), (2, 262)] _ rfl ?_
  obtain ⟨g, h⟩ := h
  refine w_iald (q := 262) rfl (by decide) (pc' := 6) rfl ⟨by decide, rfl⟩ rfl g rfl ?_
  refine zW.go 1 9 [(2, 261), (0, x1)] [(0, 255), (0, (mem 262 (x1).toNat))] _ rfl ?_
  refine w_ic_ne rfl (by decide) (pc' := 12) rfl ⟨h.1, by decide⟩ (fun c1 => ?_) (fun c1 => ?_)
  · have h := h.2.1 c1
    refine zW.go 1 31 [(2, 261), (0, x1)] [(0, 0)] _ rfl ?_
    exact w_retz rfl rfl (by decide) h
  · have h := h.2.2 c1
    refine zW.go 1 13 [(2, 261), (0, x1)] [(2, 261)] _ rfl ?_
    refine w_getL (q := 261) (v := 262) rfl (by decide) (pc' := 16) rfl ⟨by decide, rfl⟩ rfl rfl (zall_at hR (by decide)) ?_
    refine zW.go 3 19 [(2, 261), (0, x1)] [(0, (x1 + 1)), (2, 262)] _ rfl ?_
    obtain ⟨g, h⟩ := h
    refine w_iald (q := 262) rfl (by decide) (pc' := 20) rfl ⟨by decide, rfl⟩ rfl g rfl ?_
    refine zW.go 1 23 [(2, 261), (0, x1)] [(0, 255), (0, (mem 262 ((x1 + 1)).toNat))] _ rfl ?_
    refine w_ic_ne rfl (by decide) (pc' := 26) rfl ⟨h.1, by decide⟩ (fun c2 => ?_) (fun c2 => ?_)
    · have h := h.2.1 c2
      refine zW.go 1 31 [(2, 261), (0, x1)] [(0, 0)] _ rfl ?_
      exact w_retz rfl rfl (by decide) h
    · have h := h.2.2 c2
      refine zW.go 2 31 [(2, 261), (0, x1)] [(0, 1)] _ rfl ?_
      exact w_retz rfl rfl (by decide) h
set_option maxRecDepth 4000 in
theorem s_m_cellOn {X : zX} {d : Nat} {rf mem : zF} {Q : Int → zF → Prop} (hR : zall rf zRK = true) {x1 : Int} (h : Ci X d 310 [(2, 261), (0, x1)] rf mem (fun r1 mem2 => (inI r1) ∧ ((r1 = 0 → (0 ≤ (x1 + 1) ∧ (x1 + 1) < 1800) ∧ ((0 ≤ x1 ∧ x1 < 1800) ∧ (Q ((8 * (mem2 262 ((x1 + 1)).toNat)) + (mem2 262 (x1).toNat)) mem2))) ∧ (¬ r1 = 0 → Q (-1) mem2)))) : Ci X (d + 1) 311 [(2, 261), (0, x1)] rf mem Q := by
  show zW X (d + 1) 311 0 [(2, 261), (0, x1)] [] (zty, rf, mem) (qi rf Q)
  refine zW.go 2 2 [(2, 261), (0, x1)] [(0, x1), (2, 261)] _ rfl ?_
  refine w_calli (as := [(2, 261), (0, x1)]) [] 5 rfl rfl rfl rfl (Nat.le_of_ble_eq_true rfl) (Nat.le_of_ble_eq_true rfl) (Nat.le_of_ble_eq_true rfl) (Or.inr rfl) (Ci.imp h (fun r1 mem2 h => ?_))
  refine w_if_eq rfl (by decide) (pc' := 8) rfl h.1 (fun c3 => ?_) (fun c3 => ?_)
  · have h := h.2.1 c3
    refine zW.go 2 15 [(2, 261), (0, x1)] [(2, 261), (0, 8)] _ rfl ?_
    refine w_getL (q := 261) (v := 262) rfl (by decide) (pc' := 18) rfl ⟨by decide, rfl⟩ rfl rfl (zall_at hR (by decide)) ?_
    refine zW.go 3 21 [(2, 261), (0, x1)] [(0, (x1 + 1)), (2, 262), (0, 8)] _ rfl ?_
    obtain ⟨g, h⟩ := h
    refine w_iald (q := 262) rfl (by decide) (pc' := 22) rfl ⟨by decide, rfl⟩ rfl g rfl ?_
    refine zW.go 2 24 [(2, 261), (0, x1)] [(2, 261), (0, (8 * (mem2 262 ((x1 + 1)).toNat)))] _ rfl ?_
    refine w_getL (q := 261) (v := 262) rfl (by decide) (pc' := 27) rfl ⟨by decide, rfl⟩ rfl rfl (zall_at hR (by decide)) ?_
    refine zW.go 1 28 [(2, 261), (0, x1)] [(0, x1), (2, 262), (0, (8 * (mem2 262 ((x1 + 1)).toNat)))] _ rfl ?_
    obtain ⟨g, h⟩ := h
    refine w_iald (q := 262) rfl (by decide) (pc' := 29) rfl ⟨by decide, rfl⟩ rfl g rfl ?_
    refine zW.go 1 30 [(2, 261), (0, x1)] [(0, ((8 * (mem2 262 ((x1 + 1)).toNat)) + (mem2 262 (x1).toNat)))] _ rfl ?_
    exact w_reti rfl rfl h
  · have h := h.2.2 c3
    refine zW.go 2 30 [(2, 261), (0, x1)] [(0, (-1))] _ rfl ?_
    exact w_reti rfl rfl h
def L_m_heirOn_45 (X : zX) (d : Nat) (rf : zF) (Q : Int → zF → Prop) (mem : zF) (x1 : Int) (x3 : Int) (x4 : Int) : Prop := ∀ z2 : zV, zW X (d + 1) 312 45 [(2, 261), (0, x1), z2, (0, x3), (0, x4)] [] (zty, rf, mem) (qi rf Q)
set_option maxRecDepth 4000 in
theorem s_m_heirOn_45 {X : zX} {d : Nat} {rf mem : zF} {Q : Int → zF → Prop} (hR : zall rf zRK = true) {x1 : Int} {x3 : Int} {x4 : Int} (h : (inI x4 ∧ inI x1) ∧ ((x1 ≤ x4 → (0 ≤ (6 + x1) ∧ (6 + x1) < 132) ∧ (Q 1 (zup mem 296 ((6 + x1)).toNat x3))) ∧ (¬ x1 ≤ x4 → (0 ≤ (6 + x4) ∧ (6 + x4) < 132) ∧ ((inI (mem 296 ((6 + x4)).toNat) ∧ inI x3) ∧ ((¬ (mem 296 ((6 + x4)).toNat) = x3 → L_m_heirOn_45 X d rf Q mem x1 x3 (x4 + 1)) ∧ ((mem 296 ((6 + x4)).toNat) = x3 → Q 0 mem)))))) : L_m_heirOn_45 X d rf Q mem x1 x3 x4 := by
  intro z2
  refine zW.go 2 48 [(2, 261), (0, x1), z2, (0, x3), (0, x4)] [(0, x1), (0, x4)] _ rfl ?_
  refine w_ic_ge rfl (by decide) (pc' := 51) rfl h.1 (fun c4 => ?_) (fun c4 => ?_)
  · have h := h.2.1 c4
    refine zW.go 1 74 [(2, 261), (0, x1), z2, (0, x3), (0, x4)] [(2, 261)] _ rfl ?_
    refine w_getL (q := 261) (v := 296) rfl (by decide) (pc' := 77) rfl ⟨by decide, rfl⟩ rfl rfl (zall_at hR (by decide)) ?_
    refine zW.go 4 82 [(2, 261), (0, x1), z2, (0, x3), (0, x4)] [(0, x3), (0, (6 + x1)), (2, 296)] _ rfl ?_
    obtain ⟨g, h⟩ := h
    refine w_iast (q := 296) rfl (by decide) (pc' := 83) rfl ⟨by decide, rfl⟩ rfl g rfl ?_
    refine zW.go 1 84 [(2, 261), (0, x1), z2, (0, x3), (0, x4)] [(0, 1)] _ rfl ?_
    exact w_retz rfl rfl (by decide) h
  · have h := h.2.2 c4
    refine zW.go 1 52 [(2, 261), (0, x1), z2, (0, x3), (0, x4)] [(2, 261)] _ rfl ?_
    refine w_getL (q := 261) (v := 296) rfl (by decide) (pc' := 55) rfl ⟨by decide, rfl⟩ rfl rfl (zall_at hR (by decide)) ?_
    refine zW.go 3 60 [(2, 261), (0, x1), z2, (0, x3), (0, x4)] [(0, (6 + x4)), (2, 296)] _ rfl ?_
    obtain ⟨g, h⟩ := h
    refine w_iald (q := 296) rfl (by decide) (pc' := 61) rfl ⟨by decide, rfl⟩ rfl g rfl ?_
    refine zW.go 1 62 [(2, 261), (0, x1), z2, (0, x3), (0, x4)] [(0, x3), (0, (mem 296 ((6 + x4)).toNat))] _ rfl ?_
    refine w_ic_ne rfl (by decide) (pc' := 65) rfl h.1 (fun c5 => ?_) (fun c5 => ?_)
    · have h := h.2.1 c5
      refine zW.go 2 45 [(2, 261), (0, x1), z2, (0, x3), (0, (x4 + 1))] [] _ rfl ?_
      exact h z2
    · have h := h.2.2 c5
      refine zW.go 1 66 [(2, 261), (0, x1), z2, (0, x3), (0, x4)] [(0, 0)] _ rfl ?_
      exact w_retz rfl rfl (by decide) h
set_option maxRecDepth 4000 in
theorem s_m_heirOn {X : zX} {d : Nat} {rf mem : zF} {Q : Int → zF → Prop} (hR : zall rf zRK = true) {x1 : Int} {x2 : Int} (h : (0 ≤ (x2 + 1) ∧ (x2 + 1) < 1800) ∧ ((0 ≤ x2 ∧ x2 < 1800) ∧ ((0 ≤ x2 ∧ x2 < 1800) ∧ ((0 ≤ (x2 + 1) ∧ (x2 + 1) < 1800) ∧ (Ci X d 253 [(2, 261), (0, (mem 262 (x2).toNat)), (0, (mem 262 ((x2 + 1)).toNat))] rf mem (fun r1 mem2 => (inI r1) ∧ ((¬ r1 = 0 → L_m_heirOn_45 X d rf Q mem2 x1 ((8 * (mem 262 ((x2 + 1)).toNat)) + (mem 262 (x2).toNat)) 0) ∧ (r1 = 0 → Q 0 mem2)))))))) : Ci X (d + 1) 312 [(2, 261), (0, x1), (0, x2)] rf mem Q := by
  show zW X (d + 1) 312 0 [(2, 261), (0, x1), (0, x2), (9, 0), (9, 0)] [] (zty, rf, mem) (qi rf Q)
  refine zW.go 2 3 [(2, 261), (0, x1), (0, x2), (9, 0), (9, 0)] [(2, 261), (0, 8)] _ rfl ?_
  refine w_getL (q := 261) (v := 262) rfl (by decide) (pc' := 6) rfl ⟨by decide, rfl⟩ rfl rfl (zall_at hR (by decide)) ?_
  refine zW.go 3 9 [(2, 261), (0, x1), (0, x2), (9, 0), (9, 0)] [(0, (x2 + 1)), (2, 262), (0, 8)] _ rfl ?_
  obtain ⟨g, h⟩ := h
  refine w_iald (q := 262) rfl (by decide) (pc' := 10) rfl ⟨by decide, rfl⟩ rfl g rfl ?_
  refine zW.go 2 12 [(2, 261), (0, x1), (0, x2), (9, 0), (9, 0)] [(2, 261), (0, (8 * (mem 262 ((x2 + 1)).toNat)))] _ rfl ?_
  refine w_getL (q := 261) (v := 262) rfl (by decide) (pc' := 15) rfl ⟨by decide, rfl⟩ rfl rfl (zall_at hR (by decide)) ?_
  refine zW.go 1 16 [(2, 261), (0, x1), (0, x2), (9, 0), (9, 0)] [(0, x2), (2, 262), (0, (8 * (mem 262 ((x2 + 1)).toNat)))] _ rfl ?_
  obtain ⟨g, h⟩ := h
  refine w_iald (q := 262) rfl (by decide) (pc' := 17) rfl ⟨by decide, rfl⟩ rfl g rfl ?_
  refine zW.go 4 21 [(2, 261), (0, x1), (0, x2), (0, ((8 * (mem 262 ((x2 + 1)).toNat)) + (mem 262 (x2).toNat))), (9, 0)] [(2, 261), (2, 261)] _ rfl ?_
  refine w_getL (q := 261) (v := 262) rfl (by decide) (pc' := 24) rfl ⟨by decide, rfl⟩ rfl rfl (zall_at hR (by decide)) ?_
  refine zW.go 1 25 [(2, 261), (0, x1), (0, x2), (0, ((8 * (mem 262 ((x2 + 1)).toNat)) + (mem 262 (x2).toNat))), (9, 0)] [(0, x2), (2, 262), (2, 261)] _ rfl ?_
  obtain ⟨g, h⟩ := h
  refine w_iald (q := 262) rfl (by decide) (pc' := 26) rfl ⟨by decide, rfl⟩ rfl g rfl ?_
  refine zW.go 1 27 [(2, 261), (0, x1), (0, x2), (0, ((8 * (mem 262 ((x2 + 1)).toNat)) + (mem 262 (x2).toNat))), (9, 0)] [(2, 261), (0, (mem 262 (x2).toNat)), (2, 261)] _ rfl ?_
  refine w_getL (q := 261) (v := 262) rfl (by decide) (pc' := 30) rfl ⟨by decide, rfl⟩ rfl rfl (zall_at hR (by decide)) ?_
  refine zW.go 3 33 [(2, 261), (0, x1), (0, x2), (0, ((8 * (mem 262 ((x2 + 1)).toNat)) + (mem 262 (x2).toNat))), (9, 0)] [(0, (x2 + 1)), (2, 262), (0, (mem 262 (x2).toNat)), (2, 261)] _ rfl ?_
  obtain ⟨g, h⟩ := h
  refine w_iald (q := 262) rfl (by decide) (pc' := 34) rfl ⟨by decide, rfl⟩ rfl g rfl ?_
  refine w_calli (as := [(2, 261), (0, (mem 262 (x2).toNat)), (0, (mem 262 ((x2 + 1)).toNat))]) [] 37 rfl rfl rfl rfl (Nat.le_of_ble_eq_true rfl) (Nat.le_of_ble_eq_true rfl) (Nat.le_of_ble_eq_true rfl) (Or.inr rfl) (Ci.imp h (fun r1 mem2 h => ?_))
  refine w_if_ne rfl (by decide) (pc' := 40) rfl h.1 (fun c3 => ?_) (fun c3 => ?_)
  · have h := h.2.1 c3
    refine zW.go 2 45 [(2, 261), (0, x1), (0, x2), (0, ((8 * (mem 262 ((x2 + 1)).toNat)) + (mem 262 (x2).toNat))), (0, 0)] [] _ rfl ?_
    exact h (0, x2)
  · have h := h.2.2 c3
    refine zW.go 1 41 [(2, 261), (0, x1), (0, x2), (0, ((8 * (mem 262 ((x2 + 1)).toNat)) + (mem 262 (x2).toNat))), (9, 0)] [(0, 0)] _ rfl ?_
    exact w_retz rfl rfl (by decide) h
def L_m_bubbleOn_197 (X : zX) (d : Nat) (rf : zF) (Q : Int → zF → Prop) (mem : zF) (x1 : Int) (x3 : Int) (x4 : Int) : Prop := ∀ z2 : zV, zW X (d + 1) 313 197 [(2, 261), (0, x1), z2, (0, x3), (0, x4)] [] (zty, rf, mem) (qi rf Q)
set_option maxRecDepth 4000 in
theorem s_m_bubbleOn_197 {X : zX} {d : Nat} {rf mem : zF} {Q : Int → zF → Prop} (hR : zall rf zRK = true) {x1 : Int} {x3 : Int} {x4 : Int} (h : (inI x4 ∧ inI x1) ∧ ((x1 ≤ x4 → (0 ≤ x3 ∧ x3 < 132) ∧ (Q 1 (zup mem 261 79 (zor (mem 261 79) (mem 300 (x3).toNat))))) ∧ (¬ x1 ≤ x4 → (0 ≤ (6 + x4) ∧ (6 + x4) < 132) ∧ ((0 ≤ x3 ∧ x3 < 132) ∧ ((inI (mem 297 ((6 + x4)).toNat) ∧ inI (mem 297 (x3).toNat)) ∧ ((¬ (mem 297 ((6 + x4)).toNat) = (mem 297 (x3).toNat) → L_m_bubbleOn_197 X d rf Q mem x1 x3 (x4 + 1)) ∧ ((mem 297 ((6 + x4)).toNat) = (mem 297 (x3).toNat) → Q 0 mem))))))) : L_m_bubbleOn_197 X d rf Q mem x1 x3 x4 := by
  intro z2
  refine zW.go 2 200 [(2, 261), (0, x1), z2, (0, x3), (0, x4)] [(0, x1), (0, x4)] _ rfl ?_
  refine w_ic_ge rfl (by decide) (pc' := 203) rfl h.1 (fun c22 => ?_) (fun c22 => ?_)
  · have h := h.2.1 c22
    refine zW.go 2 232 [(2, 261), (0, x1), z2, (0, x3), (0, x4)] [(2, 261), (2, 261)] _ rfl ?_
    refine w_getI (q := 261) rfl (by decide) (pc' := 235) rfl ⟨by decide, rfl⟩ rfl (by decide) ?_
    refine zW.go 1 236 [(2, 261), (0, x1), z2, (0, x3), (0, x4)] [(2, 261), (0, (mem 261 79)), (2, 261)] _ rfl ?_
    refine w_getL (q := 261) (v := 300) rfl (by decide) (pc' := 239) rfl ⟨by decide, rfl⟩ rfl rfl (zall_at hR (by decide)) ?_
    refine zW.go 1 240 [(2, 261), (0, x1), z2, (0, x3), (0, x4)] [(0, x3), (2, 300), (0, (mem 261 79)), (2, 261)] _ rfl ?_
    obtain ⟨g, h⟩ := h
    refine w_iald (q := 300) rfl (by decide) (pc' := 241) rfl ⟨by decide, rfl⟩ rfl g rfl ?_
    refine zW.go 1 242 [(2, 261), (0, x1), z2, (0, x3), (0, x4)] [(0, (zor (mem 261 79) (mem 300 (x3).toNat))), (2, 261)] _ rfl ?_
    refine w_putI (q := 261) rfl (by decide) (pc' := 245) rfl ⟨by decide, rfl⟩ rfl (by decide) ?_
    refine zW.go 1 246 [(2, 261), (0, x1), z2, (0, x3), (0, x4)] [(0, 1)] _ rfl ?_
    exact w_retz rfl rfl (by decide) h
  · have h := h.2.2 c22
    refine zW.go 1 204 [(2, 261), (0, x1), z2, (0, x3), (0, x4)] [(2, 261)] _ rfl ?_
    refine w_getL (q := 261) (v := 297) rfl (by decide) (pc' := 207) rfl ⟨by decide, rfl⟩ rfl rfl (zall_at hR (by decide)) ?_
    refine zW.go 3 212 [(2, 261), (0, x1), z2, (0, x3), (0, x4)] [(0, (6 + x4)), (2, 297)] _ rfl ?_
    obtain ⟨g, h⟩ := h
    refine w_iald (q := 297) rfl (by decide) (pc' := 213) rfl ⟨by decide, rfl⟩ rfl g rfl ?_
    refine zW.go 1 214 [(2, 261), (0, x1), z2, (0, x3), (0, x4)] [(2, 261), (0, (mem 297 ((6 + x4)).toNat))] _ rfl ?_
    refine w_getL (q := 261) (v := 297) rfl (by decide) (pc' := 217) rfl ⟨by decide, rfl⟩ rfl rfl (zall_at hR (by decide)) ?_
    refine zW.go 1 218 [(2, 261), (0, x1), z2, (0, x3), (0, x4)] [(0, x3), (2, 297), (0, (mem 297 ((6 + x4)).toNat))] _ rfl ?_
    obtain ⟨g, h⟩ := h
    refine w_iald (q := 297) rfl (by decide) (pc' := 219) rfl ⟨by decide, rfl⟩ rfl g rfl ?_
    refine w_ic_ne rfl (by decide) (pc' := 222) rfl h.1 (fun c23 => ?_) (fun c23 => ?_)
    · have h := h.2.1 c23
      refine zW.go 2 197 [(2, 261), (0, x1), z2, (0, x3), (0, (x4 + 1))] [] _ rfl ?_
      exact h z2
    · have h := h.2.2 c23
      refine zW.go 1 223 [(2, 261), (0, x1), z2, (0, x3), (0, x4)] [(0, 0)] _ rfl ?_
      exact w_retz rfl rfl (by decide) h
set_option maxRecDepth 4000 in
theorem s_m_bubbleOn {X : zX} {d : Nat} {rf mem : zF} {Q : Int → zF → Prop} (hR : zall rf zRK = true) {x1 : Int} {x2 : Int} (h : Ci X d 311 [(2, 261), (0, x2)] rf mem (fun r1 mem2 => (0 ≤ (6 + x1) ∧ (6 + x1) < 132) ∧ ((0 ≤ (x2 + 2) ∧ (x2 + 2) < 1800) ∧ ((0 ≤ (6 + x1) ∧ (6 + x1) < 132) ∧ ((0 ≤ (x2 + 3) ∧ (x2 + 3) < 1800) ∧ ((0 ≤ (6 + x1) ∧ (6 + x1) < 132) ∧ ((0 ≤ (x2 + 4) ∧ (x2 + 4) < 1800) ∧ ((0 ≤ (6 + x1) ∧ (6 + x1) < 132) ∧ (Ci X d 310 [(2, 261), (0, x2)] rf (zup (zup (zup (zup mem2 297 ((6 + x1)).toNat r1) 298 ((6 + x1)).toNat (mem2 262 ((x2 + 2)).toNat)) 299 ((6 + x1)).toNat (mem2 262 ((x2 + 3)).toNat)) 300 ((6 + x1)).toNat (mem2 262 ((x2 + 4)).toNat)) (fun r3 mem4 => (inI r3) ∧ ((r3 = 0 → (0 ≤ x2 ∧ x2 < 1800) ∧ ((0 ≤ (x2 + 1) ∧ (x2 + 1) < 1800) ∧ (Ci X d 253 [(2, 261), (0, (mem4 262 (x2).toNat)), (0, (mem4 262 ((x2 + 1)).toNat))] rf mem4 (fun r6 mem7 => (inI r6) ∧ ((r6 = 0 → Q 0 mem7) ∧ (¬ r6 = 0 → (0 ≤ (6 + x1) ∧ (6 + x1) < 132) ∧ (Ci X d 194 [(0, (mem7 298 ((6 + x1)).toNat)), (0, 1), (0, 99)] rf mem7 (fun r9 mem10 => (inI r9) ∧ ((r9 = 0 → Q 0 mem10) ∧ (¬ r9 = 0 → (0 ≤ (6 + x1) ∧ (6 + x1) < 132) ∧ (Ci X d 194 [(0, (mem10 299 ((6 + x1)).toNat)), (0, 1), (0, 9)] rf mem10 (fun r12 mem13 => (inI r12) ∧ ((¬ r12 = 0 → (0 ≤ (6 + x1) ∧ (6 + x1) < 132) ∧ ((0 ≤ (mem13 261 13) ∧ (mem13 261 13) < 2) ∧ (Ci X d 194 [(0, (mem13 300 ((6 + x1)).toNat)), (0, 1), (0, ((zshl 1 (mem13 274 ((mem13 261 13)).toNat)) - 1))] rf mem13 (fun r15 mem16 => (inI r15) ∧ ((r15 = 0 → Q 0 mem16) ∧ (¬ r15 = 0 → (0 ≤ (6 + x1) ∧ (6 + x1) < 132) ∧ ((inI (zand (mem16 300 ((6 + x1)).toNat) (mem16 261 79))) ∧ (((zand (mem16 300 ((6 + x1)).toNat) (mem16 261 79)) = 0 → L_m_bubbleOn_197 X d rf Q mem16 x1 (6 + x1) 0) ∧ (¬ (zand (mem16 300 ((6 + x1)).toNat) (mem16 261 79)) = 0 → Q 0 mem16))))))))) ∧ (r12 = 0 → Q 0 mem13)))))))))))))) ∧ (¬ r3 = 0 → (0 ≤ (6 + x1) ∧ (6 + x1) < 132) ∧ ((inI (mem4 298 ((6 + x1)).toNat)) ∧ ((¬ (mem4 298 ((6 + x1)).toNat) = 0 → Q 0 mem4) ∧ ((mem4 298 ((6 + x1)).toNat) = 0 → (0 ≤ (6 + x1) ∧ (6 + x1) < 132) ∧ ((inI (mem4 299 ((6 + x1)).toNat)) ∧ ((¬ (mem4 299 ((6 + x1)).toNat) = 0 → Q 0 mem4) ∧ ((mem4 299 ((6 + x1)).toNat) = 0 → (0 ≤ (6 + x1) ∧ (6 + x1) < 132) ∧ ((inI (mem4 300 ((6 + x1)).toNat)) ∧ ((¬ (mem4 300 ((6 + x1)).toNat) = 0 → Q 0 mem4) ∧ ((mem4 300 ((6 + x1)).toNat) = 0 → Q 1 mem4))))))))))))))))))))) : Ci X (d + 1) 313 [(2, 261), (0, x1), (0, x2)] rf mem Q := by
  show zW X (d + 1) 313 0 [(2, 261), (0, x1), (0, x2), (9, 0), (9, 0)] [] (zty, rf, mem) (qi rf Q)
  refine zW.go 5 6 [(2, 261), (0, x1), (0, x2), (0, (6 + x1)), (9, 0)] [(2, 261)] _ rfl ?_
  refine w_getL (q := 261) (v := 297) rfl (by decide) (pc' := 9) rfl ⟨by decide, rfl⟩ rfl rfl (zall_at hR (by decide)) ?_
  refine zW.go 3 12 [(2, 261), (0, x1), (0, x2), (0, (6 + x1)), (9, 0)] [(0, x2), (2, 261), (0, (6 + x1)), (2, 297)] _ rfl ?_
  refine w_calli (as := [(2, 261), (0, x2)]) [(0, (6 + x1)), (2, 297)] 15 rfl rfl rfl rfl (Nat.le_of_ble_eq_true rfl) (Nat.le_of_ble_eq_true rfl) (Nat.le_of_ble_eq_true rfl) (Or.inr rfl) (Ci.imp h (fun r1 mem2 h => ?_))
  obtain ⟨g, h⟩ := h
  refine w_iast (q := 297) rfl (by decide) (pc' := 16) rfl ⟨by decide, rfl⟩ rfl g rfl ?_
  refine zW.go 1 17 [(2, 261), (0, x1), (0, x2), (0, (6 + x1)), (9, 0)] [(2, 261)] _ rfl ?_
  refine w_getL (q := 261) (v := 298) rfl (by decide) (pc' := 20) rfl ⟨by decide, rfl⟩ rfl rfl (zall_at hR (by decide)) ?_
  refine zW.go 2 22 [(2, 261), (0, x1), (0, x2), (0, (6 + x1)), (9, 0)] [(2, 261), (0, (6 + x1)), (2, 298)] _ rfl ?_
  refine w_getL (q := 261) (v := 262) rfl (by decide) (pc' := 25) rfl ⟨by decide, rfl⟩ rfl rfl (zall_at hR (by decide)) ?_
  refine zW.go 3 28 [(2, 261), (0, x1), (0, x2), (0, (6 + x1)), (9, 0)] [(0, (x2 + 2)), (2, 262), (0, (6 + x1)), (2, 298)] _ rfl ?_
  obtain ⟨g, h⟩ := h
  refine w_iald (q := 262) rfl (by decide) (pc' := 29) rfl ⟨by decide, rfl⟩ rfl g rfl ?_
  obtain ⟨g, h⟩ := h
  refine w_iast (q := 298) rfl (by decide) (pc' := 30) rfl ⟨by decide, rfl⟩ rfl g rfl ?_
  refine zW.go 1 31 [(2, 261), (0, x1), (0, x2), (0, (6 + x1)), (9, 0)] [(2, 261)] _ rfl ?_
  refine w_getL (q := 261) (v := 299) rfl (by decide) (pc' := 34) rfl ⟨by decide, rfl⟩ rfl rfl (zall_at hR (by decide)) ?_
  refine zW.go 2 36 [(2, 261), (0, x1), (0, x2), (0, (6 + x1)), (9, 0)] [(2, 261), (0, (6 + x1)), (2, 299)] _ rfl ?_
  refine w_getL (q := 261) (v := 262) rfl (by decide) (pc' := 39) rfl ⟨by decide, rfl⟩ rfl rfl (zall_at hR (by decide)) ?_
  refine zW.go 3 42 [(2, 261), (0, x1), (0, x2), (0, (6 + x1)), (9, 0)] [(0, (x2 + 3)), (2, 262), (0, (6 + x1)), (2, 299)] _ rfl ?_
  obtain ⟨g, h⟩ := h
  refine w_iald (q := 262) rfl (by decide) (pc' := 43) rfl ⟨by decide, rfl⟩ rfl g rfl ?_
  obtain ⟨g, h⟩ := h
  refine w_iast (q := 299) rfl (by decide) (pc' := 44) rfl ⟨by decide, rfl⟩ rfl g rfl ?_
  refine zW.go 1 45 [(2, 261), (0, x1), (0, x2), (0, (6 + x1)), (9, 0)] [(2, 261)] _ rfl ?_
  refine w_getL (q := 261) (v := 300) rfl (by decide) (pc' := 48) rfl ⟨by decide, rfl⟩ rfl rfl (zall_at hR (by decide)) ?_
  refine zW.go 2 50 [(2, 261), (0, x1), (0, x2), (0, (6 + x1)), (9, 0)] [(2, 261), (0, (6 + x1)), (2, 300)] _ rfl ?_
  refine w_getL (q := 261) (v := 262) rfl (by decide) (pc' := 53) rfl ⟨by decide, rfl⟩ rfl rfl (zall_at hR (by decide)) ?_
  refine zW.go 3 56 [(2, 261), (0, x1), (0, x2), (0, (6 + x1)), (9, 0)] [(0, (x2 + 4)), (2, 262), (0, (6 + x1)), (2, 300)] _ rfl ?_
  obtain ⟨g, h⟩ := h
  refine w_iald (q := 262) rfl (by decide) (pc' := 57) rfl ⟨by decide, rfl⟩ rfl g rfl ?_
  obtain ⟨g, h⟩ := h
  refine w_iast (q := 300) rfl (by decide) (pc' := 58) rfl ⟨by decide, rfl⟩ rfl g rfl ?_
  refine zW.go 2 60 [(2, 261), (0, x1), (0, x2), (0, (6 + x1)), (9, 0)] [(0, x2), (2, 261)] _ rfl ?_
  refine w_calli (as := [(2, 261), (0, x2)]) [] 63 rfl rfl rfl rfl (Nat.le_of_ble_eq_true rfl) (Nat.le_of_ble_eq_true rfl) (Nat.le_of_ble_eq_true rfl) (Or.inr rfl) (Ci.imp h (fun r3 mem4 h => ?_))
  refine w_if_eq rfl (by decide) (pc' := 66) rfl h.1 (fun c5 => ?_) (fun c5 => ?_)
  · have h := h.2.1 c5
    refine zW.go 2 101 [(2, 261), (0, x1), (0, x2), (0, (6 + x1)), (9, 0)] [(2, 261), (2, 261)] _ rfl ?_
    refine w_getL (q := 261) (v := 262) rfl (by decide) (pc' := 104) rfl ⟨by decide, rfl⟩ rfl rfl (zall_at hR (by decide)) ?_
    refine zW.go 1 105 [(2, 261), (0, x1), (0, x2), (0, (6 + x1)), (9, 0)] [(0, x2), (2, 262), (2, 261)] _ rfl ?_
    obtain ⟨g, h⟩ := h
    refine w_iald (q := 262) rfl (by decide) (pc' := 106) rfl ⟨by decide, rfl⟩ rfl g rfl ?_
    refine zW.go 1 107 [(2, 261), (0, x1), (0, x2), (0, (6 + x1)), (9, 0)] [(2, 261), (0, (mem4 262 (x2).toNat)), (2, 261)] _ rfl ?_
    refine w_getL (q := 261) (v := 262) rfl (by decide) (pc' := 110) rfl ⟨by decide, rfl⟩ rfl rfl (zall_at hR (by decide)) ?_
    refine zW.go 3 113 [(2, 261), (0, x1), (0, x2), (0, (6 + x1)), (9, 0)] [(0, (x2 + 1)), (2, 262), (0, (mem4 262 (x2).toNat)), (2, 261)] _ rfl ?_
    obtain ⟨g, h⟩ := h
    refine w_iald (q := 262) rfl (by decide) (pc' := 114) rfl ⟨by decide, rfl⟩ rfl g rfl ?_
    refine w_calli (as := [(2, 261), (0, (mem4 262 (x2).toNat)), (0, (mem4 262 ((x2 + 1)).toNat))]) [] 117 rfl rfl rfl rfl (Nat.le_of_ble_eq_true rfl) (Nat.le_of_ble_eq_true rfl) (Nat.le_of_ble_eq_true rfl) (Or.inr rfl) (Ci.imp h (fun r6 mem7 h => ?_))
    refine w_if_eq rfl (by decide) (pc' := 120) rfl h.1 (fun c8 => ?_) (fun c8 => ?_)
    · have h := h.2.1 c8
      refine zW.go 1 151 [(2, 261), (0, x1), (0, x2), (0, (6 + x1)), (9, 0)] [(0, 0)] _ rfl ?_
      exact w_retz rfl rfl (by decide) h
    · have h := h.2.2 c8
      refine zW.go 1 121 [(2, 261), (0, x1), (0, x2), (0, (6 + x1)), (9, 0)] [(2, 261)] _ rfl ?_
      refine w_getL (q := 261) (v := 298) rfl (by decide) (pc' := 124) rfl ⟨by decide, rfl⟩ rfl rfl (zall_at hR (by decide)) ?_
      refine zW.go 1 125 [(2, 261), (0, x1), (0, x2), (0, (6 + x1)), (9, 0)] [(0, (6 + x1)), (2, 298)] _ rfl ?_
      obtain ⟨g, h⟩ := h
      refine w_iald (q := 298) rfl (by decide) (pc' := 126) rfl ⟨by decide, rfl⟩ rfl g rfl ?_
      refine zW.go 2 129 [(2, 261), (0, x1), (0, x2), (0, (6 + x1)), (9, 0)] [(0, 99), (0, 1), (0, (mem7 298 ((6 + x1)).toNat))] _ rfl ?_
      refine w_calli (as := [(0, (mem7 298 ((6 + x1)).toNat)), (0, 1), (0, 99)]) [] 132 rfl rfl rfl rfl (Nat.le_of_ble_eq_true rfl) (Nat.le_of_ble_eq_true rfl) (Nat.le_of_ble_eq_true rfl) (Or.inl rfl) (Ci.imp h (fun r9 mem10 h => ?_))
      refine w_if_eq rfl (by decide) (pc' := 135) rfl h.1 (fun c11 => ?_) (fun c11 => ?_)
      · have h := h.2.1 c11
        refine zW.go 1 151 [(2, 261), (0, x1), (0, x2), (0, (6 + x1)), (9, 0)] [(0, 0)] _ rfl ?_
        exact w_retz rfl rfl (by decide) h
      · have h := h.2.2 c11
        refine zW.go 1 136 [(2, 261), (0, x1), (0, x2), (0, (6 + x1)), (9, 0)] [(2, 261)] _ rfl ?_
        refine w_getL (q := 261) (v := 299) rfl (by decide) (pc' := 139) rfl ⟨by decide, rfl⟩ rfl rfl (zall_at hR (by decide)) ?_
        refine zW.go 1 140 [(2, 261), (0, x1), (0, x2), (0, (6 + x1)), (9, 0)] [(0, (6 + x1)), (2, 299)] _ rfl ?_
        obtain ⟨g, h⟩ := h
        refine w_iald (q := 299) rfl (by decide) (pc' := 141) rfl ⟨by decide, rfl⟩ rfl g rfl ?_
        refine zW.go 2 144 [(2, 261), (0, x1), (0, x2), (0, (6 + x1)), (9, 0)] [(0, 9), (0, 1), (0, (mem10 299 ((6 + x1)).toNat))] _ rfl ?_
        refine w_calli (as := [(0, (mem10 299 ((6 + x1)).toNat)), (0, 1), (0, 9)]) [] 147 rfl rfl rfl rfl (Nat.le_of_ble_eq_true rfl) (Nat.le_of_ble_eq_true rfl) (Nat.le_of_ble_eq_true rfl) (Or.inl rfl) (Ci.imp h (fun r12 mem13 h => ?_))
        refine w_if_ne rfl (by decide) (pc' := 150) rfl h.1 (fun c14 => ?_) (fun c14 => ?_)
        · have h := h.2.1 c14
          refine zW.go 1 153 [(2, 261), (0, x1), (0, x2), (0, (6 + x1)), (9, 0)] [(2, 261)] _ rfl ?_
          refine w_getL (q := 261) (v := 300) rfl (by decide) (pc' := 156) rfl ⟨by decide, rfl⟩ rfl rfl (zall_at hR (by decide)) ?_
          refine zW.go 1 157 [(2, 261), (0, x1), (0, x2), (0, (6 + x1)), (9, 0)] [(0, (6 + x1)), (2, 300)] _ rfl ?_
          obtain ⟨g, h⟩ := h
          refine w_iald (q := 300) rfl (by decide) (pc' := 158) rfl ⟨by decide, rfl⟩ rfl g rfl ?_
          refine zW.go 3 161 [(2, 261), (0, x1), (0, x2), (0, (6 + x1)), (9, 0)] [(2, 261), (0, 1), (0, 1), (0, (mem13 300 ((6 + x1)).toNat))] _ rfl ?_
          refine w_getL (q := 261) (v := 274) rfl (by decide) (pc' := 164) rfl ⟨by decide, rfl⟩ rfl rfl (zall_at hR (by decide)) ?_
          refine zW.go 1 165 [(2, 261), (0, x1), (0, x2), (0, (6 + x1)), (9, 0)] [(2, 261), (2, 274), (0, 1), (0, 1), (0, (mem13 300 ((6 + x1)).toNat))] _ rfl ?_
          refine w_getI (q := 261) rfl (by decide) (pc' := 168) rfl ⟨by decide, rfl⟩ rfl (by decide) ?_
          obtain ⟨g, h⟩ := h
          refine w_iald (q := 274) rfl (by decide) (pc' := 169) rfl ⟨by decide, rfl⟩ rfl g rfl ?_
          refine zW.go 3 172 [(2, 261), (0, x1), (0, x2), (0, (6 + x1)), (9, 0)] [(0, ((zshl 1 (mem13 274 ((mem13 261 13)).toNat)) - 1)), (0, 1), (0, (mem13 300 ((6 + x1)).toNat))] _ rfl ?_
          refine w_calli (as := [(0, (mem13 300 ((6 + x1)).toNat)), (0, 1), (0, ((zshl 1 (mem13 274 ((mem13 261 13)).toNat)) - 1))]) [] 175 rfl rfl rfl rfl (Nat.le_of_ble_eq_true rfl) (Nat.le_of_ble_eq_true rfl) (Nat.le_of_ble_eq_true rfl) (Or.inl rfl) (Ci.imp h (fun r15 mem16 h => ?_))
          refine w_if_eq rfl (by decide) (pc' := 178) rfl h.1 (fun c17 => ?_) (fun c17 => ?_)
          · have h := h.2.1 c17
            refine zW.go 1 193 [(2, 261), (0, x1), (0, x2), (0, (6 + x1)), (9, 0)] [(0, 0)] _ rfl ?_
            exact w_retz rfl rfl (by decide) h
          · have h := h.2.2 c17
            refine zW.go 1 179 [(2, 261), (0, x1), (0, x2), (0, (6 + x1)), (9, 0)] [(2, 261)] _ rfl ?_
            refine w_getL (q := 261) (v := 300) rfl (by decide) (pc' := 182) rfl ⟨by decide, rfl⟩ rfl rfl (zall_at hR (by decide)) ?_
            refine zW.go 1 183 [(2, 261), (0, x1), (0, x2), (0, (6 + x1)), (9, 0)] [(0, (6 + x1)), (2, 300)] _ rfl ?_
            obtain ⟨g, h⟩ := h
            refine w_iald (q := 300) rfl (by decide) (pc' := 184) rfl ⟨by decide, rfl⟩ rfl g rfl ?_
            refine zW.go 1 185 [(2, 261), (0, x1), (0, x2), (0, (6 + x1)), (9, 0)] [(2, 261), (0, (mem16 300 ((6 + x1)).toNat))] _ rfl ?_
            refine w_getI (q := 261) rfl (by decide) (pc' := 188) rfl ⟨by decide, rfl⟩ rfl (by decide) ?_
            refine zW.go 1 189 [(2, 261), (0, x1), (0, x2), (0, (6 + x1)), (9, 0)] [(0, (zand (mem16 300 ((6 + x1)).toNat) (mem16 261 79)))] _ rfl ?_
            refine w_if_eq rfl (by decide) (pc' := 192) rfl h.1 (fun c18 => ?_) (fun c18 => ?_)
            · have h := h.2.1 c18
              refine zW.go 2 197 [(2, 261), (0, x1), (0, x2), (0, (6 + x1)), (0, 0)] [] _ rfl ?_
              exact h (0, x2)
            · have h := h.2.2 c18
              refine zW.go 1 193 [(2, 261), (0, x1), (0, x2), (0, (6 + x1)), (9, 0)] [(0, 0)] _ rfl ?_
              exact w_retz rfl rfl (by decide) h
        · have h := h.2.2 c14
          refine zW.go 1 151 [(2, 261), (0, x1), (0, x2), (0, (6 + x1)), (9, 0)] [(0, 0)] _ rfl ?_
          exact w_retz rfl rfl (by decide) h
  · have h := h.2.2 c5
    refine zW.go 1 67 [(2, 261), (0, x1), (0, x2), (0, (6 + x1)), (9, 0)] [(2, 261)] _ rfl ?_
    refine w_getL (q := 261) (v := 298) rfl (by decide) (pc' := 70) rfl ⟨by decide, rfl⟩ rfl rfl (zall_at hR (by decide)) ?_
    refine zW.go 1 71 [(2, 261), (0, x1), (0, x2), (0, (6 + x1)), (9, 0)] [(0, (6 + x1)), (2, 298)] _ rfl ?_
    obtain ⟨g, h⟩ := h
    refine w_iald (q := 298) rfl (by decide) (pc' := 72) rfl ⟨by decide, rfl⟩ rfl g rfl ?_
    refine w_if_ne rfl (by decide) (pc' := 75) rfl h.1 (fun c19 => ?_) (fun c19 => ?_)
    · have h := h.2.1 c19
      refine zW.go 1 98 [(2, 261), (0, x1), (0, x2), (0, (6 + x1)), (9, 0)] [(0, 0)] _ rfl ?_
      exact w_retz rfl rfl (by decide) h
    · have h := h.2.2 c19
      refine zW.go 1 76 [(2, 261), (0, x1), (0, x2), (0, (6 + x1)), (9, 0)] [(2, 261)] _ rfl ?_
      refine w_getL (q := 261) (v := 299) rfl (by decide) (pc' := 79) rfl ⟨by decide, rfl⟩ rfl rfl (zall_at hR (by decide)) ?_
      refine zW.go 1 80 [(2, 261), (0, x1), (0, x2), (0, (6 + x1)), (9, 0)] [(0, (6 + x1)), (2, 299)] _ rfl ?_
      obtain ⟨g, h⟩ := h
      refine w_iald (q := 299) rfl (by decide) (pc' := 81) rfl ⟨by decide, rfl⟩ rfl g rfl ?_
      refine w_if_ne rfl (by decide) (pc' := 84) rfl h.1 (fun c20 => ?_) (fun c20 => ?_)
      · have h := h.2.1 c20
        refine zW.go 1 98 [(2, 261), (0, x1), (0, x2), (0, (6 + x1)), (9, 0)] [(0, 0)] _ rfl ?_
        exact w_retz rfl rfl (by decide) h
      · have h := h.2.2 c20
        refine zW.go 1 85 [(2, 261), (0, x1), (0, x2), (0, (6 + x1)), (9, 0)] [(2, 261)] _ rfl ?_
        refine w_getL (q := 261) (v := 300) rfl (by decide) (pc' := 88) rfl ⟨by decide, rfl⟩ rfl rfl (zall_at hR (by decide)) ?_
        refine zW.go 1 89 [(2, 261), (0, x1), (0, x2), (0, (6 + x1)), (9, 0)] [(0, (6 + x1)), (2, 300)] _ rfl ?_
        obtain ⟨g, h⟩ := h
        refine w_iald (q := 300) rfl (by decide) (pc' := 90) rfl ⟨by decide, rfl⟩ rfl g rfl ?_
        refine w_if_ne rfl (by decide) (pc' := 93) rfl h.1 (fun c21 => ?_) (fun c21 => ?_)
        · have h := h.2.1 c21
          refine zW.go 1 98 [(2, 261), (0, x1), (0, x2), (0, (6 + x1)), (9, 0)] [(0, 0)] _ rfl ?_
          exact w_retz rfl rfl (by decide) h
        · have h := h.2.2 c21
          refine zW.go 2 98 [(2, 261), (0, x1), (0, x2), (0, (6 + x1)), (9, 0)] [(0, 1)] _ rfl ?_
          exact w_retz rfl rfl (by decide) h
def L_m_deedOn_30 (X : zX) (d : Nat) (rf : zF) (Q : Int → zF → Prop) (mem : zF) (x1 : Int) (x2 : Int) (s1 : Int) (s2 : Int) : Prop := zW X (d + 1) 314 30 [(2, 261), (0, x1), (0, x2)] [(0, s2), (0, s1), (2, 301)] (zty, rf, mem) (qi rf Q)
set_option maxRecDepth 4000 in
theorem s_m_deedOn_30 {X : zX} {d : Nat} {rf mem : zF} {Q : Int → zF → Prop} (hR : zall rf zRK = true) {x1 : Int} {x2 : Int} {s1 : Int} {s2 : Int} (h : (0 ≤ s1 ∧ s1 < 132) ∧ ((0 ≤ (x2 + 1) ∧ (x2 + 1) < 1800) ∧ ((0 ≤ (x2 + 2) ∧ (x2 + 2) < 1800) ∧ ((0 ≤ (6 + x1) ∧ (6 + x1) < 132) ∧ ((0 ≤ (6 + x1) ∧ (6 + x1) < 132) ∧ ((inI ((zup (zup mem 301 (s1).toNat s2) 302 ((6 + x1)).toNat (zor (zshl (mem 262 ((x2 + 1)).toNat) 8) (mem 262 ((x2 + 2)).toNat))) 302 ((6 + x1)).toNat)) ∧ ((999 < ((zup (zup mem 301 (s1).toNat s2) 302 ((6 + x1)).toNat (zor (zshl (mem 262 ((x2 + 1)).toNat) 8) (mem 262 ((x2 + 2)).toNat))) 302 ((6 + x1)).toNat) → Q 0 (zup (zup mem 301 (s1).toNat s2) 302 ((6 + x1)).toNat (zor (zshl (mem 262 ((x2 + 1)).toNat) 8) (mem 262 ((x2 + 2)).toNat)))) ∧ (¬ 999 < ((zup (zup mem 301 (s1).toNat s2) 302 ((6 + x1)).toNat (zor (zshl (mem 262 ((x2 + 1)).toNat) 8) (mem 262 ((x2 + 2)).toNat))) 302 ((6 + x1)).toNat) → (0 ≤ x2 ∧ x2 < 1800) ∧ ((inI (mem 262 (x2).toNat)) ∧ (((mem 262 (x2).toNat) = 255 → Q 1 (zup (zup mem 301 (s1).toNat s2) 302 ((6 + x1)).toNat (zor (zshl (mem 262 ((x2 + 1)).toNat) 8) (mem 262 ((x2 + 2)).toNat)))) ∧ (¬ (mem 262 (x2).toNat) = 255 → (0 ≤ x2 ∧ x2 < 1800) ∧ (Ci X d 270 [(2, 261), (0, (mem 262 (x2).toNat))] rf (zup (zup mem 301 (s1).toNat s2) 302 ((6 + x1)).toNat (zor (zshl (mem 262 ((x2 + 1)).toNat) 8) (mem 262 ((x2 + 2)).toNat))) (fun r4 mem5 => (inI r4) ∧ ((r4 = 0 → Q 0 mem5) ∧ (¬ r4 = 0 → Ci X d 223 [(0, (mem5 261 79)), (0, x1)] rf mem5 (fun r7 mem8 => (inI r7) ∧ ((¬ r7 = 0 → Q 0 mem8) ∧ (r7 = 0 → Q 1 mem8)))))))))))))))))) : L_m_deedOn_30 X d rf Q mem x1 x2 s1 s2 := by
  obtain ⟨g, h⟩ := h
  refine w_iast (q := 301) rfl (by decide) (pc' := 31) rfl ⟨by decide, rfl⟩ rfl g rfl ?_
  refine zW.go 1 32 [(2, 261), (0, x1), (0, x2)] [(2, 261)] _ rfl ?_
  refine w_getL (q := 261) (v := 302) rfl (by decide) (pc' := 35) rfl ⟨by decide, rfl⟩ rfl rfl (zall_at hR (by decide)) ?_
  refine zW.go 4 40 [(2, 261), (0, x1), (0, x2)] [(2, 261), (0, (6 + x1)), (2, 302)] _ rfl ?_
  refine w_getL (q := 261) (v := 262) rfl (by decide) (pc' := 43) rfl ⟨by decide, rfl⟩ rfl rfl (zall_at hR (by decide)) ?_
  refine zW.go 3 46 [(2, 261), (0, x1), (0, x2)] [(0, (x2 + 1)), (2, 262), (0, (6 + x1)), (2, 302)] _ rfl ?_
  obtain ⟨g, h⟩ := h
  refine w_iald (q := 262) rfl (by decide) (pc' := 47) rfl ⟨by decide, rfl⟩ rfl g rfl ?_
  refine zW.go 3 51 [(2, 261), (0, x1), (0, x2)] [(2, 261), (0, (zshl (mem 262 ((x2 + 1)).toNat) 8)), (0, (6 + x1)), (2, 302)] _ rfl ?_
  refine w_getL (q := 261) (v := 262) rfl (by decide) (pc' := 54) rfl ⟨by decide, rfl⟩ rfl rfl (zall_at hR (by decide)) ?_
  refine zW.go 3 57 [(2, 261), (0, x1), (0, x2)] [(0, (x2 + 2)), (2, 262), (0, (zshl (mem 262 ((x2 + 1)).toNat) 8)), (0, (6 + x1)), (2, 302)] _ rfl ?_
  obtain ⟨g, h⟩ := h
  refine w_iald (q := 262) rfl (by decide) (pc' := 58) rfl ⟨by decide, rfl⟩ rfl g rfl ?_
  refine zW.go 1 59 [(2, 261), (0, x1), (0, x2)] [(0, (zor (zshl (mem 262 ((x2 + 1)).toNat) 8) (mem 262 ((x2 + 2)).toNat))), (0, (6 + x1)), (2, 302)] _ rfl ?_
  obtain ⟨g, h⟩ := h
  refine w_iast (q := 302) rfl (by decide) (pc' := 60) rfl ⟨by decide, rfl⟩ rfl g rfl ?_
  refine zW.go 1 61 [(2, 261), (0, x1), (0, x2)] [(2, 261)] _ rfl ?_
  refine w_getL (q := 261) (v := 302) rfl (by decide) (pc' := 64) rfl ⟨by decide, rfl⟩ rfl rfl (zall_at hR (by decide)) ?_
  refine zW.go 3 68 [(2, 261), (0, x1), (0, x2)] [(0, (6 + x1)), (2, 302)] _ rfl ?_
  obtain ⟨g, h⟩ := h
  refine w_iald (q := 302) rfl (by decide) (pc' := 69) rfl ⟨by decide, rfl⟩ rfl g rfl ?_
  refine zW.go 1 72 [(2, 261), (0, x1), (0, x2)] [(0, 999), (0, ((zup (zup mem 301 (s1).toNat s2) 302 ((6 + x1)).toNat (zor (zshl (mem 262 ((x2 + 1)).toNat) 8) (mem 262 ((x2 + 2)).toNat))) 302 ((6 + x1)).toNat))] _ rfl ?_
  refine w_ic_gt rfl (by decide) (pc' := 75) rfl ⟨h.1, by decide⟩ (fun c2 => ?_) (fun c2 => ?_)
  · have h := h.2.1 c2
    refine zW.go 1 116 [(2, 261), (0, x1), (0, x2)] [(0, 0)] _ rfl ?_
    exact w_retz rfl rfl (by decide) h
  · have h := h.2.2 c2
    refine zW.go 1 76 [(2, 261), (0, x1), (0, x2)] [(2, 261)] _ rfl ?_
    refine w_getL (q := 261) (v := 262) rfl (by decide) (pc' := 79) rfl ⟨by decide, rfl⟩ rfl rfl (zall_at hR (by decide)) ?_
    refine zW.go 1 80 [(2, 261), (0, x1), (0, x2)] [(0, x2), (2, 262)] _ rfl ?_
    obtain ⟨g, h⟩ := h
    refine w_iald (q := 262) rfl (by decide) (pc' := 81) rfl ⟨by decide, rfl⟩ rfl g rfl ?_
    refine zW.go 1 84 [(2, 261), (0, x1), (0, x2)] [(0, 255), (0, (mem 262 (x2).toNat))] _ rfl ?_
    refine w_ic_eq rfl (by decide) (pc' := 87) rfl ⟨h.1, by decide⟩ (fun c3 => ?_) (fun c3 => ?_)
    · have h := h.2.1 c3
      refine zW.go 2 116 [(2, 261), (0, x1), (0, x2)] [(0, 1)] _ rfl ?_
      exact w_retz rfl rfl (by decide) h
    · have h := h.2.2 c3
      refine zW.go 2 89 [(2, 261), (0, x1), (0, x2)] [(2, 261), (2, 261)] _ rfl ?_
      refine w_getL (q := 261) (v := 262) rfl (by decide) (pc' := 92) rfl ⟨by decide, rfl⟩ rfl rfl (zall_at hR (by decide)) ?_
      refine zW.go 1 93 [(2, 261), (0, x1), (0, x2)] [(0, x2), (2, 262), (2, 261)] _ rfl ?_
      obtain ⟨g, h⟩ := h
      refine w_iald (q := 262) rfl (by decide) (pc' := 94) rfl ⟨by decide, rfl⟩ rfl g rfl ?_
      refine w_calli (as := [(2, 261), (0, (mem 262 (x2).toNat))]) [] 97 rfl rfl rfl rfl (Nat.le_of_ble_eq_true rfl) (Nat.le_of_ble_eq_true rfl) (Nat.le_of_ble_eq_true rfl) (Or.inr rfl) (Ci.imp h (fun r4 mem5 h => ?_))
      refine w_if_eq rfl (by decide) (pc' := 100) rfl h.1 (fun c6 => ?_) (fun c6 => ?_)
      · have h := h.2.1 c6
        refine zW.go 1 116 [(2, 261), (0, x1), (0, x2)] [(0, 0)] _ rfl ?_
        exact w_retz rfl rfl (by decide) h
      · have h := h.2.2 c6
        refine zW.go 1 101 [(2, 261), (0, x1), (0, x2)] [(2, 261)] _ rfl ?_
        refine w_getI (q := 261) rfl (by decide) (pc' := 104) rfl ⟨by decide, rfl⟩ rfl (by decide) ?_
        refine zW.go 1 105 [(2, 261), (0, x1), (0, x2)] [(0, x1), (0, (mem5 261 79))] _ rfl ?_
        refine w_calli (as := [(0, (mem5 261 79)), (0, x1)]) [] 108 rfl rfl rfl rfl (Nat.le_of_ble_eq_true rfl) (Nat.le_of_ble_eq_true rfl) (Nat.le_of_ble_eq_true rfl) (Or.inl rfl) (Ci.imp h (fun r7 mem8 h => ?_))
        refine w_if_ne rfl (by decide) (pc' := 111) rfl h.1 (fun c9 => ?_) (fun c9 => ?_)
        · have h := h.2.1 c9
          refine zW.go 1 116 [(2, 261), (0, x1), (0, x2)] [(0, 0)] _ rfl ?_
          exact w_retz rfl rfl (by decide) h
        · have h := h.2.2 c9
          refine zW.go 2 116 [(2, 261), (0, x1), (0, x2)] [(0, 1)] _ rfl ?_
          exact w_retz rfl rfl (by decide) h
set_option maxRecDepth 4000 in
theorem s_m_deedOn {X : zX} {d : Nat} {rf mem : zF} {Q : Int → zF → Prop} (hR : zall rf zRK = true) {x1 : Int} {x2 : Int} (h : (0 ≤ x2 ∧ x2 < 1800) ∧ ((inI (mem 262 (x2).toNat)) ∧ ((¬ (mem 262 (x2).toNat) = 255 → (0 ≤ x2 ∧ x2 < 1800) ∧ (L_m_deedOn_30 X d rf Q mem x1 x2 (6 + x1) (mem 262 (x2).toNat))) ∧ ((mem 262 (x2).toNat) = 255 → L_m_deedOn_30 X d rf Q mem x1 x2 (6 + x1) (-1))))) : Ci X (d + 1) 314 [(2, 261), (0, x1), (0, x2)] rf mem Q := by
  show zW X (d + 1) 314 0 [(2, 261), (0, x1), (0, x2)] [] (zty, rf, mem) (qi rf Q)
  refine zW.go 1 1 [(2, 261), (0, x1), (0, x2)] [(2, 261)] _ rfl ?_
  refine w_getL (q := 261) (v := 301) rfl (by decide) (pc' := 4) rfl ⟨by decide, rfl⟩ rfl rfl (zall_at hR (by decide)) ?_
  refine zW.go 4 9 [(2, 261), (0, x1), (0, x2)] [(2, 261), (0, (6 + x1)), (2, 301)] _ rfl ?_
  refine w_getL (q := 261) (v := 262) rfl (by decide) (pc' := 12) rfl ⟨by decide, rfl⟩ rfl rfl (zall_at hR (by decide)) ?_
  refine zW.go 1 13 [(2, 261), (0, x1), (0, x2)] [(0, x2), (2, 262), (0, (6 + x1)), (2, 301)] _ rfl ?_
  obtain ⟨g, h⟩ := h
  refine w_iald (q := 262) rfl (by decide) (pc' := 14) rfl ⟨by decide, rfl⟩ rfl g rfl ?_
  refine zW.go 1 17 [(2, 261), (0, x1), (0, x2)] [(0, 255), (0, (mem 262 (x2).toNat)), (0, (6 + x1)), (2, 301)] _ rfl ?_
  refine w_ic_ne rfl (by decide) (pc' := 20) rfl ⟨h.1, by decide⟩ (fun c1 => ?_) (fun c1 => ?_)
  · have h := h.2.1 c1
    refine zW.go 1 25 [(2, 261), (0, x1), (0, x2)] [(2, 261), (0, (6 + x1)), (2, 301)] _ rfl ?_
    refine w_getL (q := 261) (v := 262) rfl (by decide) (pc' := 28) rfl ⟨by decide, rfl⟩ rfl rfl (zall_at hR (by decide)) ?_
    refine zW.go 1 29 [(2, 261), (0, x1), (0, x2)] [(0, x2), (2, 262), (0, (6 + x1)), (2, 301)] _ rfl ?_
    obtain ⟨g, h⟩ := h
    refine w_iald (q := 262) rfl (by decide) (pc' := 30) rfl ⟨by decide, rfl⟩ rfl g rfl ?_
    exact h
  · have h := h.2.2 c1
    refine zW.go 2 30 [(2, 261), (0, x1), (0, x2)] [(0, (-1)), (0, (6 + x1)), (2, 301)] _ rfl ?_
    exact h
def L_m_comesOn_100 (X : zX) (d : Nat) (rf : zF) (Q : Int → zF → Prop) (mem : zF) (x1 : Int) (x2 : Int) (x3 : Int) (x4 : Int) (x5 : Int) (x6 : Int) : Prop := zW X (d + 1) 315 100 [(2, 261), (0, x1), (0, x2), (0, x3), (0, x4), (0, x5), (0, x6)] [] (zty, rf, mem) (qi rf Q)
def L_m_comesOn_174 (X : zX) (d : Nat) (rf : zF) (Q : Int → zF → Prop) (mem : zF) (x2 : Int) (x3 : Int) (x4 : Int) : Prop := ∀ z1 : zV, ∀ z5 : zV, z5.1 ≠ 1 → ∀ z6 : zV, zW X (d + 1) 315 174 [(2, 261), z1, (0, x2), (0, x3), (0, x4), z5, z6] [] (zty, rf, mem) (qi rf Q)
def L_m_comesOn_235 (X : zX) (d : Nat) (rf : zF) (Q : Int → zF → Prop) (mem : zF) (x2 : Int) (x3 : Int) (x4 : Int) (x6 : Int) : Prop := ∀ z1 : zV, ∀ z5 : zV, z5.1 ≠ 1 → zW X (d + 1) 315 235 [(2, 261), z1, (0, x2), (0, x3), (0, x4), z5, (0, x6)] [] (zty, rf, mem) (qi rf Q)
def L_m_comesOn_294 (X : zX) (d : Nat) (rf : zF) (Q : Int → zF → Prop) (mem : zF) (x2 : Int) (x3 : Int) (x4 : Int) (x6 : Int) : Prop := ∀ z1 : zV, ∀ z5 : zV, z5.1 ≠ 1 → zW X (d + 1) 315 294 [(2, 261), z1, (0, x2), (0, x3), (0, x4), z5, (0, x6)] [] (zty, rf, mem) (qi rf Q)
def L_m_comesOn_334 (X : zX) (d : Nat) (rf : zF) (Q : Int → zF → Prop) (mem : zF) (x3 : Int) (x4 : Int) (x6 : Int) : Prop := ∀ z1 : zV, ∀ z2 : zV, ∀ z5 : zV, z5.1 ≠ 1 → zW X (d + 1) 315 334 [(2, 261), z1, z2, (0, x3), (0, x4), z5, (0, x6)] [] (zty, rf, mem) (qi rf Q)
def L_m_comesOn_374 (X : zX) (d : Nat) (rf : zF) (Q : Int → zF → Prop) (mem : zF) (x4 : Int) (x6 : Int) : Prop := ∀ z1 : zV, ∀ z2 : zV, ∀ z3 : zV, ∀ z5 : zV, z5.1 ≠ 1 → zW X (d + 1) 315 374 [(2, 261), z1, z2, z3, (0, x4), z5, (0, x6)] [] (zty, rf, mem) (qi rf Q)
set_option maxRecDepth 4000 in
theorem s_m_comesOn_100 {X : zX} {d : Nat} {rf mem : zF} {Q : Int → zF → Prop} (hR : zall rf zRK = true) {x1 : Int} {x2 : Int} {x3 : Int} {x4 : Int} {x5 : Int} {x6 : Int} (h : (inI x6 ∧ inI (x1 - 1)) ∧ (((x1 - 1) ≤ x6 → (0 ≤ (x1 - 1) ∧ (x1 - 1) < 1800) ∧ ((inI (mem 262 ((x1 - 1)).toNat) ∧ inI x5) ∧ ((¬ (mem 262 ((x1 - 1)).toNat) = x5 → Q 0 mem) ∧ ((mem 262 ((x1 - 1)).toNat) = x5 → Ci X d 310 [(2, 261), (0, 2)] rf mem (fun r6 mem7 => (inI r6) ∧ ((¬ r6 = 0 → L_m_comesOn_174 X d rf Q mem7 x2 x3 x4) ∧ (r6 = 0 → Ci X d 253 [(2, 261), (0, (mem7 262 2)), (0, (mem7 262 3))] rf mem7 (fun r9 mem10 => (inI r9) ∧ ((¬ r9 = 0 → L_m_comesOn_174 X d rf Q mem10 x2 x3 x4) ∧ (r9 = 0 → Q 0 mem10)))))))))) ∧ (¬ (x1 - 1) ≤ x6 → (0 ≤ x6 ∧ x6 < 1800) ∧ ((inI ((5 * x5) + (mem 262 (x6).toNat))) ∧ (L_m_comesOn_100 X d rf Q mem x1 x2 x3 x4 (((5 * x5) + (mem 262 (x6).toNat)).tmod 251) (x6 + 1)))))) : L_m_comesOn_100 X d rf Q mem x1 x2 x3 x4 x5 x6 := by
  refine zW.go 4 105 [(2, 261), (0, x1), (0, x2), (0, x3), (0, x4), (0, x5), (0, x6)] [(0, (x1 - 1)), (0, x6)] _ rfl ?_
  refine w_ic_ge rfl (by decide) (pc' := 108) rfl h.1 (fun c4 => ?_) (fun c4 => ?_)
  · have h := h.2.1 c4
    refine zW.go 1 133 [(2, 261), (0, x1), (0, x2), (0, x3), (0, x4), (0, x5), (0, x6)] [(2, 261)] _ rfl ?_
    refine w_getL (q := 261) (v := 262) rfl (by decide) (pc' := 136) rfl ⟨by decide, rfl⟩ rfl rfl (zall_at hR (by decide)) ?_
    refine zW.go 3 139 [(2, 261), (0, x1), (0, x2), (0, x3), (0, x4), (0, x5), (0, x6)] [(0, (x1 - 1)), (2, 262)] _ rfl ?_
    obtain ⟨g, h⟩ := h
    refine w_iald (q := 262) rfl (by decide) (pc' := 140) rfl ⟨by decide, rfl⟩ rfl g rfl ?_
    refine zW.go 1 142 [(2, 261), (0, x1), (0, x2), (0, x3), (0, x4), (0, x5), (0, x6)] [(0, x5), (0, (mem 262 ((x1 - 1)).toNat))] _ rfl ?_
    refine w_ic_ne rfl (by decide) (pc' := 145) rfl h.1 (fun c5 => ?_) (fun c5 => ?_)
    · have h := h.2.1 c5
      refine zW.go 1 173 [(2, 261), (0, x1), (0, x2), (0, x3), (0, x4), (0, x5), (0, x6)] [(0, 0)] _ rfl ?_
      exact w_retz rfl rfl (by decide) h
    · have h := h.2.2 c5
      refine zW.go 2 147 [(2, 261), (0, x1), (0, x2), (0, x3), (0, x4), (0, x5), (0, x6)] [(0, 2), (2, 261)] _ rfl ?_
      refine w_calli (as := [(2, 261), (0, 2)]) [] 150 rfl rfl rfl rfl (Nat.le_of_ble_eq_true rfl) (Nat.le_of_ble_eq_true rfl) (Nat.le_of_ble_eq_true rfl) (Or.inr rfl) (Ci.imp h (fun r6 mem7 h => ?_))
      refine w_if_ne rfl (by decide) (pc' := 153) rfl h.1 (fun c8 => ?_) (fun c8 => ?_)
      · have h := h.2.1 c8
        exact h (0, x1) (0, x5) (by show (0 : Nat) ≠ 1; decide) (0, x6)
      · have h := h.2.2 c8
        refine zW.go 2 155 [(2, 261), (0, x1), (0, x2), (0, x3), (0, x4), (0, x5), (0, x6)] [(2, 261), (2, 261)] _ rfl ?_
        refine w_getL (q := 261) (v := 262) rfl (by decide) (pc' := 158) rfl ⟨by decide, rfl⟩ rfl rfl (zall_at hR (by decide)) ?_
        refine zW.go 1 159 [(2, 261), (0, x1), (0, x2), (0, x3), (0, x4), (0, x5), (0, x6)] [(0, 2), (2, 262), (2, 261)] _ rfl ?_
        refine w_iald (q := 262) rfl (by decide) (pc' := 160) rfl ⟨by decide, rfl⟩ rfl (by decide) rfl ?_
        refine zW.go 1 161 [(2, 261), (0, x1), (0, x2), (0, x3), (0, x4), (0, x5), (0, x6)] [(2, 261), (0, (mem7 262 2)), (2, 261)] _ rfl ?_
        refine w_getL (q := 261) (v := 262) rfl (by decide) (pc' := 164) rfl ⟨by decide, rfl⟩ rfl rfl (zall_at hR (by decide)) ?_
        refine zW.go 1 165 [(2, 261), (0, x1), (0, x2), (0, x3), (0, x4), (0, x5), (0, x6)] [(0, 3), (2, 262), (0, (mem7 262 2)), (2, 261)] _ rfl ?_
        refine w_iald (q := 262) rfl (by decide) (pc' := 166) rfl ⟨by decide, rfl⟩ rfl (by decide) rfl ?_
        refine w_calli (as := [(2, 261), (0, (mem7 262 2)), (0, (mem7 262 3))]) [] 169 rfl rfl rfl rfl (Nat.le_of_ble_eq_true rfl) (Nat.le_of_ble_eq_true rfl) (Nat.le_of_ble_eq_true rfl) (Or.inr rfl) (Ci.imp h (fun r9 mem10 h => ?_))
        refine w_if_ne rfl (by decide) (pc' := 172) rfl h.1 (fun c11 => ?_) (fun c11 => ?_)
        · have h := h.2.1 c11
          exact h (0, x1) (0, x5) (by show (0 : Nat) ≠ 1; decide) (0, x6)
        · have h := h.2.2 c11
          refine zW.go 1 173 [(2, 261), (0, x1), (0, x2), (0, x3), (0, x4), (0, x5), (0, x6)] [(0, 0)] _ rfl ?_
          exact w_retz rfl rfl (by decide) h
  · have h := h.2.2 c4
    refine zW.go 4 113 [(2, 261), (0, x1), (0, x2), (0, x3), (0, x4), (0, x5), (0, x6)] [(2, 261), (0, (5 * x5))] _ rfl ?_
    refine w_getL (q := 261) (v := 262) rfl (by decide) (pc' := 116) rfl ⟨by decide, rfl⟩ rfl rfl (zall_at hR (by decide)) ?_
    refine zW.go 1 118 [(2, 261), (0, x1), (0, x2), (0, x3), (0, x4), (0, x5), (0, x6)] [(0, x6), (2, 262), (0, (5 * x5))] _ rfl ?_
    obtain ⟨g, h⟩ := h
    refine w_iald (q := 262) rfl (by decide) (pc' := 119) rfl ⟨by decide, rfl⟩ rfl g rfl ?_
    refine zW.go 2 123 [(2, 261), (0, x1), (0, x2), (0, x3), (0, x4), (0, x5), (0, x6)] [(0, 251), (0, ((5 * x5) + (mem 262 (x6).toNat)))] _ rfl ?_
    obtain ⟨g, h⟩ := h
    refine w_irem rfl (by decide) (pc' := 124) rfl ⟨g, by decide, by decide⟩ ?_
    refine zW.go 3 100 [(2, 261), (0, x1), (0, x2), (0, x3), (0, x4), (0, (((5 * x5) + (mem 262 (x6).toNat)).tmod 251)), (0, (x6 + 1))] [] _ rfl ?_
    exact h
set_option maxRecDepth 4000 in
theorem s_m_comesOn_174 {X : zX} {d : Nat} {rf mem : zF} {Q : Int → zF → Prop} (hR : zall rf zRK = true) {x2 : Int} {x3 : Int} {x4 : Int} (h : Cv X d 242 [(2, 261), (0, 1), (0, 0)] rf mem (fun mem12 => Ci X d 311 [(2, 261), (0, 2)] rf (zup mem12 293 1 (zor (zshl (mem12 262 0) 8) (mem12 262 1))) (fun r13 mem14 => L_m_comesOn_235 X d rf Q (zup (zup (zup (zup mem14 294 1 r13) 295 1 0) 303 1 0) 261 79 0) x2 x3 x4 0))) : L_m_comesOn_174 X d rf Q mem x2 x3 x4 := by
  intro z1 z5 hz5 z6
  refine zW.go 3 177 [(2, 261), z1, (0, x2), (0, x3), (0, x4), z5, z6] [(0, 0), (0, 1), (2, 261)] _ rfl ?_
  refine w_callv (as := [(2, 261), (0, 1), (0, 0)]) [] 180 rfl rfl rfl rfl (Nat.le_of_ble_eq_true rfl) (Nat.le_of_ble_eq_true rfl) (Nat.le_of_ble_eq_true rfl) (Or.inr rfl) (Cv.imp h (fun mem12 h => ?_))
  refine zW.go 1 181 [(2, 261), z1, (0, x2), (0, x3), (0, x4), z5, z6] [(2, 261)] _ rfl ?_
  refine w_getL (q := 261) (v := 293) rfl (by decide) (pc' := 184) rfl ⟨by decide, rfl⟩ rfl rfl (zall_at hR (by decide)) ?_
  refine zW.go 2 186 [(2, 261), z1, (0, x2), (0, x3), (0, x4), z5, z6] [(2, 261), (0, 1), (2, 293)] _ rfl ?_
  refine w_getL (q := 261) (v := 262) rfl (by decide) (pc' := 189) rfl ⟨by decide, rfl⟩ rfl rfl (zall_at hR (by decide)) ?_
  refine zW.go 1 190 [(2, 261), z1, (0, x2), (0, x3), (0, x4), z5, z6] [(0, 0), (2, 262), (0, 1), (2, 293)] _ rfl ?_
  refine w_iald (q := 262) rfl (by decide) (pc' := 191) rfl ⟨by decide, rfl⟩ rfl (by decide) rfl ?_
  refine zW.go 3 195 [(2, 261), z1, (0, x2), (0, x3), (0, x4), z5, z6] [(2, 261), (0, (zshl (mem12 262 0) 8)), (0, 1), (2, 293)] _ rfl ?_
  refine w_getL (q := 261) (v := 262) rfl (by decide) (pc' := 198) rfl ⟨by decide, rfl⟩ rfl rfl (zall_at hR (by decide)) ?_
  refine zW.go 1 199 [(2, 261), z1, (0, x2), (0, x3), (0, x4), z5, z6] [(0, 1), (2, 262), (0, (zshl (mem12 262 0) 8)), (0, 1), (2, 293)] _ rfl ?_
  refine w_iald (q := 262) rfl (by decide) (pc' := 200) rfl ⟨by decide, rfl⟩ rfl (by decide) rfl ?_
  refine zW.go 1 201 [(2, 261), z1, (0, x2), (0, x3), (0, x4), z5, z6] [(0, (zor (zshl (mem12 262 0) 8) (mem12 262 1))), (0, 1), (2, 293)] _ rfl ?_
  refine w_iast (q := 293) rfl (by decide) (pc' := 202) rfl ⟨by decide, rfl⟩ rfl (by decide) rfl ?_
  refine zW.go 1 203 [(2, 261), z1, (0, x2), (0, x3), (0, x4), z5, z6] [(2, 261)] _ rfl ?_
  refine w_getL (q := 261) (v := 294) rfl (by decide) (pc' := 206) rfl ⟨by decide, rfl⟩ rfl rfl (zall_at hR (by decide)) ?_
  refine zW.go 3 209 [(2, 261), z1, (0, x2), (0, x3), (0, x4), z5, z6] [(0, 2), (2, 261), (0, 1), (2, 294)] _ rfl ?_
  refine w_calli (as := [(2, 261), (0, 2)]) [(0, 1), (2, 294)] 212 rfl rfl rfl rfl (Nat.le_of_ble_eq_true rfl) (Nat.le_of_ble_eq_true rfl) (Nat.le_of_ble_eq_true rfl) (Or.inr rfl) (Ci.imp h (fun r13 mem14 h => ?_))
  refine w_iast (q := 294) rfl (by decide) (pc' := 213) rfl ⟨by decide, rfl⟩ rfl (by decide) rfl ?_
  refine zW.go 1 214 [(2, 261), z1, (0, x2), (0, x3), (0, x4), z5, z6] [(2, 261)] _ rfl ?_
  refine w_getL (q := 261) (v := 295) rfl (by decide) (pc' := 217) rfl ⟨by decide, rfl⟩ rfl rfl (zall_at hR (by decide)) ?_
  refine zW.go 2 219 [(2, 261), z1, (0, x2), (0, x3), (0, x4), z5, z6] [(0, 0), (0, 1), (2, 295)] _ rfl ?_
  refine w_iast (q := 295) rfl (by decide) (pc' := 220) rfl ⟨by decide, rfl⟩ rfl (by decide) rfl ?_
  refine zW.go 1 221 [(2, 261), z1, (0, x2), (0, x3), (0, x4), z5, z6] [(2, 261)] _ rfl ?_
  refine w_getL (q := 261) (v := 303) rfl (by decide) (pc' := 224) rfl ⟨by decide, rfl⟩ rfl rfl (zall_at hR (by decide)) ?_
  refine zW.go 2 226 [(2, 261), z1, (0, x2), (0, x3), (0, x4), z5, z6] [(0, 0), (0, 1), (2, 303)] _ rfl ?_
  refine w_iast (q := 303) rfl (by decide) (pc' := 227) rfl ⟨by decide, rfl⟩ rfl (by decide) rfl ?_
  refine zW.go 2 229 [(2, 261), z1, (0, x2), (0, x3), (0, x4), z5, z6] [(0, 0), (2, 261)] _ rfl ?_
  refine w_putI (q := 261) rfl (by decide) (pc' := 232) rfl ⟨by decide, rfl⟩ rfl (by decide) ?_
  refine zW.go 1 233 [(2, 261), z1, (0, x2), (0, x3), (0, x4), z5, z6] [(0, 0)] _ rfl ?_
  refine zW.step 235 [(2, 261), z1, (0, x2), (0, x3), (0, x4), z5, (0, 0)] [] _ rfl (by decide) (by decide) (by show some (_, zst1 [(2, 261), z1, (0, x2), (0, x3), (0, x4), z5, z6] 6 _, _, _) = _; rw [zst1_z (ls := [(2, 261), z1, (0, x2), (0, x3), (0, x4), z5, z6]) (i := 6) hz5]; rfl) ?_
  exact h z1 z5 hz5
set_option maxRecDepth 4000 in
theorem s_m_comesOn_235 {X : zX} {d : Nat} {rf mem : zF} {Q : Int → zF → Prop} (hR : zall rf zRK = true) {x2 : Int} {x3 : Int} {x4 : Int} {x6 : Int} (h : (0 ≤ (mem 261 13) ∧ (mem 261 13) < 2) ∧ ((inI x6 ∧ inI (mem 266 ((mem 261 13)).toNat)) ∧ (((mem 266 ((mem 261 13)).toNat) ≤ x6 → L_m_comesOn_294 X d rf Q mem x2 x3 x4 0) ∧ (¬ (mem 266 ((mem 261 13)).toNat) ≤ x6 → (0 ≤ (4 + x6) ∧ (4 + x6) < 1800) ∧ ((inI (mem 262 ((4 + x6)).toNat)) ∧ (((mem 262 ((4 + x6)).toNat) ≤ 1 → (0 ≤ (4 + x6) ∧ (4 + x6) < 1800) ∧ (L_m_comesOn_235 X d rf Q (zup mem 295 1 (zor (mem 295 1) (zshl (mem 262 ((4 + x6)).toNat) x6))) x2 x3 x4 (x6 + 1))) ∧ (¬ (mem 262 ((4 + x6)).toNat) ≤ 1 → Q 0 mem))))))) : L_m_comesOn_235 X d rf Q mem x2 x3 x4 x6 := by
  intro z1 z5 hz5
  refine zW.go 2 238 [(2, 261), z1, (0, x2), (0, x3), (0, x4), z5, (0, x6)] [(2, 261), (0, x6)] _ rfl ?_
  refine w_getL (q := 261) (v := 266) rfl (by decide) (pc' := 241) rfl ⟨by decide, rfl⟩ rfl rfl (zall_at hR (by decide)) ?_
  refine zW.go 1 242 [(2, 261), z1, (0, x2), (0, x3), (0, x4), z5, (0, x6)] [(2, 261), (2, 266), (0, x6)] _ rfl ?_
  refine w_getI (q := 261) rfl (by decide) (pc' := 245) rfl ⟨by decide, rfl⟩ rfl (by decide) ?_
  obtain ⟨g, h⟩ := h
  refine w_iald (q := 266) rfl (by decide) (pc' := 246) rfl ⟨by decide, rfl⟩ rfl g rfl ?_
  refine w_ic_ge rfl (by decide) (pc' := 249) rfl h.1 (fun c15 => ?_) (fun c15 => ?_)
  · have h := h.2.1 c15
    refine zW.go 1 292 [(2, 261), z1, (0, x2), (0, x3), (0, x4), z5, (0, x6)] [(0, 0)] _ rfl ?_
    refine zW.step 294 [(2, 261), z1, (0, x2), (0, x3), (0, x4), z5, (0, 0)] [] _ rfl (by decide) (by decide) (by show some (_, zst1 [(2, 261), z1, (0, x2), (0, x3), (0, x4), z5, (0, x6)] 6 _, _, _) = _; rw [zst1_z (ls := [(2, 261), z1, (0, x2), (0, x3), (0, x4), z5, (0, x6)]) (i := 6) hz5]; rfl) ?_
    exact h z1 z5 hz5
  · have h := h.2.2 c15
    refine zW.go 1 250 [(2, 261), z1, (0, x2), (0, x3), (0, x4), z5, (0, x6)] [(2, 261)] _ rfl ?_
    refine w_getL (q := 261) (v := 262) rfl (by decide) (pc' := 253) rfl ⟨by decide, rfl⟩ rfl rfl (zall_at hR (by decide)) ?_
    refine zW.go 3 257 [(2, 261), z1, (0, x2), (0, x3), (0, x4), z5, (0, x6)] [(0, (4 + x6)), (2, 262)] _ rfl ?_
    obtain ⟨g, h⟩ := h
    refine w_iald (q := 262) rfl (by decide) (pc' := 258) rfl ⟨by decide, rfl⟩ rfl g rfl ?_
    refine zW.go 1 259 [(2, 261), z1, (0, x2), (0, x3), (0, x4), z5, (0, x6)] [(0, 1), (0, (mem 262 ((4 + x6)).toNat))] _ rfl ?_
    refine w_ic_le rfl (by decide) (pc' := 262) rfl ⟨h.1, by decide⟩ (fun c16 => ?_) (fun c16 => ?_)
    · have h := h.2.1 c16
      refine zW.go 1 265 [(2, 261), z1, (0, x2), (0, x3), (0, x4), z5, (0, x6)] [(2, 261)] _ rfl ?_
      refine w_getL (q := 261) (v := 295) rfl (by decide) (pc' := 268) rfl ⟨by decide, rfl⟩ rfl rfl (zall_at hR (by decide)) ?_
      refine zW.go 2 270 [(2, 261), z1, (0, x2), (0, x3), (0, x4), z5, (0, x6)] [(0, 1), (2, 295), (0, 1), (2, 295)] _ rfl ?_
      refine w_iald (q := 295) rfl (by decide) (pc' := 271) rfl ⟨by decide, rfl⟩ rfl (by decide) rfl ?_
      refine zW.go 1 272 [(2, 261), z1, (0, x2), (0, x3), (0, x4), z5, (0, x6)] [(2, 261), (0, (mem 295 1)), (0, 1), (2, 295)] _ rfl ?_
      refine w_getL (q := 261) (v := 262) rfl (by decide) (pc' := 275) rfl ⟨by decide, rfl⟩ rfl rfl (zall_at hR (by decide)) ?_
      refine zW.go 3 279 [(2, 261), z1, (0, x2), (0, x3), (0, x4), z5, (0, x6)] [(0, (4 + x6)), (2, 262), (0, (mem 295 1)), (0, 1), (2, 295)] _ rfl ?_
      obtain ⟨g, h⟩ := h
      refine w_iald (q := 262) rfl (by decide) (pc' := 280) rfl ⟨by decide, rfl⟩ rfl g rfl ?_
      refine zW.go 3 284 [(2, 261), z1, (0, x2), (0, x3), (0, x4), z5, (0, x6)] [(0, (zor (mem 295 1) (zshl (mem 262 ((4 + x6)).toNat) x6))), (0, 1), (2, 295)] _ rfl ?_
      refine w_iast (q := 295) rfl (by decide) (pc' := 285) rfl ⟨by decide, rfl⟩ rfl (by decide) rfl ?_
      refine zW.step 288 [(2, 261), z1, (0, x2), (0, x3), (0, x4), z5, (0, (x6 + 1))] [] _ rfl (by decide) (by decide) (by show some (_, zst1 [(2, 261), z1, (0, x2), (0, x3), (0, x4), z5, (0, x6)] 6 _, _, _) = _; rw [zst1_z (ls := [(2, 261), z1, (0, x2), (0, x3), (0, x4), z5, (0, x6)]) (i := 6) hz5]; rfl) ?_
      refine zW.go 1 235 [(2, 261), z1, (0, x2), (0, x3), (0, x4), z5, (0, (x6 + 1))] [] _ rfl ?_
      exact h z1 z5 hz5
    · have h := h.2.2 c16
      refine zW.go 1 263 [(2, 261), z1, (0, x2), (0, x3), (0, x4), z5, (0, x6)] [(0, 0)] _ rfl ?_
      exact w_retz rfl rfl (by decide) h
set_option maxRecDepth 4000 in
theorem s_m_comesOn_294 {X : zX} {d : Nat} {rf mem : zF} {Q : Int → zF → Prop} (hR : zall rf zRK = true) {x2 : Int} {x3 : Int} {x4 : Int} {x6 : Int} (h : (0 ≤ (mem 261 13) ∧ (mem 261 13) < 2) ∧ ((inI x6 ∧ inI (mem 271 ((mem 261 13)).toNat)) ∧ (((mem 271 ((mem 261 13)).toNat) ≤ x6 → L_m_comesOn_334 X d rf Q mem x3 x4 0) ∧ (¬ (mem 271 ((mem 261 13)).toNat) ≤ x6 → Ci X d 312 [(2, 261), (0, x6), (0, (x2 + (2 * x6)))] rf mem (fun r18 mem19 => (inI r18) ∧ ((¬ r18 = 0 → L_m_comesOn_294 X d rf Q mem19 x2 x3 x4 (x6 + 1)) ∧ (r18 = 0 → Q 0 mem19))))))) : L_m_comesOn_294 X d rf Q mem x2 x3 x4 x6 := by
  intro z1 z5 hz5
  refine zW.go 2 297 [(2, 261), z1, (0, x2), (0, x3), (0, x4), z5, (0, x6)] [(2, 261), (0, x6)] _ rfl ?_
  refine w_getL (q := 261) (v := 271) rfl (by decide) (pc' := 300) rfl ⟨by decide, rfl⟩ rfl rfl (zall_at hR (by decide)) ?_
  refine zW.go 1 301 [(2, 261), z1, (0, x2), (0, x3), (0, x4), z5, (0, x6)] [(2, 261), (2, 271), (0, x6)] _ rfl ?_
  refine w_getI (q := 261) rfl (by decide) (pc' := 304) rfl ⟨by decide, rfl⟩ rfl (by decide) ?_
  obtain ⟨g, h⟩ := h
  refine w_iald (q := 271) rfl (by decide) (pc' := 305) rfl ⟨by decide, rfl⟩ rfl g rfl ?_
  refine w_ic_ge rfl (by decide) (pc' := 308) rfl h.1 (fun c17 => ?_) (fun c17 => ?_)
  · have h := h.2.1 c17
    refine zW.go 1 332 [(2, 261), z1, (0, x2), (0, x3), (0, x4), z5, (0, x6)] [(0, 0)] _ rfl ?_
    refine zW.step 334 [(2, 261), z1, (0, x2), (0, x3), (0, x4), z5, (0, 0)] [] _ rfl (by decide) (by decide) (by show some (_, zst1 [(2, 261), z1, (0, x2), (0, x3), (0, x4), z5, (0, x6)] 6 _, _, _) = _; rw [zst1_z (ls := [(2, 261), z1, (0, x2), (0, x3), (0, x4), z5, (0, x6)]) (i := 6) hz5]; rfl) ?_
    exact h z1 (0, x2) z5 hz5
  · have h := h.2.2 c17
    refine zW.go 7 317 [(2, 261), z1, (0, x2), (0, x3), (0, x4), z5, (0, x6)] [(0, (x2 + (2 * x6))), (0, x6), (2, 261)] _ rfl ?_
    refine w_calli (as := [(2, 261), (0, x6), (0, (x2 + (2 * x6)))]) [] 320 rfl rfl rfl rfl (Nat.le_of_ble_eq_true rfl) (Nat.le_of_ble_eq_true rfl) (Nat.le_of_ble_eq_true rfl) (Or.inr rfl) (Ci.imp h (fun r18 mem19 h => ?_))
    refine w_if_ne rfl (by decide) (pc' := 323) rfl h.1 (fun c20 => ?_) (fun c20 => ?_)
    · have h := h.2.1 c20
      refine zW.step 328 [(2, 261), z1, (0, x2), (0, x3), (0, x4), z5, (0, (x6 + 1))] [] _ rfl (by decide) (by decide) (by show some (_, zst1 [(2, 261), z1, (0, x2), (0, x3), (0, x4), z5, (0, x6)] 6 _, _, _) = _; rw [zst1_z (ls := [(2, 261), z1, (0, x2), (0, x3), (0, x4), z5, (0, x6)]) (i := 6) hz5]; rfl) ?_
      refine zW.go 1 294 [(2, 261), z1, (0, x2), (0, x3), (0, x4), z5, (0, (x6 + 1))] [] _ rfl ?_
      exact h z1 z5 hz5
    · have h := h.2.2 c20
      refine zW.go 1 324 [(2, 261), z1, (0, x2), (0, x3), (0, x4), z5, (0, x6)] [(0, 0)] _ rfl ?_
      exact w_retz rfl rfl (by decide) h
set_option maxRecDepth 4000 in
theorem s_m_comesOn_334 {X : zX} {d : Nat} {rf mem : zF} {Q : Int → zF → Prop} (hR : zall rf zRK = true) {x3 : Int} {x4 : Int} {x6 : Int} (h : (0 ≤ (mem 261 13) ∧ (mem 261 13) < 2) ∧ ((inI x6 ∧ inI (mem 274 ((mem 261 13)).toNat)) ∧ (((mem 274 ((mem 261 13)).toNat) ≤ x6 → L_m_comesOn_374 X d rf Q mem x4 0) ∧ (¬ (mem 274 ((mem 261 13)).toNat) ≤ x6 → Ci X d 313 [(2, 261), (0, x6), (0, (x3 + (5 * x6)))] rf mem (fun r22 mem23 => (inI r22) ∧ ((¬ r22 = 0 → L_m_comesOn_334 X d rf Q mem23 x3 x4 (x6 + 1)) ∧ (r22 = 0 → Q 0 mem23))))))) : L_m_comesOn_334 X d rf Q mem x3 x4 x6 := by
  intro z1 z2 z5 hz5
  refine zW.go 2 337 [(2, 261), z1, z2, (0, x3), (0, x4), z5, (0, x6)] [(2, 261), (0, x6)] _ rfl ?_
  refine w_getL (q := 261) (v := 274) rfl (by decide) (pc' := 340) rfl ⟨by decide, rfl⟩ rfl rfl (zall_at hR (by decide)) ?_
  refine zW.go 1 341 [(2, 261), z1, z2, (0, x3), (0, x4), z5, (0, x6)] [(2, 261), (2, 274), (0, x6)] _ rfl ?_
  refine w_getI (q := 261) rfl (by decide) (pc' := 344) rfl ⟨by decide, rfl⟩ rfl (by decide) ?_
  obtain ⟨g, h⟩ := h
  refine w_iald (q := 274) rfl (by decide) (pc' := 345) rfl ⟨by decide, rfl⟩ rfl g rfl ?_
  refine w_ic_ge rfl (by decide) (pc' := 348) rfl h.1 (fun c21 => ?_) (fun c21 => ?_)
  · have h := h.2.1 c21
    refine zW.go 1 372 [(2, 261), z1, z2, (0, x3), (0, x4), z5, (0, x6)] [(0, 0)] _ rfl ?_
    refine zW.step 374 [(2, 261), z1, z2, (0, x3), (0, x4), z5, (0, 0)] [] _ rfl (by decide) (by decide) (by show some (_, zst1 [(2, 261), z1, z2, (0, x3), (0, x4), z5, (0, x6)] 6 _, _, _) = _; rw [zst1_z (ls := [(2, 261), z1, z2, (0, x3), (0, x4), z5, (0, x6)]) (i := 6) hz5]; rfl) ?_
    exact h z1 z2 (0, x3) z5 hz5
  · have h := h.2.2 c21
    refine zW.go 7 357 [(2, 261), z1, z2, (0, x3), (0, x4), z5, (0, x6)] [(0, (x3 + (5 * x6))), (0, x6), (2, 261)] _ rfl ?_
    refine w_calli (as := [(2, 261), (0, x6), (0, (x3 + (5 * x6)))]) [] 360 rfl rfl rfl rfl (Nat.le_of_ble_eq_true rfl) (Nat.le_of_ble_eq_true rfl) (Nat.le_of_ble_eq_true rfl) (Or.inr rfl) (Ci.imp h (fun r22 mem23 h => ?_))
    refine w_if_ne rfl (by decide) (pc' := 363) rfl h.1 (fun c24 => ?_) (fun c24 => ?_)
    · have h := h.2.1 c24
      refine zW.step 368 [(2, 261), z1, z2, (0, x3), (0, x4), z5, (0, (x6 + 1))] [] _ rfl (by decide) (by decide) (by show some (_, zst1 [(2, 261), z1, z2, (0, x3), (0, x4), z5, (0, x6)] 6 _, _, _) = _; rw [zst1_z (ls := [(2, 261), z1, z2, (0, x3), (0, x4), z5, (0, x6)]) (i := 6) hz5]; rfl) ?_
      refine zW.go 1 334 [(2, 261), z1, z2, (0, x3), (0, x4), z5, (0, (x6 + 1))] [] _ rfl ?_
      exact h z1 z2 z5 hz5
    · have h := h.2.2 c24
      refine zW.go 1 364 [(2, 261), z1, z2, (0, x3), (0, x4), z5, (0, x6)] [(0, 0)] _ rfl ?_
      exact w_retz rfl rfl (by decide) h
set_option maxRecDepth 4000 in
theorem s_m_comesOn_374 {X : zX} {d : Nat} {rf mem : zF} {Q : Int → zF → Prop} (hR : zall rf zRK = true) {x4 : Int} {x6 : Int} (h : (0 ≤ (mem 261 13) ∧ (mem 261 13) < 2) ∧ ((inI x6 ∧ inI (mem 274 ((mem 261 13)).toNat)) ∧ (((mem 274 ((mem 261 13)).toNat) ≤ x6 → Q 1 mem) ∧ (¬ (mem 274 ((mem 261 13)).toNat) ≤ x6 → Ci X d 314 [(2, 261), (0, x6), (0, (x4 + (3 * x6)))] rf mem (fun r26 mem27 => (inI r26) ∧ ((¬ r26 = 0 → L_m_comesOn_374 X d rf Q mem27 x4 (x6 + 1)) ∧ (r26 = 0 → Q 0 mem27))))))) : L_m_comesOn_374 X d rf Q mem x4 x6 := by
  intro z1 z2 z3 z5 hz5
  refine zW.go 2 377 [(2, 261), z1, z2, z3, (0, x4), z5, (0, x6)] [(2, 261), (0, x6)] _ rfl ?_
  refine w_getL (q := 261) (v := 274) rfl (by decide) (pc' := 380) rfl ⟨by decide, rfl⟩ rfl rfl (zall_at hR (by decide)) ?_
  refine zW.go 1 381 [(2, 261), z1, z2, z3, (0, x4), z5, (0, x6)] [(2, 261), (2, 274), (0, x6)] _ rfl ?_
  refine w_getI (q := 261) rfl (by decide) (pc' := 384) rfl ⟨by decide, rfl⟩ rfl (by decide) ?_
  obtain ⟨g, h⟩ := h
  refine w_iald (q := 274) rfl (by decide) (pc' := 385) rfl ⟨by decide, rfl⟩ rfl g rfl ?_
  refine w_ic_ge rfl (by decide) (pc' := 388) rfl h.1 (fun c25 => ?_) (fun c25 => ?_)
  · have h := h.2.1 c25
    refine zW.go 1 413 [(2, 261), z1, z2, z3, (0, x4), z5, (0, x6)] [(0, 1)] _ rfl ?_
    exact w_retz rfl rfl (by decide) h
  · have h := h.2.2 c25
    refine zW.go 7 398 [(2, 261), z1, z2, z3, (0, x4), z5, (0, x6)] [(0, (x4 + (3 * x6))), (0, x6), (2, 261)] _ rfl ?_
    refine w_calli (as := [(2, 261), (0, x6), (0, (x4 + (3 * x6)))]) [] 401 rfl rfl rfl rfl (Nat.le_of_ble_eq_true rfl) (Nat.le_of_ble_eq_true rfl) (Nat.le_of_ble_eq_true rfl) (Or.inr rfl) (Ci.imp h (fun r26 mem27 h => ?_))
    refine w_if_ne rfl (by decide) (pc' := 404) rfl h.1 (fun c28 => ?_) (fun c28 => ?_)
    · have h := h.2.1 c28
      refine zW.step 409 [(2, 261), z1, z2, z3, (0, x4), z5, (0, (x6 + 1))] [] _ rfl (by decide) (by decide) (by show some (_, zst1 [(2, 261), z1, z2, z3, (0, x4), z5, (0, x6)] 6 _, _, _) = _; rw [zst1_z (ls := [(2, 261), z1, z2, z3, (0, x4), z5, (0, x6)]) (i := 6) hz5]; rfl) ?_
      refine zW.go 1 374 [(2, 261), z1, z2, z3, (0, x4), z5, (0, (x6 + 1))] [] _ rfl ?_
      exact h z1 z2 z3 z5 hz5
    · have h := h.2.2 c28
      refine zW.go 1 405 [(2, 261), z1, z2, z3, (0, x4), z5, (0, x6)] [(0, 0)] _ rfl ?_
      exact w_retz rfl rfl (by decide) h
set_option maxRecDepth 4000 in
theorem s_m_comesOn {X : zX} {d : Nat} {rf mem : zF} {Q : Int → zF → Prop} (hR : zall rf zRK = true) {x1 : Int} (h : (0 ≤ (mem 261 13) ∧ (mem 261 13) < 2) ∧ ((0 ≤ (mem 261 13) ∧ (mem 261 13) < 2) ∧ ((0 ≤ (mem 261 13) ∧ (mem 261 13) < 2) ∧ ((inI (mem 261 50)) ∧ (((mem 261 50) = 0 → Q 0 mem) ∧ (¬ (mem 261 50) = 0 → (0 ≤ (mem 261 13) ∧ (mem 261 13) < 2) ∧ ((inI x1 ∧ inI (((((4 + (mem 266 ((mem 261 13)).toNat)) + (2 * (mem 271 ((mem 261 13)).toNat))) + (5 * (mem 274 ((mem 261 13)).toNat))) + (3 * (mem 274 ((mem 261 13)).toNat))) + 1)) ∧ ((¬ x1 = (((((4 + (mem 266 ((mem 261 13)).toNat)) + (2 * (mem 271 ((mem 261 13)).toNat))) + (5 * (mem 274 ((mem 261 13)).toNat))) + (3 * (mem 274 ((mem 261 13)).toNat))) + 1) → Q 0 mem) ∧ (x1 = (((((4 + (mem 266 ((mem 261 13)).toNat)) + (2 * (mem 271 ((mem 261 13)).toNat))) + (5 * (mem 274 ((mem 261 13)).toNat))) + (3 * (mem 274 ((mem 261 13)).toNat))) + 1) → (inI (zor (zshl (mem 262 0) 8) (mem 262 1))) ∧ (((zor (zshl (mem 262 0) 8) (mem 262 1)) ≤ 999 → L_m_comesOn_100 X d rf Q mem x1 (4 + (mem 266 ((mem 261 13)).toNat)) ((4 + (mem 266 ((mem 261 13)).toNat)) + (2 * (mem 271 ((mem 261 13)).toNat))) (((4 + (mem 266 ((mem 261 13)).toNat)) + (2 * (mem 271 ((mem 261 13)).toNat))) + (5 * (mem 274 ((mem 261 13)).toNat))) 197 0) ∧ (¬ (zor (zshl (mem 262 0) 8) (mem 262 1)) ≤ 999 → Q 0 mem))))))))))) : Ci X (d + 1) 315 [(2, 261), (0, x1)] rf mem Q := by
  show zW X (d + 1) 315 0 [(2, 261), (0, x1), (9, 0), (9, 0), (9, 0), (9, 0), (9, 0)] [] (zty, rf, mem) (qi rf Q)
  refine zW.go 2 2 [(2, 261), (0, x1), (9, 0), (9, 0), (9, 0), (9, 0), (9, 0)] [(2, 261), (0, 4)] _ rfl ?_
  refine w_getL (q := 261) (v := 266) rfl (by decide) (pc' := 5) rfl ⟨by decide, rfl⟩ rfl rfl (zall_at hR (by decide)) ?_
  refine zW.go 1 6 [(2, 261), (0, x1), (9, 0), (9, 0), (9, 0), (9, 0), (9, 0)] [(2, 261), (2, 266), (0, 4)] _ rfl ?_
  refine w_getI (q := 261) rfl (by decide) (pc' := 9) rfl ⟨by decide, rfl⟩ rfl (by decide) ?_
  obtain ⟨g, h⟩ := h
  refine w_iald (q := 266) rfl (by decide) (pc' := 10) rfl ⟨by decide, rfl⟩ rfl g rfl ?_
  refine zW.go 5 15 [(2, 261), (0, x1), (0, (4 + (mem 266 ((mem 261 13)).toNat))), (9, 0), (9, 0), (9, 0), (9, 0)] [(2, 261), (0, 2), (0, (4 + (mem 266 ((mem 261 13)).toNat)))] _ rfl ?_
  refine w_getL (q := 261) (v := 271) rfl (by decide) (pc' := 18) rfl ⟨by decide, rfl⟩ rfl rfl (zall_at hR (by decide)) ?_
  refine zW.go 1 19 [(2, 261), (0, x1), (0, (4 + (mem 266 ((mem 261 13)).toNat))), (9, 0), (9, 0), (9, 0), (9, 0)] [(2, 261), (2, 271), (0, 2), (0, (4 + (mem 266 ((mem 261 13)).toNat)))] _ rfl ?_
  refine w_getI (q := 261) rfl (by decide) (pc' := 22) rfl ⟨by decide, rfl⟩ rfl (by decide) ?_
  obtain ⟨g, h⟩ := h
  refine w_iald (q := 271) rfl (by decide) (pc' := 23) rfl ⟨by decide, rfl⟩ rfl g rfl ?_
  refine zW.go 6 29 [(2, 261), (0, x1), (0, (4 + (mem 266 ((mem 261 13)).toNat))), (0, ((4 + (mem 266 ((mem 261 13)).toNat)) + (2 * (mem 271 ((mem 261 13)).toNat)))), (9, 0), (9, 0), (9, 0)] [(2, 261), (0, 5), (0, ((4 + (mem 266 ((mem 261 13)).toNat)) + (2 * (mem 271 ((mem 261 13)).toNat))))] _ rfl ?_
  refine w_getL (q := 261) (v := 274) rfl (by decide) (pc' := 32) rfl ⟨by decide, rfl⟩ rfl rfl (zall_at hR (by decide)) ?_
  refine zW.go 1 33 [(2, 261), (0, x1), (0, (4 + (mem 266 ((mem 261 13)).toNat))), (0, ((4 + (mem 266 ((mem 261 13)).toNat)) + (2 * (mem 271 ((mem 261 13)).toNat)))), (9, 0), (9, 0), (9, 0)] [(2, 261), (2, 274), (0, 5), (0, ((4 + (mem 266 ((mem 261 13)).toNat)) + (2 * (mem 271 ((mem 261 13)).toNat))))] _ rfl ?_
  refine w_getI (q := 261) rfl (by decide) (pc' := 36) rfl ⟨by decide, rfl⟩ rfl (by decide) ?_
  obtain ⟨g, h⟩ := h
  refine w_iald (q := 274) rfl (by decide) (pc' := 37) rfl ⟨by decide, rfl⟩ rfl g rfl ?_
  refine zW.go 4 42 [(2, 261), (0, x1), (0, (4 + (mem 266 ((mem 261 13)).toNat))), (0, ((4 + (mem 266 ((mem 261 13)).toNat)) + (2 * (mem 271 ((mem 261 13)).toNat)))), (0, (((4 + (mem 266 ((mem 261 13)).toNat)) + (2 * (mem 271 ((mem 261 13)).toNat))) + (5 * (mem 274 ((mem 261 13)).toNat)))), (9, 0), (9, 0)] [(2, 261)] _ rfl ?_
  refine w_getI (q := 261) rfl (by decide) (pc' := 45) rfl ⟨by decide, rfl⟩ rfl (by decide) ?_
  refine w_if_eq rfl (by decide) (pc' := 48) rfl h.1 (fun c1 => ?_) (fun c1 => ?_)
  · have h := h.2.1 c1
    refine zW.go 1 91 [(2, 261), (0, x1), (0, (4 + (mem 266 ((mem 261 13)).toNat))), (0, ((4 + (mem 266 ((mem 261 13)).toNat)) + (2 * (mem 271 ((mem 261 13)).toNat)))), (0, (((4 + (mem 266 ((mem 261 13)).toNat)) + (2 * (mem 271 ((mem 261 13)).toNat))) + (5 * (mem 274 ((mem 261 13)).toNat)))), (9, 0), (9, 0)] [(0, 0)] _ rfl ?_
    exact w_retz rfl rfl (by decide) h
  · have h := h.2.2 c1
    refine zW.go 4 53 [(2, 261), (0, x1), (0, (4 + (mem 266 ((mem 261 13)).toNat))), (0, ((4 + (mem 266 ((mem 261 13)).toNat)) + (2 * (mem 271 ((mem 261 13)).toNat)))), (0, (((4 + (mem 266 ((mem 261 13)).toNat)) + (2 * (mem 271 ((mem 261 13)).toNat))) + (5 * (mem 274 ((mem 261 13)).toNat)))), (9, 0), (9, 0)] [(2, 261), (0, 3), (0, (((4 + (mem 266 ((mem 261 13)).toNat)) + (2 * (mem 271 ((mem 261 13)).toNat))) + (5 * (mem 274 ((mem 261 13)).toNat)))), (0, x1)] _ rfl ?_
    refine w_getL (q := 261) (v := 274) rfl (by decide) (pc' := 56) rfl ⟨by decide, rfl⟩ rfl rfl (zall_at hR (by decide)) ?_
    refine zW.go 1 57 [(2, 261), (0, x1), (0, (4 + (mem 266 ((mem 261 13)).toNat))), (0, ((4 + (mem 266 ((mem 261 13)).toNat)) + (2 * (mem 271 ((mem 261 13)).toNat)))), (0, (((4 + (mem 266 ((mem 261 13)).toNat)) + (2 * (mem 271 ((mem 261 13)).toNat))) + (5 * (mem 274 ((mem 261 13)).toNat)))), (9, 0), (9, 0)] [(2, 261), (2, 274), (0, 3), (0, (((4 + (mem 266 ((mem 261 13)).toNat)) + (2 * (mem 271 ((mem 261 13)).toNat))) + (5 * (mem 274 ((mem 261 13)).toNat)))), (0, x1)] _ rfl ?_
    refine w_getI (q := 261) rfl (by decide) (pc' := 60) rfl ⟨by decide, rfl⟩ rfl (by decide) ?_
    obtain ⟨g, h⟩ := h
    refine w_iald (q := 274) rfl (by decide) (pc' := 61) rfl ⟨by decide, rfl⟩ rfl g rfl ?_
    refine zW.go 4 65 [(2, 261), (0, x1), (0, (4 + (mem 266 ((mem 261 13)).toNat))), (0, ((4 + (mem 266 ((mem 261 13)).toNat)) + (2 * (mem 271 ((mem 261 13)).toNat)))), (0, (((4 + (mem 266 ((mem 261 13)).toNat)) + (2 * (mem 271 ((mem 261 13)).toNat))) + (5 * (mem 274 ((mem 261 13)).toNat)))), (9, 0), (9, 0)] [(0, (((((4 + (mem 266 ((mem 261 13)).toNat)) + (2 * (mem 271 ((mem 261 13)).toNat))) + (5 * (mem 274 ((mem 261 13)).toNat))) + (3 * (mem 274 ((mem 261 13)).toNat))) + 1)), (0, x1)] _ rfl ?_
    refine w_ic_ne rfl (by decide) (pc' := 68) rfl h.1 (fun c2 => ?_) (fun c2 => ?_)
    · have h := h.2.1 c2
      refine zW.go 1 91 [(2, 261), (0, x1), (0, (4 + (mem 266 ((mem 261 13)).toNat))), (0, ((4 + (mem 266 ((mem 261 13)).toNat)) + (2 * (mem 271 ((mem 261 13)).toNat)))), (0, (((4 + (mem 266 ((mem 261 13)).toNat)) + (2 * (mem 271 ((mem 261 13)).toNat))) + (5 * (mem 274 ((mem 261 13)).toNat)))), (9, 0), (9, 0)] [(0, 0)] _ rfl ?_
      exact w_retz rfl rfl (by decide) h
    · have h := h.2.2 c2
      refine zW.go 1 69 [(2, 261), (0, x1), (0, (4 + (mem 266 ((mem 261 13)).toNat))), (0, ((4 + (mem 266 ((mem 261 13)).toNat)) + (2 * (mem 271 ((mem 261 13)).toNat)))), (0, (((4 + (mem 266 ((mem 261 13)).toNat)) + (2 * (mem 271 ((mem 261 13)).toNat))) + (5 * (mem 274 ((mem 261 13)).toNat)))), (9, 0), (9, 0)] [(2, 261)] _ rfl ?_
      refine w_getL (q := 261) (v := 262) rfl (by decide) (pc' := 72) rfl ⟨by decide, rfl⟩ rfl rfl (zall_at hR (by decide)) ?_
      refine zW.go 1 73 [(2, 261), (0, x1), (0, (4 + (mem 266 ((mem 261 13)).toNat))), (0, ((4 + (mem 266 ((mem 261 13)).toNat)) + (2 * (mem 271 ((mem 261 13)).toNat)))), (0, (((4 + (mem 266 ((mem 261 13)).toNat)) + (2 * (mem 271 ((mem 261 13)).toNat))) + (5 * (mem 274 ((mem 261 13)).toNat)))), (9, 0), (9, 0)] [(0, 0), (2, 262)] _ rfl ?_
      refine w_iald (q := 262) rfl (by decide) (pc' := 74) rfl ⟨by decide, rfl⟩ rfl (by decide) rfl ?_
      refine zW.go 3 78 [(2, 261), (0, x1), (0, (4 + (mem 266 ((mem 261 13)).toNat))), (0, ((4 + (mem 266 ((mem 261 13)).toNat)) + (2 * (mem 271 ((mem 261 13)).toNat)))), (0, (((4 + (mem 266 ((mem 261 13)).toNat)) + (2 * (mem 271 ((mem 261 13)).toNat))) + (5 * (mem 274 ((mem 261 13)).toNat)))), (9, 0), (9, 0)] [(2, 261), (0, (zshl (mem 262 0) 8))] _ rfl ?_
      refine w_getL (q := 261) (v := 262) rfl (by decide) (pc' := 81) rfl ⟨by decide, rfl⟩ rfl rfl (zall_at hR (by decide)) ?_
      refine zW.go 1 82 [(2, 261), (0, x1), (0, (4 + (mem 266 ((mem 261 13)).toNat))), (0, ((4 + (mem 266 ((mem 261 13)).toNat)) + (2 * (mem 271 ((mem 261 13)).toNat)))), (0, (((4 + (mem 266 ((mem 261 13)).toNat)) + (2 * (mem 271 ((mem 261 13)).toNat))) + (5 * (mem 274 ((mem 261 13)).toNat)))), (9, 0), (9, 0)] [(0, 1), (2, 262), (0, (zshl (mem 262 0) 8))] _ rfl ?_
      refine w_iald (q := 262) rfl (by decide) (pc' := 83) rfl ⟨by decide, rfl⟩ rfl (by decide) rfl ?_
      refine zW.go 2 87 [(2, 261), (0, x1), (0, (4 + (mem 266 ((mem 261 13)).toNat))), (0, ((4 + (mem 266 ((mem 261 13)).toNat)) + (2 * (mem 271 ((mem 261 13)).toNat)))), (0, (((4 + (mem 266 ((mem 261 13)).toNat)) + (2 * (mem 271 ((mem 261 13)).toNat))) + (5 * (mem 274 ((mem 261 13)).toNat)))), (9, 0), (9, 0)] [(0, 999), (0, (zor (zshl (mem 262 0) 8) (mem 262 1)))] _ rfl ?_
      refine w_ic_le rfl (by decide) (pc' := 90) rfl ⟨h.1, by decide⟩ (fun c3 => ?_) (fun c3 => ?_)
      · have h := h.2.1 c3
        refine zW.go 4 100 [(2, 261), (0, x1), (0, (4 + (mem 266 ((mem 261 13)).toNat))), (0, ((4 + (mem 266 ((mem 261 13)).toNat)) + (2 * (mem 271 ((mem 261 13)).toNat)))), (0, (((4 + (mem 266 ((mem 261 13)).toNat)) + (2 * (mem 271 ((mem 261 13)).toNat))) + (5 * (mem 274 ((mem 261 13)).toNat)))), (0, 197), (0, 0)] [] _ rfl ?_
        exact h
      · have h := h.2.2 c3
        refine zW.go 1 91 [(2, 261), (0, x1), (0, (4 + (mem 266 ((mem 261 13)).toNat))), (0, ((4 + (mem 266 ((mem 261 13)).toNat)) + (2 * (mem 271 ((mem 261 13)).toNat)))), (0, (((4 + (mem 266 ((mem 261 13)).toNat)) + (2 * (mem 271 ((mem 261 13)).toNat))) + (5 * (mem 274 ((mem 261 13)).toNat)))), (9, 0), (9, 0)] [(0, 0)] _ rfl ?_
        exact w_retz rfl rfl (by decide) h
set_option maxRecDepth 4000 in
theorem s_m_on {X : zX} {d : Nat} {rf mem : zF} {Q : Int → zF → Prop} (hR : zall rf zRK = true) (h : Ci X d 315 [(2, 261), (0, (mem 261 1))] rf (zup mem 261 1 0) (fun r1 mem2 => (inI r1) ∧ ((¬ r1 = 0 → Cv X d 242 [(2, 261), (0, 0), (0, 1)] rf mem2 (fun mem4 => Q 1 (zup mem4 261 65 0))) ∧ (r1 = 0 → Ci X d 240 [(2, 261), (0, 5)] rf mem2 (fun r5 mem6 => (inI r5) ∧ ((r5 < 0 → Q 0 mem6) ∧ (¬ r5 < 0 → Q 1 mem6))))))) : Ci X (d + 1) 316 [(2, 261)] rf mem Q := by
  show zW X (d + 1) 316 0 [(2, 261), (9, 0)] [] (zty, rf, mem) (qi rf Q)
  refine zW.go 1 1 [(2, 261), (9, 0)] [(2, 261)] _ rfl ?_
  refine w_getI (q := 261) rfl (by decide) (pc' := 4) rfl ⟨by decide, rfl⟩ rfl (by decide) ?_
  refine zW.go 3 7 [(2, 261), (0, (mem 261 1))] [(0, 0), (2, 261)] _ rfl ?_
  refine w_putI (q := 261) rfl (by decide) (pc' := 10) rfl ⟨by decide, rfl⟩ rfl (by decide) ?_
  refine zW.go 2 12 [(2, 261), (0, (mem 261 1))] [(0, (mem 261 1)), (2, 261)] _ rfl ?_
  refine w_calli (as := [(2, 261), (0, (mem 261 1))]) [] 15 rfl rfl rfl rfl (Nat.le_of_ble_eq_true rfl) (Nat.le_of_ble_eq_true rfl) (Nat.le_of_ble_eq_true rfl) (Or.inr rfl) (Ci.imp h (fun r1 mem2 h => ?_))
  refine w_if_ne rfl (by decide) (pc' := 18) rfl h.1 (fun c3 => ?_) (fun c3 => ?_)
  · have h := h.2.1 c3
    refine zW.go 3 35 [(2, 261), (0, (mem 261 1))] [(0, 1), (0, 0), (2, 261)] _ rfl ?_
    refine w_callv (as := [(2, 261), (0, 0), (0, 1)]) [] 38 rfl rfl rfl rfl (Nat.le_of_ble_eq_true rfl) (Nat.le_of_ble_eq_true rfl) (Nat.le_of_ble_eq_true rfl) (Or.inr rfl) (Cv.imp h (fun mem4 h => ?_))
    refine zW.go 2 40 [(2, 261), (0, (mem 261 1))] [(0, 0), (2, 261)] _ rfl ?_
    refine w_putI (q := 261) rfl (by decide) (pc' := 43) rfl ⟨by decide, rfl⟩ rfl (by decide) ?_
    refine zW.go 1 44 [(2, 261), (0, (mem 261 1))] [(0, 1)] _ rfl ?_
    exact w_retz rfl rfl (by decide) h
  · have h := h.2.2 c3
    refine zW.go 2 20 [(2, 261), (0, (mem 261 1))] [(0, 5), (2, 261)] _ rfl ?_
    refine w_calli (as := [(2, 261), (0, 5)]) [] 23 rfl rfl rfl rfl (Nat.le_of_ble_eq_true rfl) (Nat.le_of_ble_eq_true rfl) (Nat.le_of_ble_eq_true rfl) (Or.inr rfl) (Ci.imp h (fun r5 mem6 h => ?_))
    refine w_if_lt rfl (by decide) (pc' := 26) rfl h.1 (fun c7 => ?_) (fun c7 => ?_)
    · have h := h.2.1 c7
      refine zW.go 1 31 [(2, 261), (0, (mem 261 1))] [(0, 0)] _ rfl ?_
      exact w_retz rfl rfl (by decide) h
    · have h := h.2.2 c7
      refine zW.go 2 31 [(2, 261), (0, (mem 261 1))] [(0, 1)] _ rfl ?_
      exact w_retz rfl rfl (by decide) h
