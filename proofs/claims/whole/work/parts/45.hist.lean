def L_history_push_32 (X : zX) (d : Nat) (rf : zF) (Q : zF → Prop) (mem : zF) (o : Nat) : Prop := zW X (d + 1) 2 32 [(2, 52), (2, ((o : Nat) : Int))] [] (zty, rf, mem) (qv rf Q)
set_option maxRecDepth 4000 in
theorem s_history_push_32 {X : zX} {d : Nat} {rf mem : zF} {Q : zF → Prop} (hR : zall rf zRK = true) {o : Nat} (ho : zScn rf o) (h : (inI ((mem 52 1) + (mem 52 2))) ∧ ((0 ≤ (((mem 52 1) + (mem 52 2)).tmod 20) ∧ (((mem 52 1) + (mem 52 2)).tmod 20) < 20) ∧ (Cv X d 4 [(2, ((o : Nat) : Int)), (2, (((54 + 9 * ((((mem 52 1) + (mem 52 2)).tmod 20)).toNat) : Nat) : Int))] rf mem (fun mem3 => Q (zup mem3 52 2 ((mem3 52 2) + 1)))))) : L_history_push_32 X d rf Q mem o := by
  refine zW.go 2 34 [(2, 52), (2, ((o : Nat) : Int))] [(2, 52), (2, ((o : Nat) : Int))] _ rfl ?_
  refine w_getL (q := 52) (v := 53) rfl (by decide) (pc' := 37) rfl ⟨by decide, rfl⟩ rfl rfl (zall_at hR (by decide)) ?_
  refine zW.go 1 38 [(2, 52), (2, ((o : Nat) : Int))] [(2, 52), (2, 53), (2, ((o : Nat) : Int))] _ rfl ?_
  refine w_getI (q := 52) rfl (by decide) (pc' := 41) rfl ⟨by decide, rfl⟩ rfl (by decide) ?_
  refine zW.go 1 42 [(2, 52), (2, ((o : Nat) : Int))] [(2, 52), (0, (mem 52 1)), (2, 53), (2, ((o : Nat) : Int))] _ rfl ?_
  refine w_getI (q := 52) rfl (by decide) (pc' := 45) rfl ⟨by decide, rfl⟩ rfl (by decide) ?_
  refine zW.go 2 48 [(2, 52), (2, ((o : Nat) : Int))] [(0, 20), (0, ((mem 52 1) + (mem 52 2))), (2, 53), (2, ((o : Nat) : Int))] _ rfl ?_
  obtain ⟨g, h⟩ := h
  refine w_irem rfl (by decide) (pc' := 49) rfl ⟨g, by decide, by decide⟩ ?_
  obtain ⟨gr2, h⟩ := h
  refine w_aald (q := 53) (v := (((54 + 9 * ((((mem 52 1) + (mem 52 2)).tmod 20)).toNat) : Nat) : Int)) rfl (by decide) (pc' := 50) rfl ⟨by decide, rfl⟩ rfl gr2 rfl (zring_r hR gr2) ?_
  refine w_callv (as := [(2, ((o : Nat) : Int)), (2, (((54 + 9 * ((((mem 52 1) + (mem 52 2)).tmod 20)).toNat) : Nat) : Int))]) [] 53 rfl rfl rfl rfl (Nat.le_of_ble_eq_true rfl) (Nat.le_of_ble_eq_true rfl) (Nat.le_of_ble_eq_true rfl) (Or.inl rfl) (Cv.imp h (fun mem3 h => ?_))
  refine zW.go 2 55 [(2, 52), (2, ((o : Nat) : Int))] [(2, 52), (2, 52)] _ rfl ?_
  refine w_getI (q := 52) rfl (by decide) (pc' := 58) rfl ⟨by decide, rfl⟩ rfl (by decide) ?_
  refine zW.go 2 60 [(2, 52), (2, ((o : Nat) : Int))] [(0, ((mem3 52 2) + 1)), (2, 52)] _ rfl ?_
  refine w_putI (q := 52) rfl (by decide) (pc' := 63) rfl ⟨by decide, rfl⟩ rfl (by decide) ?_
  exact w_retv rfl rfl h
set_option maxRecDepth 4000 in
theorem s_history_push {X : zX} {d : Nat} {rf mem : zF} {Q : zF → Prop} (hR : zall rf zRK = true) {o : Nat} (ho : zScn rf o) (h : (inI (mem 52 2)) ∧ ((¬ (mem 52 2) = 20 → L_history_push_32 X d rf Q mem o) ∧ ((mem 52 2) = 20 → (inI ((mem 52 1) + 1)) ∧ (L_history_push_32 X d rf Q (zup (zup mem 52 1 (((mem 52 1) + 1).tmod 20)) 52 2 ((mem 52 2) - 1)) o)))) : Cv X (d + 1) 2 [(2, 52), (2, ((o : Nat) : Int))] rf mem Q := by
  show zW X (d + 1) 2 0 [(2, 52), (2, ((o : Nat) : Int))] [] (zty, rf, mem) (qv rf Q)
  refine zW.go 1 1 [(2, 52), (2, ((o : Nat) : Int))] [(2, 52)] _ rfl ?_
  refine w_getI (q := 52) rfl (by decide) (pc' := 4) rfl ⟨by decide, rfl⟩ rfl (by decide) ?_
  refine zW.go 1 6 [(2, 52), (2, ((o : Nat) : Int))] [(0, 20), (0, (mem 52 2))] _ rfl ?_
  refine w_ic_ne rfl (by decide) (pc' := 9) rfl ⟨h.1, by decide⟩ (fun c1 => ?_) (fun c1 => ?_)
  · have h := h.2.1 c1
    exact h
  · have h := h.2.2 c1
    refine zW.go 2 11 [(2, 52), (2, ((o : Nat) : Int))] [(2, 52), (2, 52)] _ rfl ?_
    refine w_getI (q := 52) rfl (by decide) (pc' := 14) rfl ⟨by decide, rfl⟩ rfl (by decide) ?_
    refine zW.go 3 18 [(2, 52), (2, ((o : Nat) : Int))] [(0, 20), (0, ((mem 52 1) + 1)), (2, 52)] _ rfl ?_
    obtain ⟨g, h⟩ := h
    refine w_irem rfl (by decide) (pc' := 19) rfl ⟨g, by decide, by decide⟩ ?_
    refine w_putI (q := 52) rfl (by decide) (pc' := 22) rfl ⟨by decide, rfl⟩ rfl (by decide) ?_
    refine zW.go 2 24 [(2, 52), (2, ((o : Nat) : Int))] [(2, 52), (2, 52)] _ rfl ?_
    refine w_getI (q := 52) rfl (by decide) (pc' := 27) rfl ⟨by decide, rfl⟩ rfl (by decide) ?_
    refine zW.go 2 29 [(2, 52), (2, ((o : Nat) : Int))] [(0, ((mem 52 2) - 1)), (2, 52)] _ rfl ?_
    refine w_putI (q := 52) rfl (by decide) (pc' := 32) rfl ⟨by decide, rfl⟩ rfl (by decide) ?_
    exact h
set_option maxRecDepth 4000 in
theorem s_history_pop {X : zX} {d : Nat} {rf mem : zF} {Q : Int → zF → Prop} (hR : zall rf zRK = true) {o : Nat} (ho : zScn rf o) (h : (inI (mem 52 2)) ∧ ((0 < (mem 52 2) → (inI ((mem 52 1) + ((mem 52 2) - 1))) ∧ ((0 ≤ (((mem 52 1) + ((mem 52 2) - 1)).tmod 20) ∧ (((mem 52 1) + ((mem 52 2) - 1)).tmod 20) < 20) ∧ (Cv X d 4 [(2, (((54 + 9 * ((((mem 52 1) + ((mem 52 2) - 1)).tmod 20)).toNat) : Nat) : Int)), (2, ((o : Nat) : Int))] rf (zup mem 52 2 ((mem 52 2) - 1)) (fun mem3 => Q 1 mem3)))) ∧ (¬ 0 < (mem 52 2) → Q 0 mem))) : Ci X (d + 1) 3 [(2, 52), (2, ((o : Nat) : Int))] rf mem Q := by
  show zW X (d + 1) 3 0 [(2, 52), (2, ((o : Nat) : Int))] [] (zty, rf, mem) (qi rf Q)
  refine zW.go 1 1 [(2, 52), (2, ((o : Nat) : Int))] [(2, 52)] _ rfl ?_
  refine w_getI (q := 52) rfl (by decide) (pc' := 4) rfl ⟨by decide, rfl⟩ rfl (by decide) ?_
  refine w_if_gt rfl (by decide) (pc' := 7) rfl h.1 (fun c1 => ?_) (fun c1 => ?_)
  · have h := h.2.1 c1
    refine zW.go 2 11 [(2, 52), (2, ((o : Nat) : Int))] [(2, 52), (2, 52)] _ rfl ?_
    refine w_getI (q := 52) rfl (by decide) (pc' := 14) rfl ⟨by decide, rfl⟩ rfl (by decide) ?_
    refine zW.go 2 16 [(2, 52), (2, ((o : Nat) : Int))] [(0, ((mem 52 2) - 1)), (2, 52)] _ rfl ?_
    refine w_putI (q := 52) rfl (by decide) (pc' := 19) rfl ⟨by decide, rfl⟩ rfl (by decide) ?_
    refine zW.go 1 20 [(2, 52), (2, ((o : Nat) : Int))] [(2, 52)] _ rfl ?_
    refine w_getL (q := 52) (v := 53) rfl (by decide) (pc' := 23) rfl ⟨by decide, rfl⟩ rfl rfl (zall_at hR (by decide)) ?_
    refine zW.go 1 24 [(2, 52), (2, ((o : Nat) : Int))] [(2, 52), (2, 53)] _ rfl ?_
    refine w_getI (q := 52) rfl (by decide) (pc' := 27) rfl ⟨by decide, rfl⟩ rfl (by decide) ?_
    refine zW.go 1 28 [(2, 52), (2, ((o : Nat) : Int))] [(2, 52), (0, (mem 52 1)), (2, 53)] _ rfl ?_
    refine w_getI (q := 52) rfl (by decide) (pc' := 31) rfl ⟨by decide, rfl⟩ rfl (by decide) ?_
    refine zW.go 2 34 [(2, 52), (2, ((o : Nat) : Int))] [(0, 20), (0, ((mem 52 1) + ((mem 52 2) - 1))), (2, 53)] _ rfl ?_
    obtain ⟨g, h⟩ := h
    refine w_irem rfl (by decide) (pc' := 35) rfl ⟨g, by decide, by decide⟩ ?_
    obtain ⟨gr2, h⟩ := h
    refine w_aald (q := 53) (v := (((54 + 9 * ((((mem 52 1) + ((mem 52 2) - 1)).tmod 20)).toNat) : Nat) : Int)) rfl (by decide) (pc' := 36) rfl ⟨by decide, rfl⟩ rfl gr2 rfl (zring_r hR gr2) ?_
    refine zW.go 1 37 [(2, 52), (2, ((o : Nat) : Int))] [(2, ((o : Nat) : Int)), (2, (((54 + 9 * ((((mem 52 1) + ((mem 52 2) - 1)).tmod 20)).toNat) : Nat) : Int))] _ rfl ?_
    refine w_callv (as := [(2, (((54 + 9 * ((((mem 52 1) + ((mem 52 2) - 1)).tmod 20)).toNat) : Nat) : Int)), (2, ((o : Nat) : Int))]) [] 40 rfl rfl rfl rfl (Nat.le_of_ble_eq_true rfl) (Nat.le_of_ble_eq_true rfl) (Nat.le_of_ble_eq_true rfl) (Or.inl rfl) (Cv.imp h (fun mem3 h => ?_))
    refine zW.go 1 41 [(2, 52), (2, ((o : Nat) : Int))] [(0, 1)] _ rfl ?_
    exact w_retz rfl rfl (by decide) h
  · have h := h.2.2 c1
    refine zW.go 1 8 [(2, 52), (2, ((o : Nat) : Int))] [(0, 0)] _ rfl ?_
    exact w_retz rfl rfl (by decide) h
def L_j_bitCount_10 (X : zX) (d : Nat) (rf : zF) (Q : Int → zF → Prop) (mem : zF) (x0 : Int) : Prop := zW X d 317 10 [(0, x0)] [] (zty, rf, mem) (qi rf Q)
def L_j_bitCount_24 (X : zX) (d : Nat) (rf : zF) (Q : Int → zF → Prop) (mem : zF) (x0 : Int) : Prop := zW X d 317 24 [(0, x0)] [] (zty, rf, mem) (qi rf Q)
def L_j_bitCount_34 (X : zX) (d : Nat) (rf : zF) (Q : Int → zF → Prop) (mem : zF) (x0 : Int) : Prop := zW X d 317 34 [(0, x0)] [] (zty, rf, mem) (qi rf Q)
def L_j_bitCount_41 (X : zX) (d : Nat) (rf : zF) (Q : Int → zF → Prop) (mem : zF) (x0 : Int) : Prop := zW X d 317 41 [(0, x0)] [] (zty, rf, mem) (qi rf Q)
def L_j_bitCount_48 (X : zX) (d : Nat) (rf : zF) (Q : Int → zF → Prop) (mem : zF) (x0 : Int) : Prop := zW X d 317 48 [(0, x0)] [] (zty, rf, mem) (qi rf Q)
set_option maxRecDepth 4000 in
theorem s_j_bitCount_10 {X : zX} {d : Nat} {rf mem : zF} {Q : Int → zF → Prop} (hR : zall rf zRK = true) {x0 : Int} (h : L_j_bitCount_24 X d rf Q mem ((zand x0 858993459) + (zand (zushr x0 2) 858993459))) : L_j_bitCount_10 X d rf Q mem x0 := by
  refine zW.go 10 24 [(0, ((zand x0 858993459) + (zand (zushr x0 2) 858993459)))] [] _ rfl ?_
  exact h
set_option maxRecDepth 4000 in
theorem s_j_bitCount_24 {X : zX} {d : Nat} {rf mem : zF} {Q : Int → zF → Prop} (hR : zall rf zRK = true) {x0 : Int} (h : L_j_bitCount_34 X d rf Q mem (zand (x0 + (zushr x0 4)) 252645135)) : L_j_bitCount_24 X d rf Q mem x0 := by
  refine zW.go 8 34 [(0, (zand (x0 + (zushr x0 4)) 252645135))] [] _ rfl ?_
  exact h
set_option maxRecDepth 4000 in
theorem s_j_bitCount_34 {X : zX} {d : Nat} {rf mem : zF} {Q : Int → zF → Prop} (hR : zall rf zRK = true) {x0 : Int} (h : L_j_bitCount_41 X d rf Q mem (x0 + (zushr x0 8))) : L_j_bitCount_34 X d rf Q mem x0 := by
  refine zW.go 6 41 [(0, (x0 + (zushr x0 8)))] [] _ rfl ?_
  exact h
set_option maxRecDepth 4000 in
theorem s_j_bitCount_41 {X : zX} {d : Nat} {rf mem : zF} {Q : Int → zF → Prop} (hR : zall rf zRK = true) {x0 : Int} (h : L_j_bitCount_48 X d rf Q mem (x0 + (zushr x0 16))) : L_j_bitCount_41 X d rf Q mem x0 := by
  refine zW.go 6 48 [(0, (x0 + (zushr x0 16)))] [] _ rfl ?_
  exact h
set_option maxRecDepth 4000 in
theorem s_j_bitCount_48 {X : zX} {d : Nat} {rf mem : zF} {Q : Int → zF → Prop} (hR : zall rf zRK = true) {x0 : Int} (h : Q (zand x0 63) mem) : L_j_bitCount_48 X d rf Q mem x0 := by
  refine zW.go 3 52 [(0, x0)] [(0, (zand x0 63))] _ rfl ?_
  exact w_reti rfl rfl h
set_option maxRecDepth 4000 in
theorem s_j_bitCount {X : zX} {d : Nat} {rf mem : zF} {Q : Int → zF → Prop} (hR : zall rf zRK = true) {x0 : Int} (h : L_j_bitCount_10 X d rf Q mem (x0 - (zand (zushr x0 1) 1431655765))) : Ci X d 317 [(0, x0)] rf mem Q := by
  show zW X d 317 0 [(0, x0)] [] (zty, rf, mem) (qi rf Q)
  refine zW.go 8 10 [(0, (x0 - (zand (zushr x0 1) 1431655765)))] [] _ rfl ?_
  exact h
