/-! room: the program's call, which lets the two plans change places -/
def Cg (X : zX) (d M : Nat) (as : List zV) (rf mem : zF) (Q : Int → zF → zF → Prop) : Prop := zW X d M 0 (zpad (zinf M).2.2 (zloc as)) [] (zty, rf, mem) (fun v S => ∃ (x : Int) (rf2 m2 : zF), v = some (0, x) ∧ S = (zty, rf2, m2) ∧ Q x rf2 m2)
theorem Cg.of {X : zX} {d M : Nat} {as : List zV} {rf mem : zF} {Q : Int → zF → zF → Prop} (h : Ci X d M as rf mem (fun r m => Q r rf m)) : Cg X d M as rf mem Q := zW.imp h (fun _ _ ⟨x, m, e1, e2, q⟩ => ⟨x, rf, m, e1, e2, q⟩)
theorem zall_keep {f : zF} {l : List (Nat × Nat × Int)} (h : zall f l = true) {a j : Nat} {v : Int} (hn : l.all (fun q => decide (¬ (q.1 = a ∧ q.2.1 = j))) = true) : zall (zup f a j v) l = true := by
  unfold zall
  refine List.all_eq_true.mpr (fun q hq => decide_eq_true ?_)
  have h1 := of_decide_eq_true (List.all_eq_true.mp hn q hq)
  have h2 := of_decide_eq_true (List.all_eq_true.mp h q hq)
  rw [zup_get, if_neg h1]
  exact h2
/-- the two plans change places -/
def zsw (rf : zF) (p p2 : Nat) : zF := zup (zup rf 3 1 ((p : Nat) : Int)) 0 8 ((p2 : Nat) : Int)
theorem zsw_ok {rf : zF} {p p2 : Nat} (h : zall rf zRK = true) : zall (zsw rf p p2) zRK = true := zall_keep (zall_keep h (by decide +kernel)) (by decide +kernel)
theorem zsw_0 {rf : zF} {p p2 : Nat} : zsw rf p p2 0 8 = ((p2 : Nat) : Int) := zup_at _ _ _ _
theorem zsw_3 {rf : zF} {p p2 : Nat} : zsw rf p p2 3 1 = ((p : Nat) : Int) := by
  unfold zsw
  rw [zup_row _ _ _ (by decide), zup_at]
set_option maxRecDepth 4000 in
theorem s_c_room {X : zX} {d : Nat} {rf mem : zF} {Q : Int → zF → zF → Prop} (hR : zall rf zRK = true) {p p2 : Nat} (hpl : rf 0 8 = ((p : Nat) : Int)) (hp2 : zPln rf p2) (h31 : rf 3 1 = ((p2 : Nat) : Int)) (h : Ci X d 25 [(2, 3), (2, 1)] rf mem (fun r m => inI r ∧ (r = 0 → Ci X d 185 [(2, 0), (0, 1)] rf (zup m 1 1 0) (fun r2 m2 => Q r2 rf m2)) ∧ (¬ r = 0 → Cv X d 85 [(2, 23), (2, ((p2 : Nat) : Int))] (zsw rf p p2) (zup m 1 1 0) (fun m3 => Cv X d 1 [(2, 52)] (zsw rf p p2) m3 (fun m4 => Cv X d 112 [(2, 35)] (zsw rf p p2) m4 (fun m5 => Q (m5 p2 0) (zsw rf p p2) m5)))))) : Cg X (d + 1) 151 [(2, 0)] rf mem Q := by
  have hR2 := zsw_ok (p := p) (p2 := p2) hR
  show zW X (d + 1) 151 0 [(2, 0), (9, 0)] [] (zty, rf, mem) (fun v S => ∃ (x : Int) (rf2 m2 : zF), v = some (0, x) ∧ S = (zty, rf2, m2) ∧ Q x rf2 m2)
  refine zW.go 1 1 [(2, 0), (9, 0)] [(2, 0)] _ rfl ?_
  refine w_getL (q := 0) (v := 3) rfl (by decide) (pc' := 4) rfl ⟨by decide, rfl⟩ rfl rfl (zall_at hR (by decide)) ?_
  refine zW.go 1 5 [(2, 0), (9, 0)] [(2, 0), (2, 3)] _ rfl ?_
  refine w_getL (q := 0) (v := 1) rfl (by decide) (pc' := 8) rfl ⟨by decide, rfl⟩ rfl rfl (zall_at hR (by decide)) ?_
  refine w_calli (as := [(2, 3), (2, 1)]) [] 11 rfl rfl rfl rfl (Nat.le_of_ble_eq_true rfl) (Nat.le_of_ble_eq_true rfl) (Nat.le_of_ble_eq_true rfl) (Or.inr rfl) (Ci.imp h (fun r m h => ?_))
  refine zW.go 2 13 [(2, 0), (0, r)] [(2, 0)] _ rfl ?_
  refine w_getL (q := 0) (v := 1) rfl (by decide) (pc' := 16) rfl ⟨by decide, rfl⟩ rfl rfl (zall_at hR (by decide)) ?_
  refine zW.go 1 17 [(2, 0), (0, r)] [(0, 0), (2, 1)] _ rfl ?_
  refine w_putI (q := 1) rfl (by decide) (pc' := 20) rfl ⟨by decide, rfl⟩ rfl (by decide) ?_
  refine zW.go 1 21 [(2, 0), (0, r)] [(0, r)] _ rfl ?_
  refine w_if_ne rfl (by decide) (pc' := 24) rfl h.1 (fun q => ?_) (fun q => ?_)
  · have h2 := h.2.2 q
    refine zW.go 2 32 [(2, 0), (0, r)] [(2, 0), (2, 0)] _ rfl ?_
    refine w_getL (q := 0) (v := 3) rfl (by decide) (pc' := 35) rfl ⟨by decide, rfl⟩ rfl rfl (zall_at hR (by decide)) ?_
    refine zW.go 1 36 [(2, 0), (0, r)] [(2, 0), (2, 3), (2, 0)] _ rfl ?_
    refine w_getL (q := 0) (v := ((p : Nat) : Int)) rfl (by decide) (pc' := 39) rfl ⟨by decide, rfl⟩ rfl rfl hpl ?_
    refine zW.call [(2, 3), (2, ((p : Nat) : Int))] [(2, 0)] 42 rfl rfl rfl rfl (Nat.le_of_ble_eq_true rfl) (Nat.le_of_ble_eq_true rfl) (Nat.le_of_ble_eq_true rfl) (Or.inr rfl) ?_
    obtain ⟨d, rfl⟩ : ∃ e, d = e + 0 := ⟨d, rfl⟩
    show zW X _ 24 0 [(2, 3), (2, ((p : Nat) : Int)), (9, 0)] [] (zty, rf, zup m 1 1 0) _
    refine zW.go 1 1 [(2, 3), (2, ((p : Nat) : Int)), (9, 0)] [(2, 3)] _ rfl ?_
    refine w_getL (q := 3) (v := ((p2 : Nat) : Int)) rfl (by decide) (pc' := 4) rfl ⟨by decide, rfl⟩ rfl rfl h31 ?_
    refine zW.go 3 7 [(2, 3), (2, ((p : Nat) : Int)), (2, ((p2 : Nat) : Int))] [(2, ((p : Nat) : Int)), (2, 3)] _ rfl ?_
    refine w_putL (q := 3) (v := p) rfl (by decide) (pc' := 10) rfl ⟨by decide, rfl⟩ ⟨Int.natCast_nonneg _, rfl⟩ rfl (Or.inl rfl) ?_
    refine zW.go 1 11 [(2, 3), (2, ((p : Nat) : Int)), (2, ((p2 : Nat) : Int))] [(2, ((p2 : Nat) : Int))] _ rfl ?_
    refine zW.ret (some (2, ((p2 : Nat) : Int))) rfl rfl ⟨Or.inl rfl, ?_⟩
    show zW X _ 151 42 [(2, 0), (0, r)] [(2, ((p2 : Nat) : Int)), (2, 0)] (zty, zup rf 3 1 ((p : Nat) : Int), zup m 1 1 0) _
    refine w_putL (q := 0) (v := p2) rfl (by decide) (pc' := 45) rfl ⟨by decide, rfl⟩ ⟨Int.natCast_nonneg _, rfl⟩ rfl (Or.inl rfl) ?_
    show zW X _ 151 45 [(2, 0), (0, r)] [] (zty, zsw rf p p2, zup m 1 1 0) _
    refine zW.go 1 46 [(2, 0), (0, r)] [(2, 0)] _ rfl ?_
    refine w_getL (q := 0) (v := 23) rfl (by decide) (pc' := 49) rfl ⟨by decide, rfl⟩ rfl rfl (zall_at hR2 (by decide)) ?_
    refine zW.go 1 50 [(2, 0), (0, r)] [(2, 0), (2, 23)] _ rfl ?_
    refine w_getL (q := 0) (v := ((p2 : Nat) : Int)) rfl (by decide) (pc' := 53) rfl ⟨by decide, rfl⟩ rfl rfl zsw_0 ?_
    refine w_callv (as := [(2, 23), (2, ((p2 : Nat) : Int))]) [] 56 rfl rfl rfl rfl (Nat.le_of_ble_eq_true rfl) (Nat.le_of_ble_eq_true rfl) (Nat.le_of_ble_eq_true rfl) (Or.inr rfl) (Cv.imp h2 (fun m3 h2 => ?_))
    refine zW.go 1 57 [(2, 0), (0, r)] [(2, 0)] _ rfl ?_
    refine w_getL (q := 0) (v := 52) rfl (by decide) (pc' := 60) rfl ⟨by decide, rfl⟩ rfl rfl (zall_at hR2 (by decide)) ?_
    refine w_callv (as := [(2, 52)]) [] 63 rfl rfl rfl rfl (Nat.le_of_ble_eq_true rfl) (Nat.le_of_ble_eq_true rfl) (Nat.le_of_ble_eq_true rfl) (Or.inr rfl) (Cv.imp h2 (fun m4 h2 => ?_))
    refine zW.go 1 64 [(2, 0), (0, r)] [(2, 0)] _ rfl ?_
    refine w_getL (q := 0) (v := 35) rfl (by decide) (pc' := 67) rfl ⟨by decide, rfl⟩ rfl rfl (zall_at hR2 (by decide)) ?_
    refine w_callv (as := [(2, 35)]) [] 70 rfl rfl rfl rfl (Nat.le_of_ble_eq_true rfl) (Nat.le_of_ble_eq_true rfl) (Nat.le_of_ble_eq_true rfl) (Or.inr rfl) (Cv.imp h2 (fun m5 h2 => ?_))
    refine zW.go 1 71 [(2, 0), (0, r)] [(2, 0)] _ rfl ?_
    refine w_getL (q := 0) (v := ((p2 : Nat) : Int)) rfl (by decide) (pc' := 74) rfl ⟨by decide, rfl⟩ rfl rfl zsw_0 ?_
    refine w_getI (q := p2) rfl (by decide) (pc' := 77) rfl ⟨Int.natCast_nonneg _, rfl⟩ (zPln_t0 hp2) (by decide) ?_
    exact zW.ret _ rfl rfl ⟨_, _, _, rfl, rfl, h2⟩
  · have h2 := h.2.1 q
    refine zW.go 2 26 [(2, 0), (0, r)] [(0, 1), (2, 0)] _ rfl ?_
    refine w_calli (as := [(2, 0), (0, 1)]) [] 29 rfl rfl rfl rfl (Nat.le_of_ble_eq_true rfl) (Nat.le_of_ble_eq_true rfl) (Nat.le_of_ble_eq_true rfl) (Or.inr rfl) (Ci.imp h2 (fun r2 m2 h2 => ?_))
    exact zW.ret _ rfl rfl ⟨_, _, _, rfl, rfl, h2⟩
/-- the law's question to both, with the plans changing places -/
theorem lc_2 {X : zX} {rf mem : zF} {i : Int} {d : Nat} {Q : Option zV → zS → Prop} {Z : zF → zF → Prop} (h : Cg X d 151 [(2, 0)] rf mem (fun r1 rf1 m1 => Ci X d 238 [(2, 261)] rf1 m1 (fun r2 m2 => (inI r1 ∧ inI r2) ∧ r1 = r2 ∧ Z rf1 m2))) (next : ∀ rf2 m2, Z rf2 m2 → zW X (d + 1) 330 1213 [(3, 0), (2, 0), (2, 261), (0, i)] [] (zty, rf2, m2) Q) : zW X (d + 1) 330 274 [(3, 0), (2, 0), (2, 261), (0, i)] [] (zty, rf, mem) Q := by
  refine zW.go 1 275 [(3, 0), (2, 0), (2, 261), (0, i)] [(2, 0)] _ rfl ?_
  refine zW.call [(2, 0)] [] 278 rfl rfl rfl rfl (Nat.le_of_ble_eq_true rfl) (Nat.le_of_ble_eq_true rfl) (Nat.le_of_ble_eq_true rfl) (Or.inr rfl) ?_
  refine zW.imp h (fun v S ⟨r1, rf1, m1, e1, e2, h⟩ => ?_)
  subst e1
  subst e2
  refine ⟨Or.inl rfl, ?_⟩
  show zW X (d + 1) 330 278 [(3, 0), (2, 0), (2, 261), (0, i)] [(0, r1)] (zty, rf1, m1) Q
  refine zW.go 1 279 [(3, 0), (2, 0), (2, 261), (0, i)] [(2, 261), (0, r1)] _ rfl ?_
  refine w_calli (as := [(2, 261)]) [(0, r1)] 282 rfl rfl rfl rfl (Nat.le_of_ble_eq_true rfl) (Nat.le_of_ble_eq_true rfl) (Nat.le_of_ble_eq_true rfl) (Or.inr rfl) (Ci.imp h (fun r2 m2 h => ?_))
  exact w_ic_eq rfl (by decide) (pc' := 285) rfl h.1 (fun _ => next rf1 m2 h.2.2) (fun q => absurd h.2.1 q)
