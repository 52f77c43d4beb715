/-! the law: its cases and its loop -/
set_option maxRecDepth 4000 in
theorem lc_0 {X : zX} {rf mem : zF} {i : Int} {d : Nat} {Q : Option zV → zS → Prop} {Z : zF → Prop} (hi : 0 ≤ i ∧ i + 6 ≤ (X.1 : Int)) (h : zPR X rf d mem 149 [(2, 0), (0, X.2 (i + 1).toNat), (0, X.2 (i + 2).toNat), (0, X.2 (i + 3).toNat), (0, X.2 (i + 4).toNat), (0, X.2 (i + 5).toNat)] 196 [(2, 261), (0, X.2 (i + 1).toNat), (0, X.2 (i + 2).toNat), (0, X.2 (i + 3).toNat), (0, X.2 (i + 4).toNat), (0, X.2 (i + 5).toNat)] Z) (next : ∀ m2, Z m2 → zW X (d + 1) 330 1213 [(3, 0), (2, 0), (2, 261), (0, i)] [] (zty, rf, m2) Q) : zW X (d + 1) 330 188 [(3, 0), (2, 0), (2, 261), (0, i)] [] (zty, rf, mem) Q := by
  refine zW.go 1 189 [(3, 0), (2, 0), (2, 261), (0, i)] [(2, 0)] _ rfl ?_
  refine zW.go 4 193 [(3, 0), (2, 0), (2, 261), (0, i)] [(0, i + 1), (3, 0), (2, 0)] _ rfl ?_
  refine w_sld rfl (by decide) (pc' := 194) rfl (by omega) rfl ?_
  refine zW.go 4 198 [(3, 0), (2, 0), (2, 261), (0, i)] [(0, i + 2), (3, 0), (0, X.2 (i + 1).toNat), (2, 0)] _ rfl ?_
  refine w_sld rfl (by decide) (pc' := 199) rfl (by omega) rfl ?_
  refine zW.go 4 203 [(3, 0), (2, 0), (2, 261), (0, i)] [(0, i + 3), (3, 0), (0, X.2 (i + 2).toNat), (0, X.2 (i + 1).toNat), (2, 0)] _ rfl ?_
  refine w_sld rfl (by decide) (pc' := 204) rfl (by omega) rfl ?_
  refine zW.go 4 208 [(3, 0), (2, 0), (2, 261), (0, i)] [(0, i + 4), (3, 0), (0, X.2 (i + 3).toNat), (0, X.2 (i + 2).toNat), (0, X.2 (i + 1).toNat), (2, 0)] _ rfl ?_
  refine w_sld rfl (by decide) (pc' := 209) rfl (by omega) rfl ?_
  refine zW.go 4 213 [(3, 0), (2, 0), (2, 261), (0, i)] [(0, i + 5), (3, 0), (0, X.2 (i + 4).toNat), (0, X.2 (i + 3).toNat), (0, X.2 (i + 2).toNat), (0, X.2 (i + 1).toNat), (2, 0)] _ rfl ?_
  refine w_sld rfl (by decide) (pc' := 214) rfl (by omega) rfl ?_
  refine w_calli (as := [(2, 0), (0, X.2 (i + 1).toNat), (0, X.2 (i + 2).toNat), (0, X.2 (i + 3).toNat), (0, X.2 (i + 4).toNat), (0, X.2 (i + 5).toNat)]) [] 217 rfl rfl rfl rfl (Nat.le_of_ble_eq_true rfl) (Nat.le_of_ble_eq_true rfl) (Nat.le_of_ble_eq_true rfl) (Or.inr rfl) (Ci.imp h (fun r1 m1 h => ?_))
  refine zW.go 1 218 [(3, 0), (2, 0), (2, 261), (0, i)] [(2, 261), (0, r1)] _ rfl ?_
  refine zW.go 4 222 [(3, 0), (2, 0), (2, 261), (0, i)] [(0, i + 1), (3, 0), (2, 261), (0, r1)] _ rfl ?_
  refine w_sld rfl (by decide) (pc' := 223) rfl (by omega) rfl ?_
  refine zW.go 4 227 [(3, 0), (2, 0), (2, 261), (0, i)] [(0, i + 2), (3, 0), (0, X.2 (i + 1).toNat), (2, 261), (0, r1)] _ rfl ?_
  refine w_sld rfl (by decide) (pc' := 228) rfl (by omega) rfl ?_
  refine zW.go 4 232 [(3, 0), (2, 0), (2, 261), (0, i)] [(0, i + 3), (3, 0), (0, X.2 (i + 2).toNat), (0, X.2 (i + 1).toNat), (2, 261), (0, r1)] _ rfl ?_
  refine w_sld rfl (by decide) (pc' := 233) rfl (by omega) rfl ?_
  refine zW.go 4 237 [(3, 0), (2, 0), (2, 261), (0, i)] [(0, i + 4), (3, 0), (0, X.2 (i + 3).toNat), (0, X.2 (i + 2).toNat), (0, X.2 (i + 1).toNat), (2, 261), (0, r1)] _ rfl ?_
  refine w_sld rfl (by decide) (pc' := 238) rfl (by omega) rfl ?_
  refine zW.go 4 242 [(3, 0), (2, 0), (2, 261), (0, i)] [(0, i + 5), (3, 0), (0, X.2 (i + 4).toNat), (0, X.2 (i + 3).toNat), (0, X.2 (i + 2).toNat), (0, X.2 (i + 1).toNat), (2, 261), (0, r1)] _ rfl ?_
  refine w_sld rfl (by decide) (pc' := 243) rfl (by omega) rfl ?_
  refine w_calli (as := [(2, 261), (0, X.2 (i + 1).toNat), (0, X.2 (i + 2).toNat), (0, X.2 (i + 3).toNat), (0, X.2 (i + 4).toNat), (0, X.2 (i + 5).toNat)]) [(0, r1)] 246 rfl rfl rfl rfl (Nat.le_of_ble_eq_true rfl) (Nat.le_of_ble_eq_true rfl) (Nat.le_of_ble_eq_true rfl) (Or.inr rfl) (Ci.imp h (fun r2 m2 h => ?_))
  exact w_ic_eq rfl (by decide) (pc' := 249) rfl h.1 (fun _ => next m2 h.2.2) (fun q => absurd h.2.1 q)
set_option maxRecDepth 4000 in
theorem lc_1 {X : zX} {rf mem : zF} {i : Int} {d : Nat} {Q : Option zV → zS → Prop} {Z : zF → Prop} (hi : 0 ≤ i ∧ i + 6 ≤ (X.1 : Int)) (h : zPR X rf d mem 150 [(2, 0), (0, X.2 (i + 1).toNat)] 197 [(2, 261), (0, X.2 (i + 1).toNat)] Z) (next : ∀ m2, Z m2 → zW X (d + 1) 330 1213 [(3, 0), (2, 0), (2, 261), (0, i)] [] (zty, rf, m2) Q) : zW X (d + 1) 330 251 [(3, 0), (2, 0), (2, 261), (0, i)] [] (zty, rf, mem) Q := by
  refine zW.go 1 252 [(3, 0), (2, 0), (2, 261), (0, i)] [(2, 0)] _ rfl ?_
  refine zW.go 4 256 [(3, 0), (2, 0), (2, 261), (0, i)] [(0, i + 1), (3, 0), (2, 0)] _ rfl ?_
  refine w_sld rfl (by decide) (pc' := 257) rfl (by omega) rfl ?_
  refine w_calli (as := [(2, 0), (0, X.2 (i + 1).toNat)]) [] 260 rfl rfl rfl rfl (Nat.le_of_ble_eq_true rfl) (Nat.le_of_ble_eq_true rfl) (Nat.le_of_ble_eq_true rfl) (Or.inr rfl) (Ci.imp h (fun r1 m1 h => ?_))
  refine zW.go 1 261 [(3, 0), (2, 0), (2, 261), (0, i)] [(2, 261), (0, r1)] _ rfl ?_
  refine zW.go 4 265 [(3, 0), (2, 0), (2, 261), (0, i)] [(0, i + 1), (3, 0), (2, 261), (0, r1)] _ rfl ?_
  refine w_sld rfl (by decide) (pc' := 266) rfl (by omega) rfl ?_
  refine w_calli (as := [(2, 261), (0, X.2 (i + 1).toNat)]) [(0, r1)] 269 rfl rfl rfl rfl (Nat.le_of_ble_eq_true rfl) (Nat.le_of_ble_eq_true rfl) (Nat.le_of_ble_eq_true rfl) (Or.inr rfl) (Ci.imp h (fun r2 m2 h => ?_))
  exact w_ic_eq rfl (by decide) (pc' := 272) rfl h.1 (fun _ => next m2 h.2.2) (fun q => absurd h.2.1 q)
set_option maxRecDepth 4000 in
theorem lc_3 {X : zX} {rf mem : zF} {i : Int} {d : Nat} {Q : Option zV → zS → Prop} {Z : zF → Prop} (hi : 0 ≤ i ∧ i + 6 ≤ (X.1 : Int)) (h : zPR X rf d mem 152 [(2, 0), (0, X.2 (i + 1).toNat)] 239 [(2, 261), (0, X.2 (i + 1).toNat)] Z) (next : ∀ m2, Z m2 → zW X (d + 1) 330 1213 [(3, 0), (2, 0), (2, 261), (0, i)] [] (zty, rf, m2) Q) : zW X (d + 1) 330 287 [(3, 0), (2, 0), (2, 261), (0, i)] [] (zty, rf, mem) Q := by
  refine zW.go 1 288 [(3, 0), (2, 0), (2, 261), (0, i)] [(2, 0)] _ rfl ?_
  refine zW.go 4 292 [(3, 0), (2, 0), (2, 261), (0, i)] [(0, i + 1), (3, 0), (2, 0)] _ rfl ?_
  refine w_sld rfl (by decide) (pc' := 293) rfl (by omega) rfl ?_
  refine w_calli (as := [(2, 0), (0, X.2 (i + 1).toNat)]) [] 296 rfl rfl rfl rfl (Nat.le_of_ble_eq_true rfl) (Nat.le_of_ble_eq_true rfl) (Nat.le_of_ble_eq_true rfl) (Or.inr rfl) (Ci.imp h (fun r1 m1 h => ?_))
  refine zW.go 1 297 [(3, 0), (2, 0), (2, 261), (0, i)] [(2, 261), (0, r1)] _ rfl ?_
  refine zW.go 4 301 [(3, 0), (2, 0), (2, 261), (0, i)] [(0, i + 1), (3, 0), (2, 261), (0, r1)] _ rfl ?_
  refine w_sld rfl (by decide) (pc' := 302) rfl (by omega) rfl ?_
  refine w_calli (as := [(2, 261), (0, X.2 (i + 1).toNat)]) [(0, r1)] 305 rfl rfl rfl rfl (Nat.le_of_ble_eq_true rfl) (Nat.le_of_ble_eq_true rfl) (Nat.le_of_ble_eq_true rfl) (Or.inr rfl) (Ci.imp h (fun r2 m2 h => ?_))
  exact w_ic_eq rfl (by decide) (pc' := 308) rfl h.1 (fun _ => next m2 h.2.2) (fun q => absurd h.2.1 q)
set_option maxRecDepth 4000 in
theorem lc_4 {X : zX} {rf mem : zF} {i : Int} {d : Nat} {Q : Option zV → zS → Prop} {Z : zF → Prop} (hi : 0 ≤ i ∧ i + 6 ≤ (X.1 : Int)) (h : zPR X rf d mem 153 [(2, 0), (0, X.2 (i + 1).toNat)] 273 [(2, 261), (0, X.2 (i + 1).toNat)] Z) (next : ∀ m2, Z m2 → zW X (d + 1) 330 1213 [(3, 0), (2, 0), (2, 261), (0, i)] [] (zty, rf, m2) Q) : zW X (d + 1) 330 310 [(3, 0), (2, 0), (2, 261), (0, i)] [] (zty, rf, mem) Q := by
  refine zW.go 1 311 [(3, 0), (2, 0), (2, 261), (0, i)] [(2, 0)] _ rfl ?_
  refine zW.go 4 315 [(3, 0), (2, 0), (2, 261), (0, i)] [(0, i + 1), (3, 0), (2, 0)] _ rfl ?_
  refine w_sld rfl (by decide) (pc' := 316) rfl (by omega) rfl ?_
  refine w_calli (as := [(2, 0), (0, X.2 (i + 1).toNat)]) [] 319 rfl rfl rfl rfl (Nat.le_of_ble_eq_true rfl) (Nat.le_of_ble_eq_true rfl) (Nat.le_of_ble_eq_true rfl) (Or.inr rfl) (Ci.imp h (fun r1 m1 h => ?_))
  refine zW.go 1 320 [(3, 0), (2, 0), (2, 261), (0, i)] [(2, 261), (0, r1)] _ rfl ?_
  refine zW.go 4 324 [(3, 0), (2, 0), (2, 261), (0, i)] [(0, i + 1), (3, 0), (2, 261), (0, r1)] _ rfl ?_
  refine w_sld rfl (by decide) (pc' := 325) rfl (by omega) rfl ?_
  refine w_calli (as := [(2, 261), (0, X.2 (i + 1).toNat)]) [(0, r1)] 328 rfl rfl rfl rfl (Nat.le_of_ble_eq_true rfl) (Nat.le_of_ble_eq_true rfl) (Nat.le_of_ble_eq_true rfl) (Or.inr rfl) (Ci.imp h (fun r2 m2 h => ?_))
  exact w_ic_eq rfl (by decide) (pc' := 331) rfl h.1 (fun _ => next m2 h.2.2) (fun q => absurd h.2.1 q)
set_option maxRecDepth 4000 in
theorem lc_5 {X : zX} {rf mem : zF} {i : Int} {d : Nat} {Q : Option zV → zS → Prop} {Z : zF → Prop} (hi : 0 ≤ i ∧ i + 6 ≤ (X.1 : Int)) (h : zPR X rf d mem 154 [(2, 0), (0, X.2 (i + 1).toNat), (0, X.2 (i + 2).toNat), (0, X.2 (i + 3).toNat)] 274 [(2, 261), (0, X.2 (i + 1).toNat), (0, X.2 (i + 2).toNat), (0, X.2 (i + 3).toNat)] Z) (next : ∀ m2, Z m2 → zW X (d + 1) 330 1213 [(3, 0), (2, 0), (2, 261), (0, i)] [] (zty, rf, m2) Q) : zW X (d + 1) 330 333 [(3, 0), (2, 0), (2, 261), (0, i)] [] (zty, rf, mem) Q := by
  refine zW.go 1 334 [(3, 0), (2, 0), (2, 261), (0, i)] [(2, 0)] _ rfl ?_
  refine zW.go 4 338 [(3, 0), (2, 0), (2, 261), (0, i)] [(0, i + 1), (3, 0), (2, 0)] _ rfl ?_
  refine w_sld rfl (by decide) (pc' := 339) rfl (by omega) rfl ?_
  refine zW.go 4 343 [(3, 0), (2, 0), (2, 261), (0, i)] [(0, i + 2), (3, 0), (0, X.2 (i + 1).toNat), (2, 0)] _ rfl ?_
  refine w_sld rfl (by decide) (pc' := 344) rfl (by omega) rfl ?_
  refine zW.go 4 348 [(3, 0), (2, 0), (2, 261), (0, i)] [(0, i + 3), (3, 0), (0, X.2 (i + 2).toNat), (0, X.2 (i + 1).toNat), (2, 0)] _ rfl ?_
  refine w_sld rfl (by decide) (pc' := 349) rfl (by omega) rfl ?_
  refine w_calli (as := [(2, 0), (0, X.2 (i + 1).toNat), (0, X.2 (i + 2).toNat), (0, X.2 (i + 3).toNat)]) [] 352 rfl rfl rfl rfl (Nat.le_of_ble_eq_true rfl) (Nat.le_of_ble_eq_true rfl) (Nat.le_of_ble_eq_true rfl) (Or.inr rfl) (Ci.imp h (fun r1 m1 h => ?_))
  refine zW.go 1 353 [(3, 0), (2, 0), (2, 261), (0, i)] [(2, 261), (0, r1)] _ rfl ?_
  refine zW.go 4 357 [(3, 0), (2, 0), (2, 261), (0, i)] [(0, i + 1), (3, 0), (2, 261), (0, r1)] _ rfl ?_
  refine w_sld rfl (by decide) (pc' := 358) rfl (by omega) rfl ?_
  refine zW.go 4 362 [(3, 0), (2, 0), (2, 261), (0, i)] [(0, i + 2), (3, 0), (0, X.2 (i + 1).toNat), (2, 261), (0, r1)] _ rfl ?_
  refine w_sld rfl (by decide) (pc' := 363) rfl (by omega) rfl ?_
  refine zW.go 4 367 [(3, 0), (2, 0), (2, 261), (0, i)] [(0, i + 3), (3, 0), (0, X.2 (i + 2).toNat), (0, X.2 (i + 1).toNat), (2, 261), (0, r1)] _ rfl ?_
  refine w_sld rfl (by decide) (pc' := 368) rfl (by omega) rfl ?_
  refine w_calli (as := [(2, 261), (0, X.2 (i + 1).toNat), (0, X.2 (i + 2).toNat), (0, X.2 (i + 3).toNat)]) [(0, r1)] 371 rfl rfl rfl rfl (Nat.le_of_ble_eq_true rfl) (Nat.le_of_ble_eq_true rfl) (Nat.le_of_ble_eq_true rfl) (Or.inr rfl) (Ci.imp h (fun r2 m2 h => ?_))
  exact w_ic_eq rfl (by decide) (pc' := 374) rfl h.1 (fun _ => next m2 h.2.2) (fun q => absurd h.2.1 q)
set_option maxRecDepth 4000 in
theorem lc_6 {X : zX} {rf mem : zF} {i : Int} {d : Nat} {Q : Option zV → zS → Prop} {Z : zF → Prop} (hi : 0 ≤ i ∧ i + 6 ≤ (X.1 : Int)) (h : zPR X rf d mem 155 [(2, 0), (0, X.2 (i + 1).toNat)] 276 [(2, 261), (0, X.2 (i + 1).toNat)] Z) (next : ∀ m2, Z m2 → zW X (d + 1) 330 1213 [(3, 0), (2, 0), (2, 261), (0, i)] [] (zty, rf, m2) Q) : zW X (d + 1) 330 376 [(3, 0), (2, 0), (2, 261), (0, i)] [] (zty, rf, mem) Q := by
  refine zW.go 1 377 [(3, 0), (2, 0), (2, 261), (0, i)] [(2, 0)] _ rfl ?_
  refine zW.go 4 381 [(3, 0), (2, 0), (2, 261), (0, i)] [(0, i + 1), (3, 0), (2, 0)] _ rfl ?_
  refine w_sld rfl (by decide) (pc' := 382) rfl (by omega) rfl ?_
  refine w_calli (as := [(2, 0), (0, X.2 (i + 1).toNat)]) [] 385 rfl rfl rfl rfl (Nat.le_of_ble_eq_true rfl) (Nat.le_of_ble_eq_true rfl) (Nat.le_of_ble_eq_true rfl) (Or.inr rfl) (Ci.imp h (fun r1 m1 h => ?_))
  refine zW.go 1 386 [(3, 0), (2, 0), (2, 261), (0, i)] [(2, 261), (0, r1)] _ rfl ?_
  refine zW.go 4 390 [(3, 0), (2, 0), (2, 261), (0, i)] [(0, i + 1), (3, 0), (2, 261), (0, r1)] _ rfl ?_
  refine w_sld rfl (by decide) (pc' := 391) rfl (by omega) rfl ?_
  refine w_calli (as := [(2, 261), (0, X.2 (i + 1).toNat)]) [(0, r1)] 394 rfl rfl rfl rfl (Nat.le_of_ble_eq_true rfl) (Nat.le_of_ble_eq_true rfl) (Nat.le_of_ble_eq_true rfl) (Or.inr rfl) (Ci.imp h (fun r2 m2 h => ?_))
  exact w_ic_eq rfl (by decide) (pc' := 397) rfl h.1 (fun _ => next m2 h.2.2) (fun q => absurd h.2.1 q)
set_option maxRecDepth 4000 in
theorem lc_7 {X : zX} {rf mem : zF} {i : Int} {d : Nat} {Q : Option zV → zS → Prop} {Z : zF → Prop} (hi : 0 ≤ i ∧ i + 6 ≤ (X.1 : Int)) (h : zPR X rf d mem 156 [(2, 0), (0, X.2 (i + 1).toNat), (0, X.2 (i + 2).toNat)] 277 [(2, 261), (0, X.2 (i + 1).toNat), (0, X.2 (i + 2).toNat)] Z) (next : ∀ m2, Z m2 → zW X (d + 1) 330 1213 [(3, 0), (2, 0), (2, 261), (0, i)] [] (zty, rf, m2) Q) : zW X (d + 1) 330 399 [(3, 0), (2, 0), (2, 261), (0, i)] [] (zty, rf, mem) Q := by
  refine zW.go 1 400 [(3, 0), (2, 0), (2, 261), (0, i)] [(2, 0)] _ rfl ?_
  refine zW.go 4 404 [(3, 0), (2, 0), (2, 261), (0, i)] [(0, i + 1), (3, 0), (2, 0)] _ rfl ?_
  refine w_sld rfl (by decide) (pc' := 405) rfl (by omega) rfl ?_
  refine zW.go 4 409 [(3, 0), (2, 0), (2, 261), (0, i)] [(0, i + 2), (3, 0), (0, X.2 (i + 1).toNat), (2, 0)] _ rfl ?_
  refine w_sld rfl (by decide) (pc' := 410) rfl (by omega) rfl ?_
  refine w_calli (as := [(2, 0), (0, X.2 (i + 1).toNat), (0, X.2 (i + 2).toNat)]) [] 413 rfl rfl rfl rfl (Nat.le_of_ble_eq_true rfl) (Nat.le_of_ble_eq_true rfl) (Nat.le_of_ble_eq_true rfl) (Or.inr rfl) (Ci.imp h (fun r1 m1 h => ?_))
  refine zW.go 1 414 [(3, 0), (2, 0), (2, 261), (0, i)] [(2, 261), (0, r1)] _ rfl ?_
  refine zW.go 4 418 [(3, 0), (2, 0), (2, 261), (0, i)] [(0, i + 1), (3, 0), (2, 261), (0, r1)] _ rfl ?_
  refine w_sld rfl (by decide) (pc' := 419) rfl (by omega) rfl ?_
  refine zW.go 4 423 [(3, 0), (2, 0), (2, 261), (0, i)] [(0, i + 2), (3, 0), (0, X.2 (i + 1).toNat), (2, 261), (0, r1)] _ rfl ?_
  refine w_sld rfl (by decide) (pc' := 424) rfl (by omega) rfl ?_
  refine w_calli (as := [(2, 261), (0, X.2 (i + 1).toNat), (0, X.2 (i + 2).toNat)]) [(0, r1)] 427 rfl rfl rfl rfl (Nat.le_of_ble_eq_true rfl) (Nat.le_of_ble_eq_true rfl) (Nat.le_of_ble_eq_true rfl) (Or.inr rfl) (Ci.imp h (fun r2 m2 h => ?_))
  exact w_ic_eq rfl (by decide) (pc' := 430) rfl h.1 (fun _ => next m2 h.2.2) (fun q => absurd h.2.1 q)
set_option maxRecDepth 4000 in
theorem lc_8 {X : zX} {rf mem : zF} {i : Int} {d : Nat} {Q : Option zV → zS → Prop} {Z : zF → Prop} (hi : 0 ≤ i ∧ i + 6 ≤ (X.1 : Int)) (h : zPR X rf d mem 157 [(2, 0), (0, X.2 (i + 1).toNat), (0, X.2 (i + 2).toNat)] 279 [(2, 261), (0, X.2 (i + 1).toNat), (0, X.2 (i + 2).toNat)] Z) (next : ∀ m2, Z m2 → zW X (d + 1) 330 1213 [(3, 0), (2, 0), (2, 261), (0, i)] [] (zty, rf, m2) Q) : zW X (d + 1) 330 432 [(3, 0), (2, 0), (2, 261), (0, i)] [] (zty, rf, mem) Q := by
  refine zW.go 1 433 [(3, 0), (2, 0), (2, 261), (0, i)] [(2, 0)] _ rfl ?_
  refine zW.go 4 437 [(3, 0), (2, 0), (2, 261), (0, i)] [(0, i + 1), (3, 0), (2, 0)] _ rfl ?_
  refine w_sld rfl (by decide) (pc' := 438) rfl (by omega) rfl ?_
  refine zW.go 4 442 [(3, 0), (2, 0), (2, 261), (0, i)] [(0, i + 2), (3, 0), (0, X.2 (i + 1).toNat), (2, 0)] _ rfl ?_
  refine w_sld rfl (by decide) (pc' := 443) rfl (by omega) rfl ?_
  refine w_calli (as := [(2, 0), (0, X.2 (i + 1).toNat), (0, X.2 (i + 2).toNat)]) [] 446 rfl rfl rfl rfl (Nat.le_of_ble_eq_true rfl) (Nat.le_of_ble_eq_true rfl) (Nat.le_of_ble_eq_true rfl) (Or.inr rfl) (Ci.imp h (fun r1 m1 h => ?_))
  refine zW.go 1 447 [(3, 0), (2, 0), (2, 261), (0, i)] [(2, 261), (0, r1)] _ rfl ?_
  refine zW.go 4 451 [(3, 0), (2, 0), (2, 261), (0, i)] [(0, i + 1), (3, 0), (2, 261), (0, r1)] _ rfl ?_
  refine w_sld rfl (by decide) (pc' := 452) rfl (by omega) rfl ?_
  refine zW.go 4 456 [(3, 0), (2, 0), (2, 261), (0, i)] [(0, i + 2), (3, 0), (0, X.2 (i + 1).toNat), (2, 261), (0, r1)] _ rfl ?_
  refine w_sld rfl (by decide) (pc' := 457) rfl (by omega) rfl ?_
  refine w_calli (as := [(2, 261), (0, X.2 (i + 1).toNat), (0, X.2 (i + 2).toNat)]) [(0, r1)] 460 rfl rfl rfl rfl (Nat.le_of_ble_eq_true rfl) (Nat.le_of_ble_eq_true rfl) (Nat.le_of_ble_eq_true rfl) (Or.inr rfl) (Ci.imp h (fun r2 m2 h => ?_))
  exact w_ic_eq rfl (by decide) (pc' := 463) rfl h.1 (fun _ => next m2 h.2.2) (fun q => absurd h.2.1 q)
set_option maxRecDepth 4000 in
theorem lc_9 {X : zX} {rf mem : zF} {i : Int} {d : Nat} {Q : Option zV → zS → Prop} {Z : zF → Prop} (hi : 0 ≤ i ∧ i + 6 ≤ (X.1 : Int)) (h : zPR X rf d mem 158 [(2, 0), (0, X.2 (i + 1).toNat), (0, X.2 (i + 2).toNat)] 280 [(2, 261), (0, X.2 (i + 1).toNat), (0, X.2 (i + 2).toNat)] Z) (next : ∀ m2, Z m2 → zW X (d + 1) 330 1213 [(3, 0), (2, 0), (2, 261), (0, i)] [] (zty, rf, m2) Q) : zW X (d + 1) 330 465 [(3, 0), (2, 0), (2, 261), (0, i)] [] (zty, rf, mem) Q := by
  refine zW.go 1 466 [(3, 0), (2, 0), (2, 261), (0, i)] [(2, 0)] _ rfl ?_
  refine zW.go 4 470 [(3, 0), (2, 0), (2, 261), (0, i)] [(0, i + 1), (3, 0), (2, 0)] _ rfl ?_
  refine w_sld rfl (by decide) (pc' := 471) rfl (by omega) rfl ?_
  refine zW.go 4 475 [(3, 0), (2, 0), (2, 261), (0, i)] [(0, i + 2), (3, 0), (0, X.2 (i + 1).toNat), (2, 0)] _ rfl ?_
  refine w_sld rfl (by decide) (pc' := 476) rfl (by omega) rfl ?_
  refine w_calli (as := [(2, 0), (0, X.2 (i + 1).toNat), (0, X.2 (i + 2).toNat)]) [] 479 rfl rfl rfl rfl (Nat.le_of_ble_eq_true rfl) (Nat.le_of_ble_eq_true rfl) (Nat.le_of_ble_eq_true rfl) (Or.inr rfl) (Ci.imp h (fun r1 m1 h => ?_))
  refine zW.go 1 480 [(3, 0), (2, 0), (2, 261), (0, i)] [(2, 261), (0, r1)] _ rfl ?_
  refine zW.go 4 484 [(3, 0), (2, 0), (2, 261), (0, i)] [(0, i + 1), (3, 0), (2, 261), (0, r1)] _ rfl ?_
  refine w_sld rfl (by decide) (pc' := 485) rfl (by omega) rfl ?_
  refine zW.go 4 489 [(3, 0), (2, 0), (2, 261), (0, i)] [(0, i + 2), (3, 0), (0, X.2 (i + 1).toNat), (2, 261), (0, r1)] _ rfl ?_
  refine w_sld rfl (by decide) (pc' := 490) rfl (by omega) rfl ?_
  refine w_calli (as := [(2, 261), (0, X.2 (i + 1).toNat), (0, X.2 (i + 2).toNat)]) [(0, r1)] 493 rfl rfl rfl rfl (Nat.le_of_ble_eq_true rfl) (Nat.le_of_ble_eq_true rfl) (Nat.le_of_ble_eq_true rfl) (Or.inr rfl) (Ci.imp h (fun r2 m2 h => ?_))
  exact w_ic_eq rfl (by decide) (pc' := 496) rfl h.1 (fun _ => next m2 h.2.2) (fun q => absurd h.2.1 q)
set_option maxRecDepth 4000 in
theorem lc_10 {X : zX} {rf mem : zF} {i : Int} {d : Nat} {Q : Option zV → zS → Prop} {Z : zF → Prop} (hi : 0 ≤ i ∧ i + 6 ≤ (X.1 : Int)) (h : zPR X rf d mem 159 [(2, 0), (0, X.2 (i + 1).toNat), (0, X.2 (i + 2).toNat)] 281 [(2, 261), (0, X.2 (i + 1).toNat), (0, X.2 (i + 2).toNat)] Z) (next : ∀ m2, Z m2 → zW X (d + 1) 330 1213 [(3, 0), (2, 0), (2, 261), (0, i)] [] (zty, rf, m2) Q) : zW X (d + 1) 330 498 [(3, 0), (2, 0), (2, 261), (0, i)] [] (zty, rf, mem) Q := by
  refine zW.go 1 499 [(3, 0), (2, 0), (2, 261), (0, i)] [(2, 0)] _ rfl ?_
  refine zW.go 4 503 [(3, 0), (2, 0), (2, 261), (0, i)] [(0, i + 1), (3, 0), (2, 0)] _ rfl ?_
  refine w_sld rfl (by decide) (pc' := 504) rfl (by omega) rfl ?_
  refine zW.go 4 508 [(3, 0), (2, 0), (2, 261), (0, i)] [(0, i + 2), (3, 0), (0, X.2 (i + 1).toNat), (2, 0)] _ rfl ?_
  refine w_sld rfl (by decide) (pc' := 509) rfl (by omega) rfl ?_
  refine w_calli (as := [(2, 0), (0, X.2 (i + 1).toNat), (0, X.2 (i + 2).toNat)]) [] 512 rfl rfl rfl rfl (Nat.le_of_ble_eq_true rfl) (Nat.le_of_ble_eq_true rfl) (Nat.le_of_ble_eq_true rfl) (Or.inr rfl) (Ci.imp h (fun r1 m1 h => ?_))
  refine zW.go 1 513 [(3, 0), (2, 0), (2, 261), (0, i)] [(2, 261), (0, r1)] _ rfl ?_
  refine zW.go 4 517 [(3, 0), (2, 0), (2, 261), (0, i)] [(0, i + 1), (3, 0), (2, 261), (0, r1)] _ rfl ?_
  refine w_sld rfl (by decide) (pc' := 518) rfl (by omega) rfl ?_
  refine zW.go 4 522 [(3, 0), (2, 0), (2, 261), (0, i)] [(0, i + 2), (3, 0), (0, X.2 (i + 1).toNat), (2, 261), (0, r1)] _ rfl ?_
  refine w_sld rfl (by decide) (pc' := 523) rfl (by omega) rfl ?_
  refine w_calli (as := [(2, 261), (0, X.2 (i + 1).toNat), (0, X.2 (i + 2).toNat)]) [(0, r1)] 526 rfl rfl rfl rfl (Nat.le_of_ble_eq_true rfl) (Nat.le_of_ble_eq_true rfl) (Nat.le_of_ble_eq_true rfl) (Or.inr rfl) (Ci.imp h (fun r2 m2 h => ?_))
  exact w_ic_eq rfl (by decide) (pc' := 529) rfl h.1 (fun _ => next m2 h.2.2) (fun q => absurd h.2.1 q)
set_option maxRecDepth 4000 in
theorem lc_11 {X : zX} {rf mem : zF} {i : Int} {d : Nat} {Q : Option zV → zS → Prop} {Z : zF → Prop} (hi : 0 ≤ i ∧ i + 6 ≤ (X.1 : Int)) (h : zPR X rf d mem 160 [(2, 0), (0, X.2 (i + 1).toNat), (0, X.2 (i + 2).toNat)] 282 [(2, 261), (0, X.2 (i + 1).toNat), (0, X.2 (i + 2).toNat)] Z) (next : ∀ m2, Z m2 → zW X (d + 1) 330 1213 [(3, 0), (2, 0), (2, 261), (0, i)] [] (zty, rf, m2) Q) : zW X (d + 1) 330 531 [(3, 0), (2, 0), (2, 261), (0, i)] [] (zty, rf, mem) Q := by
  refine zW.go 1 532 [(3, 0), (2, 0), (2, 261), (0, i)] [(2, 0)] _ rfl ?_
  refine zW.go 4 536 [(3, 0), (2, 0), (2, 261), (0, i)] [(0, i + 1), (3, 0), (2, 0)] _ rfl ?_
  refine w_sld rfl (by decide) (pc' := 537) rfl (by omega) rfl ?_
  refine zW.go 4 541 [(3, 0), (2, 0), (2, 261), (0, i)] [(0, i + 2), (3, 0), (0, X.2 (i + 1).toNat), (2, 0)] _ rfl ?_
  refine w_sld rfl (by decide) (pc' := 542) rfl (by omega) rfl ?_
  refine w_calli (as := [(2, 0), (0, X.2 (i + 1).toNat), (0, X.2 (i + 2).toNat)]) [] 545 rfl rfl rfl rfl (Nat.le_of_ble_eq_true rfl) (Nat.le_of_ble_eq_true rfl) (Nat.le_of_ble_eq_true rfl) (Or.inr rfl) (Ci.imp h (fun r1 m1 h => ?_))
  refine zW.go 1 546 [(3, 0), (2, 0), (2, 261), (0, i)] [(2, 261), (0, r1)] _ rfl ?_
  refine zW.go 4 550 [(3, 0), (2, 0), (2, 261), (0, i)] [(0, i + 1), (3, 0), (2, 261), (0, r1)] _ rfl ?_
  refine w_sld rfl (by decide) (pc' := 551) rfl (by omega) rfl ?_
  refine zW.go 4 555 [(3, 0), (2, 0), (2, 261), (0, i)] [(0, i + 2), (3, 0), (0, X.2 (i + 1).toNat), (2, 261), (0, r1)] _ rfl ?_
  refine w_sld rfl (by decide) (pc' := 556) rfl (by omega) rfl ?_
  refine w_calli (as := [(2, 261), (0, X.2 (i + 1).toNat), (0, X.2 (i + 2).toNat)]) [(0, r1)] 559 rfl rfl rfl rfl (Nat.le_of_ble_eq_true rfl) (Nat.le_of_ble_eq_true rfl) (Nat.le_of_ble_eq_true rfl) (Or.inr rfl) (Ci.imp h (fun r2 m2 h => ?_))
  exact w_ic_eq rfl (by decide) (pc' := 562) rfl h.1 (fun _ => next m2 h.2.2) (fun q => absurd h.2.1 q)
set_option maxRecDepth 4000 in
theorem lc_12 {X : zX} {rf mem : zF} {i : Int} {d : Nat} {Q : Option zV → zS → Prop} {Z : zF → Prop} (hi : 0 ≤ i ∧ i + 6 ≤ (X.1 : Int)) (h : zPR X rf d mem 161 [(2, 0), (0, X.2 (i + 1).toNat), (0, X.2 (i + 2).toNat), (0, X.2 (i + 3).toNat)] 285 [(2, 261), (0, X.2 (i + 1).toNat), (0, X.2 (i + 2).toNat), (0, X.2 (i + 3).toNat)] Z) (next : ∀ m2, Z m2 → zW X (d + 1) 330 1213 [(3, 0), (2, 0), (2, 261), (0, i)] [] (zty, rf, m2) Q) : zW X (d + 1) 330 564 [(3, 0), (2, 0), (2, 261), (0, i)] [] (zty, rf, mem) Q := by
  refine zW.go 1 565 [(3, 0), (2, 0), (2, 261), (0, i)] [(2, 0)] _ rfl ?_
  refine zW.go 4 569 [(3, 0), (2, 0), (2, 261), (0, i)] [(0, i + 1), (3, 0), (2, 0)] _ rfl ?_
  refine w_sld rfl (by decide) (pc' := 570) rfl (by omega) rfl ?_
  refine zW.go 4 574 [(3, 0), (2, 0), (2, 261), (0, i)] [(0, i + 2), (3, 0), (0, X.2 (i + 1).toNat), (2, 0)] _ rfl ?_
  refine w_sld rfl (by decide) (pc' := 575) rfl (by omega) rfl ?_
  refine zW.go 4 579 [(3, 0), (2, 0), (2, 261), (0, i)] [(0, i + 3), (3, 0), (0, X.2 (i + 2).toNat), (0, X.2 (i + 1).toNat), (2, 0)] _ rfl ?_
  refine w_sld rfl (by decide) (pc' := 580) rfl (by omega) rfl ?_
  refine w_calli (as := [(2, 0), (0, X.2 (i + 1).toNat), (0, X.2 (i + 2).toNat), (0, X.2 (i + 3).toNat)]) [] 583 rfl rfl rfl rfl (Nat.le_of_ble_eq_true rfl) (Nat.le_of_ble_eq_true rfl) (Nat.le_of_ble_eq_true rfl) (Or.inr rfl) (Ci.imp h (fun r1 m1 h => ?_))
  refine zW.go 1 584 [(3, 0), (2, 0), (2, 261), (0, i)] [(2, 261), (0, r1)] _ rfl ?_
  refine zW.go 4 588 [(3, 0), (2, 0), (2, 261), (0, i)] [(0, i + 1), (3, 0), (2, 261), (0, r1)] _ rfl ?_
  refine w_sld rfl (by decide) (pc' := 589) rfl (by omega) rfl ?_
  refine zW.go 4 593 [(3, 0), (2, 0), (2, 261), (0, i)] [(0, i + 2), (3, 0), (0, X.2 (i + 1).toNat), (2, 261), (0, r1)] _ rfl ?_
  refine w_sld rfl (by decide) (pc' := 594) rfl (by omega) rfl ?_
  refine zW.go 4 598 [(3, 0), (2, 0), (2, 261), (0, i)] [(0, i + 3), (3, 0), (0, X.2 (i + 2).toNat), (0, X.2 (i + 1).toNat), (2, 261), (0, r1)] _ rfl ?_
  refine w_sld rfl (by decide) (pc' := 599) rfl (by omega) rfl ?_
  refine w_calli (as := [(2, 261), (0, X.2 (i + 1).toNat), (0, X.2 (i + 2).toNat), (0, X.2 (i + 3).toNat)]) [(0, r1)] 602 rfl rfl rfl rfl (Nat.le_of_ble_eq_true rfl) (Nat.le_of_ble_eq_true rfl) (Nat.le_of_ble_eq_true rfl) (Or.inr rfl) (Ci.imp h (fun r2 m2 h => ?_))
  exact w_ic_eq rfl (by decide) (pc' := 605) rfl h.1 (fun _ => next m2 h.2.2) (fun q => absurd h.2.1 q)
set_option maxRecDepth 4000 in
theorem lc_13 {X : zX} {rf mem : zF} {i : Int} {d : Nat} {Q : Option zV → zS → Prop} {Z : zF → Prop} (hi : 0 ≤ i ∧ i + 6 ≤ (X.1 : Int)) (h : zPR X rf d mem 162 [(2, 0), (0, X.2 (i + 1).toNat)] 286 [(2, 261), (0, X.2 (i + 1).toNat)] Z) (next : ∀ m2, Z m2 → zW X (d + 1) 330 1213 [(3, 0), (2, 0), (2, 261), (0, i)] [] (zty, rf, m2) Q) : zW X (d + 1) 330 607 [(3, 0), (2, 0), (2, 261), (0, i)] [] (zty, rf, mem) Q := by
  refine zW.go 1 608 [(3, 0), (2, 0), (2, 261), (0, i)] [(2, 0)] _ rfl ?_
  refine zW.go 4 612 [(3, 0), (2, 0), (2, 261), (0, i)] [(0, i + 1), (3, 0), (2, 0)] _ rfl ?_
  refine w_sld rfl (by decide) (pc' := 613) rfl (by omega) rfl ?_
  refine w_calli (as := [(2, 0), (0, X.2 (i + 1).toNat)]) [] 616 rfl rfl rfl rfl (Nat.le_of_ble_eq_true rfl) (Nat.le_of_ble_eq_true rfl) (Nat.le_of_ble_eq_true rfl) (Or.inr rfl) (Ci.imp h (fun r1 m1 h => ?_))
  refine zW.go 1 617 [(3, 0), (2, 0), (2, 261), (0, i)] [(2, 261), (0, r1)] _ rfl ?_
  refine zW.go 4 621 [(3, 0), (2, 0), (2, 261), (0, i)] [(0, i + 1), (3, 0), (2, 261), (0, r1)] _ rfl ?_
  refine w_sld rfl (by decide) (pc' := 622) rfl (by omega) rfl ?_
  refine w_calli (as := [(2, 261), (0, X.2 (i + 1).toNat)]) [(0, r1)] 625 rfl rfl rfl rfl (Nat.le_of_ble_eq_true rfl) (Nat.le_of_ble_eq_true rfl) (Nat.le_of_ble_eq_true rfl) (Or.inr rfl) (Ci.imp h (fun r2 m2 h => ?_))
  exact w_ic_eq rfl (by decide) (pc' := 628) rfl h.1 (fun _ => next m2 h.2.2) (fun q => absurd h.2.1 q)
set_option maxRecDepth 4000 in
theorem lc_14 {X : zX} {rf mem : zF} {i : Int} {d : Nat} {Q : Option zV → zS → Prop} {Z : zF → Prop} (hi : 0 ≤ i ∧ i + 6 ≤ (X.1 : Int)) (h : zPR X rf d mem 163 [(2, 0), (0, X.2 (i + 1).toNat), (0, X.2 (i + 2).toNat)] 287 [(2, 261), (0, X.2 (i + 1).toNat), (0, X.2 (i + 2).toNat)] Z) (next : ∀ m2, Z m2 → zW X (d + 1) 330 1213 [(3, 0), (2, 0), (2, 261), (0, i)] [] (zty, rf, m2) Q) : zW X (d + 1) 330 630 [(3, 0), (2, 0), (2, 261), (0, i)] [] (zty, rf, mem) Q := by
  refine zW.go 1 631 [(3, 0), (2, 0), (2, 261), (0, i)] [(2, 0)] _ rfl ?_
  refine zW.go 4 635 [(3, 0), (2, 0), (2, 261), (0, i)] [(0, i + 1), (3, 0), (2, 0)] _ rfl ?_
  refine w_sld rfl (by decide) (pc' := 636) rfl (by omega) rfl ?_
  refine zW.go 4 640 [(3, 0), (2, 0), (2, 261), (0, i)] [(0, i + 2), (3, 0), (0, X.2 (i + 1).toNat), (2, 0)] _ rfl ?_
  refine w_sld rfl (by decide) (pc' := 641) rfl (by omega) rfl ?_
  refine w_calli (as := [(2, 0), (0, X.2 (i + 1).toNat), (0, X.2 (i + 2).toNat)]) [] 644 rfl rfl rfl rfl (Nat.le_of_ble_eq_true rfl) (Nat.le_of_ble_eq_true rfl) (Nat.le_of_ble_eq_true rfl) (Or.inr rfl) (Ci.imp h (fun r1 m1 h => ?_))
  refine zW.go 1 645 [(3, 0), (2, 0), (2, 261), (0, i)] [(2, 261), (0, r1)] _ rfl ?_
  refine zW.go 4 649 [(3, 0), (2, 0), (2, 261), (0, i)] [(0, i + 1), (3, 0), (2, 261), (0, r1)] _ rfl ?_
  refine w_sld rfl (by decide) (pc' := 650) rfl (by omega) rfl ?_
  refine zW.go 4 654 [(3, 0), (2, 0), (2, 261), (0, i)] [(0, i + 2), (3, 0), (0, X.2 (i + 1).toNat), (2, 261), (0, r1)] _ rfl ?_
  refine w_sld rfl (by decide) (pc' := 655) rfl (by omega) rfl ?_
  refine w_calli (as := [(2, 261), (0, X.2 (i + 1).toNat), (0, X.2 (i + 2).toNat)]) [(0, r1)] 658 rfl rfl rfl rfl (Nat.le_of_ble_eq_true rfl) (Nat.le_of_ble_eq_true rfl) (Nat.le_of_ble_eq_true rfl) (Or.inr rfl) (Ci.imp h (fun r2 m2 h => ?_))
  exact w_ic_eq rfl (by decide) (pc' := 661) rfl h.1 (fun _ => next m2 h.2.2) (fun q => absurd h.2.1 q)
set_option maxRecDepth 4000 in
theorem lc_15 {X : zX} {rf mem : zF} {i : Int} {d : Nat} {Q : Option zV → zS → Prop} {Z : zF → Prop} (hi : 0 ≤ i ∧ i + 6 ≤ (X.1 : Int)) (h : zPR X rf d mem 164 [(2, 0), (0, X.2 (i + 1).toNat), (0, X.2 (i + 2).toNat), (0, X.2 (i + 3).toNat)] 288 [(2, 261), (0, X.2 (i + 1).toNat), (0, X.2 (i + 2).toNat), (0, X.2 (i + 3).toNat)] Z) (next : ∀ m2, Z m2 → zW X (d + 1) 330 1213 [(3, 0), (2, 0), (2, 261), (0, i)] [] (zty, rf, m2) Q) : zW X (d + 1) 330 663 [(3, 0), (2, 0), (2, 261), (0, i)] [] (zty, rf, mem) Q := by
  refine zW.go 1 664 [(3, 0), (2, 0), (2, 261), (0, i)] [(2, 0)] _ rfl ?_
  refine zW.go 4 668 [(3, 0), (2, 0), (2, 261), (0, i)] [(0, i + 1), (3, 0), (2, 0)] _ rfl ?_
  refine w_sld rfl (by decide) (pc' := 669) rfl (by omega) rfl ?_
  refine zW.go 4 673 [(3, 0), (2, 0), (2, 261), (0, i)] [(0, i + 2), (3, 0), (0, X.2 (i + 1).toNat), (2, 0)] _ rfl ?_
  refine w_sld rfl (by decide) (pc' := 674) rfl (by omega) rfl ?_
  refine zW.go 4 678 [(3, 0), (2, 0), (2, 261), (0, i)] [(0, i + 3), (3, 0), (0, X.2 (i + 2).toNat), (0, X.2 (i + 1).toNat), (2, 0)] _ rfl ?_
  refine w_sld rfl (by decide) (pc' := 679) rfl (by omega) rfl ?_
  refine w_calli (as := [(2, 0), (0, X.2 (i + 1).toNat), (0, X.2 (i + 2).toNat), (0, X.2 (i + 3).toNat)]) [] 682 rfl rfl rfl rfl (Nat.le_of_ble_eq_true rfl) (Nat.le_of_ble_eq_true rfl) (Nat.le_of_ble_eq_true rfl) (Or.inr rfl) (Ci.imp h (fun r1 m1 h => ?_))
  refine zW.go 1 683 [(3, 0), (2, 0), (2, 261), (0, i)] [(2, 261), (0, r1)] _ rfl ?_
  refine zW.go 4 687 [(3, 0), (2, 0), (2, 261), (0, i)] [(0, i + 1), (3, 0), (2, 261), (0, r1)] _ rfl ?_
  refine w_sld rfl (by decide) (pc' := 688) rfl (by omega) rfl ?_
  refine zW.go 4 692 [(3, 0), (2, 0), (2, 261), (0, i)] [(0, i + 2), (3, 0), (0, X.2 (i + 1).toNat), (2, 261), (0, r1)] _ rfl ?_
  refine w_sld rfl (by decide) (pc' := 693) rfl (by omega) rfl ?_
  refine zW.go 4 697 [(3, 0), (2, 0), (2, 261), (0, i)] [(0, i + 3), (3, 0), (0, X.2 (i + 2).toNat), (0, X.2 (i + 1).toNat), (2, 261), (0, r1)] _ rfl ?_
  refine w_sld rfl (by decide) (pc' := 698) rfl (by omega) rfl ?_
  refine w_calli (as := [(2, 261), (0, X.2 (i + 1).toNat), (0, X.2 (i + 2).toNat), (0, X.2 (i + 3).toNat)]) [(0, r1)] 701 rfl rfl rfl rfl (Nat.le_of_ble_eq_true rfl) (Nat.le_of_ble_eq_true rfl) (Nat.le_of_ble_eq_true rfl) (Or.inr rfl) (Ci.imp h (fun r2 m2 h => ?_))
  exact w_ic_eq rfl (by decide) (pc' := 704) rfl h.1 (fun _ => next m2 h.2.2) (fun q => absurd h.2.1 q)
set_option maxRecDepth 4000 in
theorem lc_16 {X : zX} {rf mem : zF} {i : Int} {d : Nat} {Q : Option zV → zS → Prop} {Z : zF → Prop} (hi : 0 ≤ i ∧ i + 6 ≤ (X.1 : Int)) (h : zPR X rf d mem 165 [(2, 0), (0, X.2 (i + 1).toNat), (0, X.2 (i + 2).toNat), (0, X.2 (i + 3).toNat)] 289 [(2, 261), (0, X.2 (i + 1).toNat), (0, X.2 (i + 2).toNat), (0, X.2 (i + 3).toNat)] Z) (next : ∀ m2, Z m2 → zW X (d + 1) 330 1213 [(3, 0), (2, 0), (2, 261), (0, i)] [] (zty, rf, m2) Q) : zW X (d + 1) 330 706 [(3, 0), (2, 0), (2, 261), (0, i)] [] (zty, rf, mem) Q := by
  refine zW.go 1 707 [(3, 0), (2, 0), (2, 261), (0, i)] [(2, 0)] _ rfl ?_
  refine zW.go 4 711 [(3, 0), (2, 0), (2, 261), (0, i)] [(0, i + 1), (3, 0), (2, 0)] _ rfl ?_
  refine w_sld rfl (by decide) (pc' := 712) rfl (by omega) rfl ?_
  refine zW.go 4 716 [(3, 0), (2, 0), (2, 261), (0, i)] [(0, i + 2), (3, 0), (0, X.2 (i + 1).toNat), (2, 0)] _ rfl ?_
  refine w_sld rfl (by decide) (pc' := 717) rfl (by omega) rfl ?_
  refine zW.go 4 721 [(3, 0), (2, 0), (2, 261), (0, i)] [(0, i + 3), (3, 0), (0, X.2 (i + 2).toNat), (0, X.2 (i + 1).toNat), (2, 0)] _ rfl ?_
  refine w_sld rfl (by decide) (pc' := 722) rfl (by omega) rfl ?_
  refine w_calli (as := [(2, 0), (0, X.2 (i + 1).toNat), (0, X.2 (i + 2).toNat), (0, X.2 (i + 3).toNat)]) [] 725 rfl rfl rfl rfl (Nat.le_of_ble_eq_true rfl) (Nat.le_of_ble_eq_true rfl) (Nat.le_of_ble_eq_true rfl) (Or.inr rfl) (Ci.imp h (fun r1 m1 h => ?_))
  refine zW.go 1 726 [(3, 0), (2, 0), (2, 261), (0, i)] [(2, 261), (0, r1)] _ rfl ?_
  refine zW.go 4 730 [(3, 0), (2, 0), (2, 261), (0, i)] [(0, i + 1), (3, 0), (2, 261), (0, r1)] _ rfl ?_
  refine w_sld rfl (by decide) (pc' := 731) rfl (by omega) rfl ?_
  refine zW.go 4 735 [(3, 0), (2, 0), (2, 261), (0, i)] [(0, i + 2), (3, 0), (0, X.2 (i + 1).toNat), (2, 261), (0, r1)] _ rfl ?_
  refine w_sld rfl (by decide) (pc' := 736) rfl (by omega) rfl ?_
  refine zW.go 4 740 [(3, 0), (2, 0), (2, 261), (0, i)] [(0, i + 3), (3, 0), (0, X.2 (i + 2).toNat), (0, X.2 (i + 1).toNat), (2, 261), (0, r1)] _ rfl ?_
  refine w_sld rfl (by decide) (pc' := 741) rfl (by omega) rfl ?_
  refine w_calli (as := [(2, 261), (0, X.2 (i + 1).toNat), (0, X.2 (i + 2).toNat), (0, X.2 (i + 3).toNat)]) [(0, r1)] 744 rfl rfl rfl rfl (Nat.le_of_ble_eq_true rfl) (Nat.le_of_ble_eq_true rfl) (Nat.le_of_ble_eq_true rfl) (Or.inr rfl) (Ci.imp h (fun r2 m2 h => ?_))
  exact w_ic_eq rfl (by decide) (pc' := 747) rfl h.1 (fun _ => next m2 h.2.2) (fun q => absurd h.2.1 q)
set_option maxRecDepth 4000 in
theorem lc_17 {X : zX} {rf mem : zF} {i : Int} {d : Nat} {Q : Option zV → zS → Prop} {Z : zF → Prop} (hi : 0 ≤ i ∧ i + 6 ≤ (X.1 : Int)) (h : zPR X rf d mem 166 [(2, 0), (0, X.2 (i + 1).toNat), (0, X.2 (i + 2).toNat)] 290 [(2, 261), (0, X.2 (i + 1).toNat), (0, X.2 (i + 2).toNat)] Z) (next : ∀ m2, Z m2 → zW X (d + 1) 330 1213 [(3, 0), (2, 0), (2, 261), (0, i)] [] (zty, rf, m2) Q) : zW X (d + 1) 330 749 [(3, 0), (2, 0), (2, 261), (0, i)] [] (zty, rf, mem) Q := by
  refine zW.go 1 750 [(3, 0), (2, 0), (2, 261), (0, i)] [(2, 0)] _ rfl ?_
  refine zW.go 4 754 [(3, 0), (2, 0), (2, 261), (0, i)] [(0, i + 1), (3, 0), (2, 0)] _ rfl ?_
  refine w_sld rfl (by decide) (pc' := 755) rfl (by omega) rfl ?_
  refine zW.go 4 759 [(3, 0), (2, 0), (2, 261), (0, i)] [(0, i + 2), (3, 0), (0, X.2 (i + 1).toNat), (2, 0)] _ rfl ?_
  refine w_sld rfl (by decide) (pc' := 760) rfl (by omega) rfl ?_
  refine w_calli (as := [(2, 0), (0, X.2 (i + 1).toNat), (0, X.2 (i + 2).toNat)]) [] 763 rfl rfl rfl rfl (Nat.le_of_ble_eq_true rfl) (Nat.le_of_ble_eq_true rfl) (Nat.le_of_ble_eq_true rfl) (Or.inr rfl) (Ci.imp h (fun r1 m1 h => ?_))
  refine zW.go 1 764 [(3, 0), (2, 0), (2, 261), (0, i)] [(2, 261), (0, r1)] _ rfl ?_
  refine zW.go 4 768 [(3, 0), (2, 0), (2, 261), (0, i)] [(0, i + 1), (3, 0), (2, 261), (0, r1)] _ rfl ?_
  refine w_sld rfl (by decide) (pc' := 769) rfl (by omega) rfl ?_
  refine zW.go 4 773 [(3, 0), (2, 0), (2, 261), (0, i)] [(0, i + 2), (3, 0), (0, X.2 (i + 1).toNat), (2, 261), (0, r1)] _ rfl ?_
  refine w_sld rfl (by decide) (pc' := 774) rfl (by omega) rfl ?_
  refine w_calli (as := [(2, 261), (0, X.2 (i + 1).toNat), (0, X.2 (i + 2).toNat)]) [(0, r1)] 777 rfl rfl rfl rfl (Nat.le_of_ble_eq_true rfl) (Nat.le_of_ble_eq_true rfl) (Nat.le_of_ble_eq_true rfl) (Or.inr rfl) (Ci.imp h (fun r2 m2 h => ?_))
  exact w_ic_eq rfl (by decide) (pc' := 780) rfl h.1 (fun _ => next m2 h.2.2) (fun q => absurd h.2.1 q)
set_option maxRecDepth 4000 in
theorem lc_18 {X : zX} {rf mem : zF} {i : Int} {d : Nat} {Q : Option zV → zS → Prop} {Z : zF → Prop} (hi : 0 ≤ i ∧ i + 6 ≤ (X.1 : Int)) (h : zPR X rf d mem 167 [(2, 0), (0, X.2 (i + 1).toNat), (0, X.2 (i + 2).toNat)] 291 [(2, 261), (0, X.2 (i + 1).toNat), (0, X.2 (i + 2).toNat)] Z) (next : ∀ m2, Z m2 → zW X (d + 1) 330 1213 [(3, 0), (2, 0), (2, 261), (0, i)] [] (zty, rf, m2) Q) : zW X (d + 1) 330 782 [(3, 0), (2, 0), (2, 261), (0, i)] [] (zty, rf, mem) Q := by
  refine zW.go 1 783 [(3, 0), (2, 0), (2, 261), (0, i)] [(2, 0)] _ rfl ?_
  refine zW.go 4 787 [(3, 0), (2, 0), (2, 261), (0, i)] [(0, i + 1), (3, 0), (2, 0)] _ rfl ?_
  refine w_sld rfl (by decide) (pc' := 788) rfl (by omega) rfl ?_
  refine zW.go 4 792 [(3, 0), (2, 0), (2, 261), (0, i)] [(0, i + 2), (3, 0), (0, X.2 (i + 1).toNat), (2, 0)] _ rfl ?_
  refine w_sld rfl (by decide) (pc' := 793) rfl (by omega) rfl ?_
  refine w_calli (as := [(2, 0), (0, X.2 (i + 1).toNat), (0, X.2 (i + 2).toNat)]) [] 796 rfl rfl rfl rfl (Nat.le_of_ble_eq_true rfl) (Nat.le_of_ble_eq_true rfl) (Nat.le_of_ble_eq_true rfl) (Or.inr rfl) (Ci.imp h (fun r1 m1 h => ?_))
  refine zW.go 1 797 [(3, 0), (2, 0), (2, 261), (0, i)] [(2, 261), (0, r1)] _ rfl ?_
  refine zW.go 4 801 [(3, 0), (2, 0), (2, 261), (0, i)] [(0, i + 1), (3, 0), (2, 261), (0, r1)] _ rfl ?_
  refine w_sld rfl (by decide) (pc' := 802) rfl (by omega) rfl ?_
  refine zW.go 4 806 [(3, 0), (2, 0), (2, 261), (0, i)] [(0, i + 2), (3, 0), (0, X.2 (i + 1).toNat), (2, 261), (0, r1)] _ rfl ?_
  refine w_sld rfl (by decide) (pc' := 807) rfl (by omega) rfl ?_
  refine w_calli (as := [(2, 261), (0, X.2 (i + 1).toNat), (0, X.2 (i + 2).toNat)]) [(0, r1)] 810 rfl rfl rfl rfl (Nat.le_of_ble_eq_true rfl) (Nat.le_of_ble_eq_true rfl) (Nat.le_of_ble_eq_true rfl) (Or.inr rfl) (Ci.imp h (fun r2 m2 h => ?_))
  exact w_ic_eq rfl (by decide) (pc' := 813) rfl h.1 (fun _ => next m2 h.2.2) (fun q => absurd h.2.1 q)
set_option maxRecDepth 4000 in
theorem lc_19 {X : zX} {rf mem : zF} {i : Int} {d : Nat} {Q : Option zV → zS → Prop} {Z : zF → Prop} (hi : 0 ≤ i ∧ i + 6 ≤ (X.1 : Int)) (h : zPR X rf d mem 168 [(2, 0), (0, X.2 (i + 1).toNat), (0, X.2 (i + 2).toNat)] 292 [(2, 261), (0, X.2 (i + 1).toNat), (0, X.2 (i + 2).toNat)] Z) (next : ∀ m2, Z m2 → zW X (d + 1) 330 1213 [(3, 0), (2, 0), (2, 261), (0, i)] [] (zty, rf, m2) Q) : zW X (d + 1) 330 815 [(3, 0), (2, 0), (2, 261), (0, i)] [] (zty, rf, mem) Q := by
  refine zW.go 1 816 [(3, 0), (2, 0), (2, 261), (0, i)] [(2, 0)] _ rfl ?_
  refine zW.go 4 820 [(3, 0), (2, 0), (2, 261), (0, i)] [(0, i + 1), (3, 0), (2, 0)] _ rfl ?_
  refine w_sld rfl (by decide) (pc' := 821) rfl (by omega) rfl ?_
  refine zW.go 4 825 [(3, 0), (2, 0), (2, 261), (0, i)] [(0, i + 2), (3, 0), (0, X.2 (i + 1).toNat), (2, 0)] _ rfl ?_
  refine w_sld rfl (by decide) (pc' := 826) rfl (by omega) rfl ?_
  refine w_calli (as := [(2, 0), (0, X.2 (i + 1).toNat), (0, X.2 (i + 2).toNat)]) [] 829 rfl rfl rfl rfl (Nat.le_of_ble_eq_true rfl) (Nat.le_of_ble_eq_true rfl) (Nat.le_of_ble_eq_true rfl) (Or.inr rfl) (Ci.imp h (fun r1 m1 h => ?_))
  refine zW.go 1 830 [(3, 0), (2, 0), (2, 261), (0, i)] [(2, 261), (0, r1)] _ rfl ?_
  refine zW.go 4 834 [(3, 0), (2, 0), (2, 261), (0, i)] [(0, i + 1), (3, 0), (2, 261), (0, r1)] _ rfl ?_
  refine w_sld rfl (by decide) (pc' := 835) rfl (by omega) rfl ?_
  refine zW.go 4 839 [(3, 0), (2, 0), (2, 261), (0, i)] [(0, i + 2), (3, 0), (0, X.2 (i + 1).toNat), (2, 261), (0, r1)] _ rfl ?_
  refine w_sld rfl (by decide) (pc' := 840) rfl (by omega) rfl ?_
  refine w_calli (as := [(2, 261), (0, X.2 (i + 1).toNat), (0, X.2 (i + 2).toNat)]) [(0, r1)] 843 rfl rfl rfl rfl (Nat.le_of_ble_eq_true rfl) (Nat.le_of_ble_eq_true rfl) (Nat.le_of_ble_eq_true rfl) (Or.inr rfl) (Ci.imp h (fun r2 m2 h => ?_))
  exact w_ic_eq rfl (by decide) (pc' := 846) rfl h.1 (fun _ => next m2 h.2.2) (fun q => absurd h.2.1 q)
set_option maxRecDepth 4000 in
theorem lc_20 {X : zX} {rf mem : zF} {i : Int} {d : Nat} {Q : Option zV → zS → Prop} {Z : zF → Prop} (hi : 0 ≤ i ∧ i + 6 ≤ (X.1 : Int)) (h : zPR X rf d mem 169 [(2, 0)] 293 [(2, 261)] Z) (next : ∀ m2, Z m2 → zW X (d + 1) 330 1213 [(3, 0), (2, 0), (2, 261), (0, i)] [] (zty, rf, m2) Q) : zW X (d + 1) 330 848 [(3, 0), (2, 0), (2, 261), (0, i)] [] (zty, rf, mem) Q := by
  refine zW.go 1 849 [(3, 0), (2, 0), (2, 261), (0, i)] [(2, 0)] _ rfl ?_
  refine w_calli (as := [(2, 0)]) [] 852 rfl rfl rfl rfl (Nat.le_of_ble_eq_true rfl) (Nat.le_of_ble_eq_true rfl) (Nat.le_of_ble_eq_true rfl) (Or.inr rfl) (Ci.imp h (fun r1 m1 h => ?_))
  refine zW.go 1 853 [(3, 0), (2, 0), (2, 261), (0, i)] [(2, 261), (0, r1)] _ rfl ?_
  refine w_calli (as := [(2, 261)]) [(0, r1)] 856 rfl rfl rfl rfl (Nat.le_of_ble_eq_true rfl) (Nat.le_of_ble_eq_true rfl) (Nat.le_of_ble_eq_true rfl) (Or.inr rfl) (Ci.imp h (fun r2 m2 h => ?_))
  exact w_ic_eq rfl (by decide) (pc' := 859) rfl h.1 (fun _ => next m2 h.2.2) (fun q => absurd h.2.1 q)
set_option maxRecDepth 4000 in
theorem lc_21 {X : zX} {rf mem : zF} {i : Int} {d : Nat} {Q : Option zV → zS → Prop} {Z : zF → Prop} (hi : 0 ≤ i ∧ i + 6 ≤ (X.1 : Int)) (h : zPR X rf d mem 170 [(2, 0), (0, X.2 (i + 1).toNat), (0, X.2 (i + 2).toNat)] 296 [(2, 261), (0, X.2 (i + 1).toNat), (0, X.2 (i + 2).toNat)] Z) (next : ∀ m2, Z m2 → zW X (d + 1) 330 1213 [(3, 0), (2, 0), (2, 261), (0, i)] [] (zty, rf, m2) Q) : zW X (d + 1) 330 861 [(3, 0), (2, 0), (2, 261), (0, i)] [] (zty, rf, mem) Q := by
  refine zW.go 1 862 [(3, 0), (2, 0), (2, 261), (0, i)] [(2, 0)] _ rfl ?_
  refine zW.go 4 866 [(3, 0), (2, 0), (2, 261), (0, i)] [(0, i + 1), (3, 0), (2, 0)] _ rfl ?_
  refine w_sld rfl (by decide) (pc' := 867) rfl (by omega) rfl ?_
  refine zW.go 4 871 [(3, 0), (2, 0), (2, 261), (0, i)] [(0, i + 2), (3, 0), (0, X.2 (i + 1).toNat), (2, 0)] _ rfl ?_
  refine w_sld rfl (by decide) (pc' := 872) rfl (by omega) rfl ?_
  refine w_calli (as := [(2, 0), (0, X.2 (i + 1).toNat), (0, X.2 (i + 2).toNat)]) [] 875 rfl rfl rfl rfl (Nat.le_of_ble_eq_true rfl) (Nat.le_of_ble_eq_true rfl) (Nat.le_of_ble_eq_true rfl) (Or.inr rfl) (Ci.imp h (fun r1 m1 h => ?_))
  refine zW.go 1 876 [(3, 0), (2, 0), (2, 261), (0, i)] [(2, 261), (0, r1)] _ rfl ?_
  refine zW.go 4 880 [(3, 0), (2, 0), (2, 261), (0, i)] [(0, i + 1), (3, 0), (2, 261), (0, r1)] _ rfl ?_
  refine w_sld rfl (by decide) (pc' := 881) rfl (by omega) rfl ?_
  refine zW.go 4 885 [(3, 0), (2, 0), (2, 261), (0, i)] [(0, i + 2), (3, 0), (0, X.2 (i + 1).toNat), (2, 261), (0, r1)] _ rfl ?_
  refine w_sld rfl (by decide) (pc' := 886) rfl (by omega) rfl ?_
  refine w_calli (as := [(2, 261), (0, X.2 (i + 1).toNat), (0, X.2 (i + 2).toNat)]) [(0, r1)] 889 rfl rfl rfl rfl (Nat.le_of_ble_eq_true rfl) (Nat.le_of_ble_eq_true rfl) (Nat.le_of_ble_eq_true rfl) (Or.inr rfl) (Ci.imp h (fun r2 m2 h => ?_))
  exact w_ic_eq rfl (by decide) (pc' := 892) rfl h.1 (fun _ => next m2 h.2.2) (fun q => absurd h.2.1 q)
set_option maxRecDepth 4000 in
theorem lc_22 {X : zX} {rf mem : zF} {i : Int} {d : Nat} {Q : Option zV → zS → Prop} {Z : zF → Prop} (hi : 0 ≤ i ∧ i + 6 ≤ (X.1 : Int)) (h : zPR X rf d mem 171 [(2, 0), (0, X.2 (i + 1).toNat), (0, X.2 (i + 2).toNat)] 298 [(2, 261), (0, X.2 (i + 1).toNat), (0, X.2 (i + 2).toNat)] Z) (next : ∀ m2, Z m2 → zW X (d + 1) 330 1213 [(3, 0), (2, 0), (2, 261), (0, i)] [] (zty, rf, m2) Q) : zW X (d + 1) 330 894 [(3, 0), (2, 0), (2, 261), (0, i)] [] (zty, rf, mem) Q := by
  refine zW.go 1 895 [(3, 0), (2, 0), (2, 261), (0, i)] [(2, 0)] _ rfl ?_
  refine zW.go 4 899 [(3, 0), (2, 0), (2, 261), (0, i)] [(0, i + 1), (3, 0), (2, 0)] _ rfl ?_
  refine w_sld rfl (by decide) (pc' := 900) rfl (by omega) rfl ?_
  refine zW.go 4 904 [(3, 0), (2, 0), (2, 261), (0, i)] [(0, i + 2), (3, 0), (0, X.2 (i + 1).toNat), (2, 0)] _ rfl ?_
  refine w_sld rfl (by decide) (pc' := 905) rfl (by omega) rfl ?_
  refine w_calli (as := [(2, 0), (0, X.2 (i + 1).toNat), (0, X.2 (i + 2).toNat)]) [] 908 rfl rfl rfl rfl (Nat.le_of_ble_eq_true rfl) (Nat.le_of_ble_eq_true rfl) (Nat.le_of_ble_eq_true rfl) (Or.inr rfl) (Ci.imp h (fun r1 m1 h => ?_))
  refine zW.go 1 909 [(3, 0), (2, 0), (2, 261), (0, i)] [(2, 261), (0, r1)] _ rfl ?_
  refine zW.go 4 913 [(3, 0), (2, 0), (2, 261), (0, i)] [(0, i + 1), (3, 0), (2, 261), (0, r1)] _ rfl ?_
  refine w_sld rfl (by decide) (pc' := 914) rfl (by omega) rfl ?_
  refine zW.go 4 918 [(3, 0), (2, 0), (2, 261), (0, i)] [(0, i + 2), (3, 0), (0, X.2 (i + 1).toNat), (2, 261), (0, r1)] _ rfl ?_
  refine w_sld rfl (by decide) (pc' := 919) rfl (by omega) rfl ?_
  refine w_calli (as := [(2, 261), (0, X.2 (i + 1).toNat), (0, X.2 (i + 2).toNat)]) [(0, r1)] 922 rfl rfl rfl rfl (Nat.le_of_ble_eq_true rfl) (Nat.le_of_ble_eq_true rfl) (Nat.le_of_ble_eq_true rfl) (Or.inr rfl) (Ci.imp h (fun r2 m2 h => ?_))
  exact w_ic_eq rfl (by decide) (pc' := 925) rfl h.1 (fun _ => next m2 h.2.2) (fun q => absurd h.2.1 q)
set_option maxRecDepth 4000 in
theorem lc_23 {X : zX} {rf mem : zF} {i : Int} {d : Nat} {Q : Option zV → zS → Prop} {Z : zF → Prop} (hi : 0 ≤ i ∧ i + 6 ≤ (X.1 : Int)) (h : zPR X rf d mem 172 [(2, 0), (0, X.2 (i + 1).toNat)] 299 [(2, 261), (0, X.2 (i + 1).toNat)] Z) (next : ∀ m2, Z m2 → zW X (d + 1) 330 1213 [(3, 0), (2, 0), (2, 261), (0, i)] [] (zty, rf, m2) Q) : zW X (d + 1) 330 927 [(3, 0), (2, 0), (2, 261), (0, i)] [] (zty, rf, mem) Q := by
  refine zW.go 1 928 [(3, 0), (2, 0), (2, 261), (0, i)] [(2, 0)] _ rfl ?_
  refine zW.go 4 932 [(3, 0), (2, 0), (2, 261), (0, i)] [(0, i + 1), (3, 0), (2, 0)] _ rfl ?_
  refine w_sld rfl (by decide) (pc' := 933) rfl (by omega) rfl ?_
  refine w_calli (as := [(2, 0), (0, X.2 (i + 1).toNat)]) [] 936 rfl rfl rfl rfl (Nat.le_of_ble_eq_true rfl) (Nat.le_of_ble_eq_true rfl) (Nat.le_of_ble_eq_true rfl) (Or.inr rfl) (Ci.imp h (fun r1 m1 h => ?_))
  refine zW.go 1 937 [(3, 0), (2, 0), (2, 261), (0, i)] [(2, 261), (0, r1)] _ rfl ?_
  refine zW.go 4 941 [(3, 0), (2, 0), (2, 261), (0, i)] [(0, i + 1), (3, 0), (2, 261), (0, r1)] _ rfl ?_
  refine w_sld rfl (by decide) (pc' := 942) rfl (by omega) rfl ?_
  refine w_calli (as := [(2, 261), (0, X.2 (i + 1).toNat)]) [(0, r1)] 945 rfl rfl rfl rfl (Nat.le_of_ble_eq_true rfl) (Nat.le_of_ble_eq_true rfl) (Nat.le_of_ble_eq_true rfl) (Or.inr rfl) (Ci.imp h (fun r2 m2 h => ?_))
  exact w_ic_eq rfl (by decide) (pc' := 948) rfl h.1 (fun _ => next m2 h.2.2) (fun q => absurd h.2.1 q)
set_option maxRecDepth 4000 in
theorem lc_24 {X : zX} {rf mem : zF} {i : Int} {d : Nat} {Q : Option zV → zS → Prop} {Z : zF → Prop} (hi : 0 ≤ i ∧ i + 6 ≤ (X.1 : Int)) (h : zPR X rf d mem 173 [(2, 0), (0, X.2 (i + 1).toNat)] 301 [(2, 261), (0, X.2 (i + 1).toNat)] Z) (next : ∀ m2, Z m2 → zW X (d + 1) 330 1213 [(3, 0), (2, 0), (2, 261), (0, i)] [] (zty, rf, m2) Q) : zW X (d + 1) 330 950 [(3, 0), (2, 0), (2, 261), (0, i)] [] (zty, rf, mem) Q := by
  refine zW.go 1 951 [(3, 0), (2, 0), (2, 261), (0, i)] [(2, 0)] _ rfl ?_
  refine zW.go 4 955 [(3, 0), (2, 0), (2, 261), (0, i)] [(0, i + 1), (3, 0), (2, 0)] _ rfl ?_
  refine w_sld rfl (by decide) (pc' := 956) rfl (by omega) rfl ?_
  refine w_calli (as := [(2, 0), (0, X.2 (i + 1).toNat)]) [] 959 rfl rfl rfl rfl (Nat.le_of_ble_eq_true rfl) (Nat.le_of_ble_eq_true rfl) (Nat.le_of_ble_eq_true rfl) (Or.inr rfl) (Ci.imp h (fun r1 m1 h => ?_))
  refine zW.go 1 960 [(3, 0), (2, 0), (2, 261), (0, i)] [(2, 261), (0, r1)] _ rfl ?_
  refine zW.go 4 964 [(3, 0), (2, 0), (2, 261), (0, i)] [(0, i + 1), (3, 0), (2, 261), (0, r1)] _ rfl ?_
  refine w_sld rfl (by decide) (pc' := 965) rfl (by omega) rfl ?_
  refine w_calli (as := [(2, 261), (0, X.2 (i + 1).toNat)]) [(0, r1)] 968 rfl rfl rfl rfl (Nat.le_of_ble_eq_true rfl) (Nat.le_of_ble_eq_true rfl) (Nat.le_of_ble_eq_true rfl) (Or.inr rfl) (Ci.imp h (fun r2 m2 h => ?_))
  exact w_ic_eq rfl (by decide) (pc' := 971) rfl h.1 (fun _ => next m2 h.2.2) (fun q => absurd h.2.1 q)
set_option maxRecDepth 4000 in
theorem lc_25 {X : zX} {rf mem : zF} {i : Int} {d : Nat} {Q : Option zV → zS → Prop} {Z : zF → Prop} (hi : 0 ≤ i ∧ i + 6 ≤ (X.1 : Int)) (h : zPR X rf d mem 174 [(2, 0), (0, X.2 (i + 1).toNat), (0, X.2 (i + 2).toNat)] 302 [(2, 261), (0, X.2 (i + 1).toNat), (0, X.2 (i + 2).toNat)] Z) (next : ∀ m2, Z m2 → zW X (d + 1) 330 1213 [(3, 0), (2, 0), (2, 261), (0, i)] [] (zty, rf, m2) Q) : zW X (d + 1) 330 973 [(3, 0), (2, 0), (2, 261), (0, i)] [] (zty, rf, mem) Q := by
  refine zW.go 1 974 [(3, 0), (2, 0), (2, 261), (0, i)] [(2, 0)] _ rfl ?_
  refine zW.go 4 978 [(3, 0), (2, 0), (2, 261), (0, i)] [(0, i + 1), (3, 0), (2, 0)] _ rfl ?_
  refine w_sld rfl (by decide) (pc' := 979) rfl (by omega) rfl ?_
  refine zW.go 4 983 [(3, 0), (2, 0), (2, 261), (0, i)] [(0, i + 2), (3, 0), (0, X.2 (i + 1).toNat), (2, 0)] _ rfl ?_
  refine w_sld rfl (by decide) (pc' := 984) rfl (by omega) rfl ?_
  refine w_calli (as := [(2, 0), (0, X.2 (i + 1).toNat), (0, X.2 (i + 2).toNat)]) [] 987 rfl rfl rfl rfl (Nat.le_of_ble_eq_true rfl) (Nat.le_of_ble_eq_true rfl) (Nat.le_of_ble_eq_true rfl) (Or.inr rfl) (Ci.imp h (fun r1 m1 h => ?_))
  refine zW.go 1 988 [(3, 0), (2, 0), (2, 261), (0, i)] [(2, 261), (0, r1)] _ rfl ?_
  refine zW.go 4 992 [(3, 0), (2, 0), (2, 261), (0, i)] [(0, i + 1), (3, 0), (2, 261), (0, r1)] _ rfl ?_
  refine w_sld rfl (by decide) (pc' := 993) rfl (by omega) rfl ?_
  refine zW.go 4 997 [(3, 0), (2, 0), (2, 261), (0, i)] [(0, i + 2), (3, 0), (0, X.2 (i + 1).toNat), (2, 261), (0, r1)] _ rfl ?_
  refine w_sld rfl (by decide) (pc' := 998) rfl (by omega) rfl ?_
  refine w_calli (as := [(2, 261), (0, X.2 (i + 1).toNat), (0, X.2 (i + 2).toNat)]) [(0, r1)] 1001 rfl rfl rfl rfl (Nat.le_of_ble_eq_true rfl) (Nat.le_of_ble_eq_true rfl) (Nat.le_of_ble_eq_true rfl) (Or.inr rfl) (Ci.imp h (fun r2 m2 h => ?_))
  exact w_ic_eq rfl (by decide) (pc' := 1004) rfl h.1 (fun _ => next m2 h.2.2) (fun q => absurd h.2.1 q)
set_option maxRecDepth 4000 in
theorem lc_26 {X : zX} {rf mem : zF} {i : Int} {d : Nat} {Q : Option zV → zS → Prop} {Z : zF → Prop} (hi : 0 ≤ i ∧ i + 6 ≤ (X.1 : Int)) (h : zPR X rf d mem 175 [(2, 0), (0, X.2 (i + 1).toNat), (0, X.2 (i + 2).toNat)] 303 [(2, 261), (0, X.2 (i + 1).toNat), (0, X.2 (i + 2).toNat)] Z) (next : ∀ m2, Z m2 → zW X (d + 1) 330 1213 [(3, 0), (2, 0), (2, 261), (0, i)] [] (zty, rf, m2) Q) : zW X (d + 1) 330 1006 [(3, 0), (2, 0), (2, 261), (0, i)] [] (zty, rf, mem) Q := by
  refine zW.go 1 1007 [(3, 0), (2, 0), (2, 261), (0, i)] [(2, 0)] _ rfl ?_
  refine zW.go 4 1011 [(3, 0), (2, 0), (2, 261), (0, i)] [(0, i + 1), (3, 0), (2, 0)] _ rfl ?_
  refine w_sld rfl (by decide) (pc' := 1012) rfl (by omega) rfl ?_
  refine zW.go 4 1016 [(3, 0), (2, 0), (2, 261), (0, i)] [(0, i + 2), (3, 0), (0, X.2 (i + 1).toNat), (2, 0)] _ rfl ?_
  refine w_sld rfl (by decide) (pc' := 1017) rfl (by omega) rfl ?_
  refine w_calli (as := [(2, 0), (0, X.2 (i + 1).toNat), (0, X.2 (i + 2).toNat)]) [] 1020 rfl rfl rfl rfl (Nat.le_of_ble_eq_true rfl) (Nat.le_of_ble_eq_true rfl) (Nat.le_of_ble_eq_true rfl) (Or.inr rfl) (Ci.imp h (fun r1 m1 h => ?_))
  refine zW.go 1 1021 [(3, 0), (2, 0), (2, 261), (0, i)] [(2, 261), (0, r1)] _ rfl ?_
  refine zW.go 4 1025 [(3, 0), (2, 0), (2, 261), (0, i)] [(0, i + 1), (3, 0), (2, 261), (0, r1)] _ rfl ?_
  refine w_sld rfl (by decide) (pc' := 1026) rfl (by omega) rfl ?_
  refine zW.go 4 1030 [(3, 0), (2, 0), (2, 261), (0, i)] [(0, i + 2), (3, 0), (0, X.2 (i + 1).toNat), (2, 261), (0, r1)] _ rfl ?_
  refine w_sld rfl (by decide) (pc' := 1031) rfl (by omega) rfl ?_
  refine w_calli (as := [(2, 261), (0, X.2 (i + 1).toNat), (0, X.2 (i + 2).toNat)]) [(0, r1)] 1034 rfl rfl rfl rfl (Nat.le_of_ble_eq_true rfl) (Nat.le_of_ble_eq_true rfl) (Nat.le_of_ble_eq_true rfl) (Or.inr rfl) (Ci.imp h (fun r2 m2 h => ?_))
  exact w_ic_eq rfl (by decide) (pc' := 1037) rfl h.1 (fun _ => next m2 h.2.2) (fun q => absurd h.2.1 q)
set_option maxRecDepth 4000 in
theorem lc_27 {X : zX} {rf mem : zF} {i : Int} {d : Nat} {Q : Option zV → zS → Prop} {Z : zF → Prop} (hi : 0 ≤ i ∧ i + 6 ≤ (X.1 : Int)) (h : zPR X rf d mem 176 [(2, 0), (0, X.2 (i + 1).toNat), (0, X.2 (i + 2).toNat)] 304 [(2, 261), (0, X.2 (i + 1).toNat), (0, X.2 (i + 2).toNat)] Z) (next : ∀ m2, Z m2 → zW X (d + 1) 330 1213 [(3, 0), (2, 0), (2, 261), (0, i)] [] (zty, rf, m2) Q) : zW X (d + 1) 330 1039 [(3, 0), (2, 0), (2, 261), (0, i)] [] (zty, rf, mem) Q := by
  refine zW.go 1 1040 [(3, 0), (2, 0), (2, 261), (0, i)] [(2, 0)] _ rfl ?_
  refine zW.go 4 1044 [(3, 0), (2, 0), (2, 261), (0, i)] [(0, i + 1), (3, 0), (2, 0)] _ rfl ?_
  refine w_sld rfl (by decide) (pc' := 1045) rfl (by omega) rfl ?_
  refine zW.go 4 1049 [(3, 0), (2, 0), (2, 261), (0, i)] [(0, i + 2), (3, 0), (0, X.2 (i + 1).toNat), (2, 0)] _ rfl ?_
  refine w_sld rfl (by decide) (pc' := 1050) rfl (by omega) rfl ?_
  refine w_calli (as := [(2, 0), (0, X.2 (i + 1).toNat), (0, X.2 (i + 2).toNat)]) [] 1053 rfl rfl rfl rfl (Nat.le_of_ble_eq_true rfl) (Nat.le_of_ble_eq_true rfl) (Nat.le_of_ble_eq_true rfl) (Or.inr rfl) (Ci.imp h (fun r1 m1 h => ?_))
  refine zW.go 1 1054 [(3, 0), (2, 0), (2, 261), (0, i)] [(2, 261), (0, r1)] _ rfl ?_
  refine zW.go 4 1058 [(3, 0), (2, 0), (2, 261), (0, i)] [(0, i + 1), (3, 0), (2, 261), (0, r1)] _ rfl ?_
  refine w_sld rfl (by decide) (pc' := 1059) rfl (by omega) rfl ?_
  refine zW.go 4 1063 [(3, 0), (2, 0), (2, 261), (0, i)] [(0, i + 2), (3, 0), (0, X.2 (i + 1).toNat), (2, 261), (0, r1)] _ rfl ?_
  refine w_sld rfl (by decide) (pc' := 1064) rfl (by omega) rfl ?_
  refine w_calli (as := [(2, 261), (0, X.2 (i + 1).toNat), (0, X.2 (i + 2).toNat)]) [(0, r1)] 1067 rfl rfl rfl rfl (Nat.le_of_ble_eq_true rfl) (Nat.le_of_ble_eq_true rfl) (Nat.le_of_ble_eq_true rfl) (Or.inr rfl) (Ci.imp h (fun r2 m2 h => ?_))
  exact w_ic_eq rfl (by decide) (pc' := 1070) rfl h.1 (fun _ => next m2 h.2.2) (fun q => absurd h.2.1 q)
set_option maxRecDepth 4000 in
theorem lc_28 {X : zX} {rf mem : zF} {i : Int} {d : Nat} {Q : Option zV → zS → Prop} {Z : zF → Prop} (hi : 0 ≤ i ∧ i + 6 ≤ (X.1 : Int)) (h : zPR X rf d mem 177 [(2, 0)] 246 [(2, 261)] Z) (next : ∀ m2, Z m2 → zW X (d + 1) 330 1213 [(3, 0), (2, 0), (2, 261), (0, i)] [] (zty, rf, m2) Q) : zW X (d + 1) 330 1072 [(3, 0), (2, 0), (2, 261), (0, i)] [] (zty, rf, mem) Q := by
  refine zW.go 1 1073 [(3, 0), (2, 0), (2, 261), (0, i)] [(2, 0)] _ rfl ?_
  refine w_calli (as := [(2, 0)]) [] 1076 rfl rfl rfl rfl (Nat.le_of_ble_eq_true rfl) (Nat.le_of_ble_eq_true rfl) (Nat.le_of_ble_eq_true rfl) (Or.inr rfl) (Ci.imp h (fun r1 m1 h => ?_))
  refine zW.go 1 1077 [(3, 0), (2, 0), (2, 261), (0, i)] [(2, 261), (0, r1)] _ rfl ?_
  refine w_calli (as := [(2, 261)]) [(0, r1)] 1080 rfl rfl rfl rfl (Nat.le_of_ble_eq_true rfl) (Nat.le_of_ble_eq_true rfl) (Nat.le_of_ble_eq_true rfl) (Or.inr rfl) (Ci.imp h (fun r2 m2 h => ?_))
  exact w_ic_eq rfl (by decide) (pc' := 1083) rfl h.1 (fun _ => next m2 h.2.2) (fun q => absurd h.2.1 q)
set_option maxRecDepth 4000 in
theorem lc_29 {X : zX} {rf mem : zF} {i : Int} {d : Nat} {Q : Option zV → zS → Prop} {Z : zF → Prop} (hi : 0 ≤ i ∧ i + 6 ≤ (X.1 : Int)) (h : zPR X rf d mem 178 [(2, 0), (0, X.2 (i + 1).toNat)] 305 [(2, 261), (0, X.2 (i + 1).toNat)] Z) (next : ∀ m2, Z m2 → zW X (d + 1) 330 1213 [(3, 0), (2, 0), (2, 261), (0, i)] [] (zty, rf, m2) Q) : zW X (d + 1) 330 1085 [(3, 0), (2, 0), (2, 261), (0, i)] [] (zty, rf, mem) Q := by
  refine zW.go 1 1086 [(3, 0), (2, 0), (2, 261), (0, i)] [(2, 0)] _ rfl ?_
  refine zW.go 4 1090 [(3, 0), (2, 0), (2, 261), (0, i)] [(0, i + 1), (3, 0), (2, 0)] _ rfl ?_
  refine w_sld rfl (by decide) (pc' := 1091) rfl (by omega) rfl ?_
  refine w_calli (as := [(2, 0), (0, X.2 (i + 1).toNat)]) [] 1094 rfl rfl rfl rfl (Nat.le_of_ble_eq_true rfl) (Nat.le_of_ble_eq_true rfl) (Nat.le_of_ble_eq_true rfl) (Or.inr rfl) (Ci.imp h (fun r1 m1 h => ?_))
  refine zW.go 1 1095 [(3, 0), (2, 0), (2, 261), (0, i)] [(2, 261), (0, r1)] _ rfl ?_
  refine zW.go 4 1099 [(3, 0), (2, 0), (2, 261), (0, i)] [(0, i + 1), (3, 0), (2, 261), (0, r1)] _ rfl ?_
  refine w_sld rfl (by decide) (pc' := 1100) rfl (by omega) rfl ?_
  refine w_calli (as := [(2, 261), (0, X.2 (i + 1).toNat)]) [(0, r1)] 1103 rfl rfl rfl rfl (Nat.le_of_ble_eq_true rfl) (Nat.le_of_ble_eq_true rfl) (Nat.le_of_ble_eq_true rfl) (Or.inr rfl) (Ci.imp h (fun r2 m2 h => ?_))
  exact w_ic_eq rfl (by decide) (pc' := 1106) rfl h.1 (fun _ => next m2 h.2.2) (fun q => absurd h.2.1 q)
set_option maxRecDepth 4000 in
theorem lc_30 {X : zX} {rf mem : zF} {i : Int} {d : Nat} {Q : Option zV → zS → Prop} {Z : zF → Prop} (hi : 0 ≤ i ∧ i + 6 ≤ (X.1 : Int)) (h : zPR X rf d mem 179 [(2, 0), (0, X.2 (i + 1).toNat), (0, X.2 (i + 2).toNat)] 306 [(2, 261), (0, X.2 (i + 1).toNat), (0, X.2 (i + 2).toNat)] Z) (next : ∀ m2, Z m2 → zW X (d + 1) 330 1213 [(3, 0), (2, 0), (2, 261), (0, i)] [] (zty, rf, m2) Q) : zW X (d + 1) 330 1108 [(3, 0), (2, 0), (2, 261), (0, i)] [] (zty, rf, mem) Q := by
  refine zW.go 1 1109 [(3, 0), (2, 0), (2, 261), (0, i)] [(2, 0)] _ rfl ?_
  refine zW.go 4 1113 [(3, 0), (2, 0), (2, 261), (0, i)] [(0, i + 1), (3, 0), (2, 0)] _ rfl ?_
  refine w_sld rfl (by decide) (pc' := 1114) rfl (by omega) rfl ?_
  refine zW.go 4 1118 [(3, 0), (2, 0), (2, 261), (0, i)] [(0, i + 2), (3, 0), (0, X.2 (i + 1).toNat), (2, 0)] _ rfl ?_
  refine w_sld rfl (by decide) (pc' := 1119) rfl (by omega) rfl ?_
  refine w_calli (as := [(2, 0), (0, X.2 (i + 1).toNat), (0, X.2 (i + 2).toNat)]) [] 1122 rfl rfl rfl rfl (Nat.le_of_ble_eq_true rfl) (Nat.le_of_ble_eq_true rfl) (Nat.le_of_ble_eq_true rfl) (Or.inr rfl) (Ci.imp h (fun r1 m1 h => ?_))
  refine zW.go 1 1123 [(3, 0), (2, 0), (2, 261), (0, i)] [(2, 261), (0, r1)] _ rfl ?_
  refine zW.go 4 1127 [(3, 0), (2, 0), (2, 261), (0, i)] [(0, i + 1), (3, 0), (2, 261), (0, r1)] _ rfl ?_
  refine w_sld rfl (by decide) (pc' := 1128) rfl (by omega) rfl ?_
  refine zW.go 4 1132 [(3, 0), (2, 0), (2, 261), (0, i)] [(0, i + 2), (3, 0), (0, X.2 (i + 1).toNat), (2, 261), (0, r1)] _ rfl ?_
  refine w_sld rfl (by decide) (pc' := 1133) rfl (by omega) rfl ?_
  refine w_calli (as := [(2, 261), (0, X.2 (i + 1).toNat), (0, X.2 (i + 2).toNat)]) [(0, r1)] 1136 rfl rfl rfl rfl (Nat.le_of_ble_eq_true rfl) (Nat.le_of_ble_eq_true rfl) (Nat.le_of_ble_eq_true rfl) (Or.inr rfl) (Ci.imp h (fun r2 m2 h => ?_))
  exact w_ic_eq rfl (by decide) (pc' := 1139) rfl h.1 (fun _ => next m2 h.2.2) (fun q => absurd h.2.1 q)
set_option maxRecDepth 4000 in
theorem lc_31 {X : zX} {rf mem : zF} {i : Int} {d : Nat} {Q : Option zV → zS → Prop} {Z : zF → Prop} (hi : 0 ≤ i ∧ i + 6 ≤ (X.1 : Int)) (h : zPR X rf d mem 180 [(2, 0)] 308 [(2, 261)] Z) (next : ∀ m2, Z m2 → zW X (d + 1) 330 1213 [(3, 0), (2, 0), (2, 261), (0, i)] [] (zty, rf, m2) Q) : zW X (d + 1) 330 1141 [(3, 0), (2, 0), (2, 261), (0, i)] [] (zty, rf, mem) Q := by
  refine zW.go 1 1142 [(3, 0), (2, 0), (2, 261), (0, i)] [(2, 0)] _ rfl ?_
  refine w_calli (as := [(2, 0)]) [] 1145 rfl rfl rfl rfl (Nat.le_of_ble_eq_true rfl) (Nat.le_of_ble_eq_true rfl) (Nat.le_of_ble_eq_true rfl) (Or.inr rfl) (Ci.imp h (fun r1 m1 h => ?_))
  refine zW.go 1 1146 [(3, 0), (2, 0), (2, 261), (0, i)] [(2, 261), (0, r1)] _ rfl ?_
  refine w_calli (as := [(2, 261)]) [(0, r1)] 1149 rfl rfl rfl rfl (Nat.le_of_ble_eq_true rfl) (Nat.le_of_ble_eq_true rfl) (Nat.le_of_ble_eq_true rfl) (Or.inr rfl) (Ci.imp h (fun r2 m2 h => ?_))
  exact w_ic_eq rfl (by decide) (pc' := 1152) rfl h.1 (fun _ => next m2 h.2.2) (fun q => absurd h.2.1 q)
set_option maxRecDepth 4000 in
theorem lc_32 {X : zX} {rf mem : zF} {i : Int} {d : Nat} {Q : Option zV → zS → Prop} {Z : zF → Prop} (hi : 0 ≤ i ∧ i + 6 ≤ (X.1 : Int)) (h : zPR X rf d mem 181 [(2, 0), (0, X.2 (i + 1).toNat)] 309 [(2, 261), (0, X.2 (i + 1).toNat)] Z) (next : ∀ m2, Z m2 → zW X (d + 1) 330 1213 [(3, 0), (2, 0), (2, 261), (0, i)] [] (zty, rf, m2) Q) : zW X (d + 1) 330 1154 [(3, 0), (2, 0), (2, 261), (0, i)] [] (zty, rf, mem) Q := by
  refine zW.go 1 1155 [(3, 0), (2, 0), (2, 261), (0, i)] [(2, 0)] _ rfl ?_
  refine zW.go 4 1159 [(3, 0), (2, 0), (2, 261), (0, i)] [(0, i + 1), (3, 0), (2, 0)] _ rfl ?_
  refine w_sld rfl (by decide) (pc' := 1160) rfl (by omega) rfl ?_
  refine w_calli (as := [(2, 0), (0, X.2 (i + 1).toNat)]) [] 1163 rfl rfl rfl rfl (Nat.le_of_ble_eq_true rfl) (Nat.le_of_ble_eq_true rfl) (Nat.le_of_ble_eq_true rfl) (Or.inr rfl) (Ci.imp h (fun r1 m1 h => ?_))
  refine zW.go 1 1164 [(3, 0), (2, 0), (2, 261), (0, i)] [(2, 261), (0, r1)] _ rfl ?_
  refine zW.go 4 1168 [(3, 0), (2, 0), (2, 261), (0, i)] [(0, i + 1), (3, 0), (2, 261), (0, r1)] _ rfl ?_
  refine w_sld rfl (by decide) (pc' := 1169) rfl (by omega) rfl ?_
  refine w_calli (as := [(2, 261), (0, X.2 (i + 1).toNat)]) [(0, r1)] 1172 rfl rfl rfl rfl (Nat.le_of_ble_eq_true rfl) (Nat.le_of_ble_eq_true rfl) (Nat.le_of_ble_eq_true rfl) (Or.inr rfl) (Ci.imp h (fun r2 m2 h => ?_))
  exact w_ic_eq rfl (by decide) (pc' := 1175) rfl h.1 (fun _ => next m2 h.2.2) (fun q => absurd h.2.1 q)
set_option maxRecDepth 4000 in
theorem lc_33 {X : zX} {rf mem : zF} {i : Int} {d : Nat} {Q : Option zV → zS → Prop} {Z : zF → Prop} (hi : 0 ≤ i ∧ i + 6 ≤ (X.1 : Int)) (h : zPR X rf d mem 182 [(2, 0)] 316 [(2, 261)] Z) (next : ∀ m2, Z m2 → zW X (d + 1) 330 1213 [(3, 0), (2, 0), (2, 261), (0, i)] [] (zty, rf, m2) Q) : zW X (d + 1) 330 1177 [(3, 0), (2, 0), (2, 261), (0, i)] [] (zty, rf, mem) Q := by
  refine zW.go 1 1178 [(3, 0), (2, 0), (2, 261), (0, i)] [(2, 0)] _ rfl ?_
  refine w_calli (as := [(2, 0)]) [] 1181 rfl rfl rfl rfl (Nat.le_of_ble_eq_true rfl) (Nat.le_of_ble_eq_true rfl) (Nat.le_of_ble_eq_true rfl) (Or.inr rfl) (Ci.imp h (fun r1 m1 h => ?_))
  refine zW.go 1 1182 [(3, 0), (2, 0), (2, 261), (0, i)] [(2, 261), (0, r1)] _ rfl ?_
  refine w_calli (as := [(2, 261)]) [(0, r1)] 1185 rfl rfl rfl rfl (Nat.le_of_ble_eq_true rfl) (Nat.le_of_ble_eq_true rfl) (Nat.le_of_ble_eq_true rfl) (Or.inr rfl) (Ci.imp h (fun r2 m2 h => ?_))
  exact w_ic_eq rfl (by decide) (pc' := 1188) rfl h.1 (fun _ => next m2 h.2.2) (fun q => absurd h.2.1 q)
set_option maxRecDepth 4000 in
theorem lc_34 {X : zX} {rf mem : zF} {i : Int} {d : Nat} {Q : Option zV → zS → Prop} {Z : zF → Prop} (hi : 0 ≤ i ∧ i + 6 ≤ (X.1 : Int)) (h : zPR X rf d mem 183 [(2, 0), (0, X.2 (i + 1).toNat)] 241 [(2, 261), (0, X.2 (i + 1).toNat)] Z) (next : ∀ m2, Z m2 → zW X (d + 1) 330 1213 [(3, 0), (2, 0), (2, 261), (0, i)] [] (zty, rf, m2) Q) : zW X (d + 1) 330 1190 [(3, 0), (2, 0), (2, 261), (0, i)] [] (zty, rf, mem) Q := by
  refine zW.go 1 1191 [(3, 0), (2, 0), (2, 261), (0, i)] [(2, 0)] _ rfl ?_
  refine zW.go 4 1195 [(3, 0), (2, 0), (2, 261), (0, i)] [(0, i + 1), (3, 0), (2, 0)] _ rfl ?_
  refine w_sld rfl (by decide) (pc' := 1196) rfl (by omega) rfl ?_
  refine w_calli (as := [(2, 0), (0, X.2 (i + 1).toNat)]) [] 1199 rfl rfl rfl rfl (Nat.le_of_ble_eq_true rfl) (Nat.le_of_ble_eq_true rfl) (Nat.le_of_ble_eq_true rfl) (Or.inr rfl) (Ci.imp h (fun r1 m1 h => ?_))
  refine zW.go 1 1200 [(3, 0), (2, 0), (2, 261), (0, i)] [(2, 261), (0, r1)] _ rfl ?_
  refine zW.go 4 1204 [(3, 0), (2, 0), (2, 261), (0, i)] [(0, i + 1), (3, 0), (2, 261), (0, r1)] _ rfl ?_
  refine w_sld rfl (by decide) (pc' := 1205) rfl (by omega) rfl ?_
  refine w_calli (as := [(2, 261), (0, X.2 (i + 1).toNat)]) [(0, r1)] 1208 rfl rfl rfl rfl (Nat.le_of_ble_eq_true rfl) (Nat.le_of_ble_eq_true rfl) (Nat.le_of_ble_eq_true rfl) (Or.inr rfl) (Ci.imp h (fun r2 m2 h => ?_))
  exact w_ic_eq rfl (by decide) (pc' := 1211) rfl h.1 (fun _ => next m2 h.2.2) (fun q => absurd h.2.1 q)
def RoomOK (X : zX) (d : Nat) : Prop := ∀ {rf mem : zF} {i N : Int} {Q : Option zV → zS → Prop}, GI rf mem N → N ≤ 1000 → 0 ≤ i → i + 6 ≤ (X.1 : Int) → (∀ rf2 m2, GI rf2 m2 (N + 1) → zW X (d + 1) 330 1213 [(3, 0), (2, 0), (2, 261), (0, i)] [] (zty, rf2, m2) Q) → zW X (d + 1) 330 274 [(3, 0), (2, 0), (2, 261), (0, i)] [] (zty, rf, mem) Q
set_option maxRecDepth 4000 in
theorem lw_case {X : zX} {rf mem : zF} {i N : Int} {d : Nat} {Q : Option zV → zS → Prop} (hd : 20 ≤ d) (hL : X.1 ≤ 384) (hx : ∀ j, inI (X.2 j)) (room : RoomOK X d) (hg : GI rf mem N) (hN : 0 ≤ N ∧ N ≤ 64) (hi : 0 ≤ i ∧ i + 6 ≤ (X.1 : Int)) (next : ∀ rf2 m2, GI rf2 m2 (N + 1) → zW X (d + 1) 330 1213 [(3, 0), (2, 0), (2, 261), (0, i)] [] (zty, rf2, m2) Q) (next0 : GI rf mem N → zW X (d + 1) 330 1213 [(3, 0), (2, 0), (2, 261), (0, i)] [] (zty, rf, mem) Q) : zW X (d + 1) 330 33 [(3, 0), (2, 0), (2, 261), (0, i)] [(0, zand (X.2 i.toNat) 63)] (zty, rf, mem) Q := by
  generalize hv : zand (X.2 i.toNat) 63 = v
  have hvI : inI v := by rw [← hv]; exact zand_inI _ _
  by_cases hr : 0 ≤ v ∧ v ≤ 34
  · obtain ⟨p, pl, sc, ft, hs, c, f, u, tb, h⟩ := id hg
    by_cases e0 : v = 0
    · refine w_tabIn 188 rfl (by decide) hvI (by omega) (by rw [e0]; rfl) rfl ?_
      exact lc_0 hi (p_feed h hd ) (fun m2 g => next rf m2 g)
    by_cases e1 : v = 1
    · refine w_tabIn 251 rfl (by decide) hvI (by omega) (by rw [e1]; rfl) rfl ?_
      exact lc_1 hi (p_end h hd (hx _)) (fun m2 g => next rf m2 g)
    by_cases e2 : v = 2
    · refine w_tabIn 274 rfl (by decide) hvI (by omega) (by rw [e2]; rfl) rfl ?_
      exact room hg (by omega) hi.1 hi.2 next
    by_cases e3 : v = 3
    · refine w_tabIn 287 rfl (by decide) hvI (by omega) (by rw [e3]; rfl) rfl ?_
      exact lc_3 hi (p_fault h (hx _)) (fun m2 g => next rf m2 g)
    by_cases e4 : v = 4
    · refine w_tabIn 310 rfl (by decide) hvI (by omega) (by rw [e4]; rfl) rfl ?_
      exact lc_4 hi (p_has h hd (hx _)) (fun m2 g => next rf m2 g)
    by_cases e5 : v = 5
    · refine w_tabIn 333 rfl (by decide) hvI (by omega) (by rw [e5]; rfl) rfl ?_
      exact lc_5 hi (p_letter h hd (hx _) (hx _) (hx _)) (fun m2 g => next rf m2 g)
    by_cases e6 : v = 6
    · refine w_tabIn 376 rfl (by decide) hvI (by omega) (by rw [e6]; rfl) rfl ?_
      exact lc_6 hi (p_lamp h hd (hx _)) (fun m2 g => next rf m2 g)
    by_cases e7 : v = 7
    · refine w_tabIn 399 rfl (by decide) hvI (by omega) (by rw [e7]; rfl) rfl ?_
      exact lc_7 hi (p_door h hd (hx _) (hx _)) (fun m2 g => next rf m2 g)
    by_cases e8 : v = 8
    · refine w_tabIn 432 rfl (by decide) hvI (by omega) (by rw [e8]; rfl) rfl ?_
      exact lc_8 hi (p_heir h hd (hx _) (hx _)) (fun m2 g => next rf m2 g)
    by_cases e9 : v = 9
    · refine w_tabIn 465 rfl (by decide) hvI (by omega) (by rw [e9]; rfl) rfl ?_
      exact lc_9 hi (p_bubble h hd (hx _) (hx _)) (fun m2 g => next rf m2 g)
    by_cases e10 : v = 10
    · refine w_tabIn 498 rfl (by decide) hvI (by omega) (by rw [e10]; rfl) rfl ?_
      exact lc_10 hi (p_deed h hd (hx _) (hx _)) (fun m2 g => next rf m2 g)
    by_cases e11 : v = 11
    · refine w_tabIn 531 rfl (by decide) hvI (by omega) (by rw [e11]; rfl) rfl ?_
      exact lc_11 hi (p_draught h hd (hx _) (hx _)) (fun m2 g => next rf m2 g)
    by_cases e12 : v = 12
    · refine w_tabIn 564 rfl (by decide) hvI (by omega) (by rw [e12]; rfl) rfl ?_
      exact lc_12 hi (p_later h hd (hx _) (hx _) (hx _)) (fun m2 g => next rf m2 g)
    by_cases e13 : v = 13
    · refine w_tabIn 607 rfl (by decide) hvI (by omega) (by rw [e13]; rfl) rfl ?_
      exact lc_13 hi (p_goes h hd (hx _)) (fun m2 g => next rf m2 g)
    by_cases e14 : v = 14
    · refine w_tabIn 630 rfl (by decide) hvI (by omega) (by rw [e14]; rfl) rfl ?_
      exact lc_14 hi (p_owner h hd (hx _) (hx _)) (fun m2 g => next rf m2 g)
    by_cases e15 : v = 15
    · refine w_tabIn 663 rfl (by decide) hvI (by omega) (by rw [e15]; rfl) rfl ?_
      exact lc_15 hi (p_doors h hd (hx _) (hx _) (hx _)) (fun m2 g => next rf m2 g)
    by_cases e16 : v = 16
    · refine w_tabIn 706 rfl (by decide) hvI (by omega) (by rw [e16]; rfl) rfl ?_
      exact lc_16 hi (p_stand h hd (hx _) (hx _) (hx _)) (fun m2 g => next rf m2 g)
    by_cases e17 : v = 17
    · refine w_tabIn 749 rfl (by decide) hvI (by omega) (by rw [e17]; rfl) rfl ?_
      exact lc_17 hi (p_shine h hd (hx _) (hx _)) (fun m2 g => next rf m2 g)
    by_cases e18 : v = 18
    · refine w_tabIn 782 rfl (by decide) hvI (by omega) (by rw [e18]; rfl) rfl ?_
      exact lc_18 hi (p_lasts h hd (hx _) (hx _)) (fun m2 g => next rf m2 g)
    by_cases e19 : v = 19
    · refine w_tabIn 815 rfl (by decide) hvI (by omega) (by rw [e19]; rfl) rfl ?_
      exact lc_19 hi (p_odds h hd (hx _) (hx _)) (fun m2 g => next rf m2 g)
    by_cases e20 : v = 20
    · refine w_tabIn 848 rfl (by decide) hvI (by omega) (by rw [e20]; rfl) rfl ?_
      exact lc_20 hi (p_feel h hd ) (fun m2 g => next rf m2 g)
    by_cases e21 : v = 21
    · refine w_tabIn 861 rfl (by decide) hvI (by omega) (by rw [e21]; rfl) rfl ?_
      exact lc_21 hi (p_from h hd (hx _) (hx _)) (fun m2 g => next rf m2 g)
    by_cases e22 : v = 22
    · refine w_tabIn 894 rfl (by decide) hvI (by omega) (by rw [e22]; rfl) rfl ?_
      exact lc_22 hi (p_tells h hd (hx _) (hx _)) (fun m2 g => next rf m2 g)
    by_cases e23 : v = 23
    · refine w_tabIn 927 rfl (by decide) hvI (by omega) (by rw [e23]; rfl) rfl ?_
      exact lc_23 hi (p_seconds h hd (hx _)) (fun m2 g => next rf m2 g)
    by_cases e24 : v = 24
    · refine w_tabIn 950 rfl (by decide) hvI (by omega) (by rw [e24]; rfl) rfl ?_
      exact lc_24 hi (p_chance h hd (hx _)) (fun m2 g => next rf m2 g)
    by_cases e25 : v = 25
    · refine w_tabIn 973 rfl (by decide) hvI (by omega) (by rw [e25]; rfl) rfl ?_
      exact lc_25 hi (p_swing h hd (hx _) (hx _)) (fun m2 g => next rf m2 g)
    by_cases e26 : v = 26
    · refine w_tabIn 1006 rfl (by decide) hvI (by omega) (by rw [e26]; rfl) rfl ?_
      exact lc_26 hi (p_tiptoe h hd (hx _) (hx _)) (fun m2 g => next rf m2 g)
    by_cases e27 : v = 27
    · refine w_tabIn 1039 rfl (by decide) hvI (by omega) (by rw [e27]; rfl) rfl ?_
      exact lc_27 hi (p_carry h hd (hx _) (hx _)) (fun m2 g => next rf m2 g)
    by_cases e28 : v = 28
    · refine w_tabIn 1072 rfl (by decide) hvI (by omega) (by rw [e28]; rfl) rfl ?_
      exact lc_28 hi (p_undo h hd ) (fun m2 g => next rf m2 g)
    by_cases e29 : v = 29
    · refine w_tabIn 1085 rfl (by decide) hvI (by omega) (by rw [e29]; rfl) rfl ?_
      exact lc_29 hi (p_seed h hd (hx _)) (fun m2 g => next rf m2 g)
    by_cases e30 : v = 30
    · refine w_tabIn 1108 rfl (by decide) hvI (by omega) (by rw [e30]; rfl) rfl ?_
      exact lc_30 hi (p_kept h hd (hx _) (hx _)) (fun m2 g => next rf m2 g)
    by_cases e31 : v = 31
    · refine w_tabIn 1141 rfl (by decide) hvI (by omega) (by rw [e31]; rfl) rfl ?_
      exact lc_31 hi (p_image h hd ) (fun m2 g => next rf m2 g)
    by_cases e32 : v = 32
    · refine w_tabIn 1154 rfl (by decide) hvI (by omega) (by rw [e32]; rfl) rfl ?_
      exact lc_32 hi (p_octet h hd (hx _)) (fun m2 g => next rf m2 g)
    by_cases e33 : v = 33
    · refine w_tabIn 1177 rfl (by decide) hvI (by omega) (by rw [e33]; rfl) rfl ?_
      exact lc_33 hi (p_on h hd ) (fun m2 g => next rf m2 g)
    by_cases e34 : v = 34
    · refine w_tabIn 1190 rfl (by decide) hvI (by omega) (by rw [e34]; rfl) rfl ?_
      exact lc_34 hi (p_status h hd (by omega) (hx _)) (fun m2 g => next rf m2 g)
    omega
  · exact w_tabOut 1213 rfl (by decide) hvI (by omega) rfl (next0 hg)
set_option maxRecDepth 4000 in
theorem lw_loop {X : zX} {d : Nat} (hd : 20 ≤ d) (hL : X.1 ≤ 384) (hx : ∀ j, inI (X.2 j)) (room : RoomOK X d) : ∀ (n : Nat) {rf mem : zF} {i N : Int}, GI rf mem N → 0 ≤ N → 6 * N ≤ i → 0 ≤ i → i ≤ 400 → (X.1 : Int) < i + 6 * n + 6 → zW X (d + 1) 330 18 [(3, 0), (2, 0), (2, 261), (0, i)] [] (zty, rf, mem) (fun v S => v = some (0, 1) ∧ S.1 = zty) := by
  intro n
  induction n with
  | zero =>
    intro rf mem i N hg hN h6 h0 h4 hn
    refine zW.go 2 20 [(3, 0), (2, 0), (2, 261), (0, i)] [(3, 0), (0, i)] _ rfl ?_
    refine w_slen rfl (by decide) (pc' := 21) rfl ?_
    refine zW.go 2 24 [(3, 0), (2, 0), (2, 261), (0, i)] [(0, (X.1 : Int) - 6), (0, i)] _ rfl ?_
    refine w_ic_gt rfl (by decide) (pc' := 27) rfl (by omega) (fun _ => ?_) (fun q => absurd (by omega) q)
    refine zW.go 1 1220 [(3, 0), (2, 0), (2, 261), (0, i)] [(0, 1)] _ rfl ?_
    exact zW.ret _ rfl rfl ⟨rfl, rfl⟩
  | succ n ih =>
    intro rf mem i N hg hN h6 h0 h4 hn
    refine zW.go 2 20 [(3, 0), (2, 0), (2, 261), (0, i)] [(3, 0), (0, i)] _ rfl ?_
    refine w_slen rfl (by decide) (pc' := 21) rfl ?_
    refine zW.go 2 24 [(3, 0), (2, 0), (2, 261), (0, i)] [(0, (X.1 : Int) - 6), (0, i)] _ rfl ?_
    refine w_ic_gt rfl (by decide) (pc' := 27) rfl (by omega) (fun _ => ?_) (fun q => ?_)
    · refine zW.go 1 1220 [(3, 0), (2, 0), (2, 261), (0, i)] [(0, 1)] _ rfl ?_
      exact zW.ret _ rfl rfl ⟨rfl, rfl⟩
    · refine zW.go 2 29 [(3, 0), (2, 0), (2, 261), (0, i)] [(0, i), (3, 0)] _ rfl ?_
      refine w_sld rfl (by decide) (pc' := 30) rfl (by omega) rfl ?_
      refine zW.go 2 33 [(3, 0), (2, 0), (2, 261), (0, i)] [(0, zand (X.2 i.toNat) 63)] _ rfl ?_
      refine lw_case hd hL hx room hg (by omega) (by omega) (fun rf2 m2 g => ?_) (fun g => ?_)
      · refine zW.go 2 18 [(3, 0), (2, 0), (2, 261), (0, i + 6)] [] _ rfl ?_
        exact ih g (by omega) (by omega) (by omega) (by omega) (by omega)
      · refine zW.go 2 18 [(3, 0), (2, 0), (2, 261), (0, i + 6)] [] _ rfl ?_
        exact ih g (by omega) (by omega) (by omega) (by omega) (by omega)
