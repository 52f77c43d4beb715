/-! the start: more of what the two objects hold -/
def zM1 : List (Nat × Nat × Int) := [(31, 0, 0), (31, 1, 0), (31, 2, 0), (31, 3, 0), (31, 4, 0), (31, 5, 0), (31, 6, 0), (31, 7, 0), (31, 8, 0), (31, 9, 0), (31, 10, 0), (31, 11, 0), (31, 12, 0), (31, 13, 0), (31, 14, 0), (31, 15, 0), (31, 16, 0), (31, 17, 0), (31, 18, 0), (31, 19, 0), (31, 20, 0), (31, 21, 0), (31, 22, 0), (31, 23, 0), (244, 0, 0), (244, 1, 0), (244, 2, 0), (244, 3, 0), (244, 4, 0), (244, 5, 0), (244, 6, 0), (244, 7, 0), (244, 8, 0), (244, 9, 0), (244, 10, 0), (244, 11, 0), (244, 12, 0), (244, 13, 0), (244, 14, 0), (244, 15, 0), (244, 16, 0), (244, 17, 0), (244, 18, 0), (244, 19, 0), (244, 20, 0), (244, 21, 0), (244, 22, 0), (244, 23, 0), (245, 0, 0), (245, 1, 0), (245, 2, 0), (245, 3, 0), (245, 4, 0), (245, 5, 0), (248, 0, 0), (248, 1, 0), (248, 2, 0), (248, 3, 0), (248, 4, 0), (248, 5, 0), (248, 6, 0), (248, 7, 0), (248, 8, 0), (248, 9, 0), (248, 10, 0), (248, 11, 0), (248, 12, 0), (248, 13, 0), (248, 14, 0), (248, 15, 0), (248, 16, 0), (248, 17, 0), (263, 0, 0), (264, 0, 0), (266, 0, 0), (271, 0, 0), (274, 0, 0), (278, 0, 0), (292, 0, 0), (292, 1, 0), (292, 2, 0), (292, 3, 0), (292, 4, 0), (292, 5, 0), (293, 0, 0), (295, 0, 0), (303, 0, 0)]
def zchk1 : Bool := match zR_a with
  | none => false
  | some (none, S) => (S.1.length == 261) && (match zexec2 zX0 100000 12 193 0 (zpad 2 [(2, 261)]) [] (zS_b S) with
    | none => false
    | some (none, S2) => decide (S2.1 = zty) && zall S2.2.1 zRL && zall S2.2.2 zM0 && zall S2.2.2 zM1
    | some (some _, _) => false)
  | some (some _, _) => false
theorem zchk1_ok : zchk1 = true := by decide +kernel
theorem zlaw_start2 {X : zX} {d : Nat} {Q : Option zV → zS → Prop} (k : ∀ rf mem : zF, zall rf zRL = true → zall mem zM0 = true → zall mem zM1 = true → zW X (d + 13) 330 16 [(3, 0), (2, 0), (2, 261), (9, 0)] [] (zty, rf, mem) Q) : zW X (d + 13) 330 0 [(3, 0), (9, 0), (9, 0), (9, 0)] [] ([], fun _ _ => -1, fun _ _ => 0) Q := by
  have hz := zchk1_ok
  unfold zchk1 at hz
  split at hz
  · cases hz
  · next S ha =>
    rw [Bool.and_eq_true] at hz
    obtain ⟨hlen, hz⟩ := hz
    have hlen : S.1.length = 261 := beq_iff_eq.mp hlen
    split at hz
    · cases hz
    · next S2 hb =>
      simp only [Bool.and_eq_true, decide_eq_true_eq] at hz
      obtain ⟨⟨⟨z1, z2⟩, z3⟩, z4⟩ := hz
      have i0 : zInv (znF zcl) [(2, 0)] [] zS_a := ⟨by decide, rfl, by decide +kernel⟩
      obtain ⟨a1, a2⟩ := zexec2_ok _ _ _ _ _ _ _ _ _ i0 ha
      have a3 := (zexec_X (X := X) _ _ _ _ _ _ _ _ _ rfl rfl a1).1
      have i1 : zInv (znF zcl) (zpad 2 [(2, 261)]) [] (zS_b S) := by
        refine ⟨?_, rfl, ?_⟩
        · show zvok (S.1 ++ [(0, 11)]).length _ = true
          rw [List.length_append, hlen]
          decide
        · exact zrok_push a2.2.2
      obtain ⟨b1, b2⟩ := zexec2_ok _ _ _ _ _ _ _ _ _ i1 hb
      have b3 := (zexec_X (X := X) _ _ _ _ _ _ _ _ _ rfl rfl b1).1
      refine zW.step 3 [(3, 0), (9, 0), (9, 0), (9, 0)] [(2, 0)] zS_a (i := .new 7) (len := 3) (a := 10) (b := 0) (c := 0) rfl (by decide) (by decide) rfl ?_
      refine zW.step 4 [(3, 0), (9, 0), (9, 0), (9, 0)] [(2, 0), (2, 0)] zS_a (i := .dup) (len := 1) (a := 0) (b := 0) (c := 0) rfl (by decide) (by decide) rfl ?_
      refine zW.call (i := .invokespecial 9) (a := 1) (b := 148) [(2, 0)] [(2, 0)] 7 rfl rfl rfl rfl (by decide) (by decide) (by decide) (Or.inr rfl) ?_
      refine ⟨_, _, _, by have := zexec_deep a3 d; rw [Nat.add_comm] at this; exact this, Or.inr ⟨rfl, rfl⟩, ?_⟩
      refine zW.step 8 [(3, 0), (2, 0), (9, 0), (9, 0)] [] S (i := .astore_n 1) (len := 1) (a := 0) (b := 0) (c := 0) rfl (by decide) (by decide) rfl ?_
      refine zW.step 11 [(3, 0), (2, 0), (9, 0), (9, 0)] [(2, 261)] (zS_b S) (i := .new 10) (len := 3) (a := 11) (b := 0) (c := 0) rfl (by decide) (by decide) ?_ ?_
      · unfold zstep znew
        dsimp only
        rw [a2.2.2, hlen]
        rw [if_pos (by decide)]
        unfold zS_b
        rw [hlen]
        rfl
      refine zW.step 12 [(3, 0), (2, 0), (9, 0), (9, 0)] [(2, 261), (2, 261)] (zS_b S) (i := .dup) (len := 1) (a := 0) (b := 0) (c := 0) rfl (by decide) (by decide) rfl ?_
      have hrc : zrcv [(2, 261)] (zS_b S).1 (zinf 193).1 = true := by
        unfold zrcv zS_b
        dsimp only
        have e1 : (S.1 ++ [((0 : Nat), (11 : Nat))])[261]? = some (0, 11) := by
          rw [List.getElem?_append_right (by omega), hlen]
          rfl
        rw [show (261 : Int).toNat = 261 from rfl, e1]
        rfl
      refine zW.call (i := .invokespecial 12) (a := 1) (b := 193) [(2, 261)] [(2, 261)] 15 rfl rfl rfl rfl (by decide) (by decide) (by decide) (Or.inr hrc) ?_
      have hlb : (zS_b S).1.length = 262 := by
        show (S.1 ++ [(0, 11)]).length = 262
        rw [List.length_append, hlen]
        rfl
      refine ⟨_, _, _, by have := zexec_deep b3 d; rw [Nat.add_comm] at this; exact this, Or.inr ⟨by rw [hlb]; rfl, by rw [hlb]; rfl⟩, ?_⟩
      refine zW.step 16 [(3, 0), (2, 0), (2, 261), (9, 0)] [] S2 (i := .astore_n 2) (len := 1) (a := 0) (b := 0) (c := 0) rfl (by decide) (by decide) rfl ?_
      obtain ⟨ty2, rf2, mem2⟩ := S2
      dsimp only at z1 z2 z3 z4
      subst z1
      exact k rf2 mem2 z2 z3 z4
    · cases hz
  · cases hz

theorem zsub {f : zF} {l l2 : List (Nat × Nat × Int)} (h : zall f l = true) (hs : l2.all (fun q => decide (q ∈ l)) = true) : zall f l2 = true := by
  unfold zall
  refine List.all_eq_true.mpr (fun q hq => decide_eq_true ?_)
  obtain ⟨a, k, v⟩ := q
  exact zall_at h (of_decide_eq_true (List.all_eq_true.mp hs (a, k, v) hq))
theorem zrowf {f : zF} {l : List (Nat × Nat × Int)} (h : zall f l = true) (a n : Nat) (v : Int) (hc : (List.range n).all (fun k => decide ((a, k, v) ∈ l)) = true) {k : Nat} (hk : k < n) : f a k = v := zall_at h (of_decide_eq_true (List.all_eq_true.mp hc k (List.mem_range.mpr hk)))
theorem gi_start {rf mem : zF} (hr : zall rf zRL = true) (h0 : zall mem zM0 = true) (h1 : zall mem zM1 = true) : GI rf mem 0 := by
  have hR : zall rf zRK = true := zsub hr (by decide +kernel)
  have e08 : rf 0 8 = 246 := zall_at hr (by decide +kernel)
  have e31 : rf 3 1 = 8 := zall_at hr (by decide +kernel)
  have m60 : mem 246 0 = 0 := zall_at h0 (by decide +kernel)
  have m61 : mem 246 1 = 0 := zall_at h0 (by decide +kernel)
  have m62 : mem 246 2 = 0 := zall_at h0 (by decide +kernel)
  have m63 : mem 246 3 = -1 := zall_at h0 (by decide +kernel)
  have m64 : mem 246 4 = 0 := zall_at h0 (by decide +kernel)
  have m65 : mem 246 5 = 0 := zall_at h0 (by decide +kernel)
  have m70 : mem 247 0 = 0 := zall_at h0 (by decide +kernel)
  have m71 : mem 247 1 = 0 := zall_at h0 (by decide +kernel)
  have m72 : mem 247 2 = 0 := zall_at h0 (by decide +kernel)
  have s0 : mem 23 0 = 0 := zall_at h0 (by decide +kernel)
  have s1 : mem 23 1 = -1 := zall_at h0 (by decide +kernel)
  have s2 : mem 23 2 = 0 := zall_at h0 (by decide +kernel)
  have s11 : mem 23 11 = 0 := zall_at h0 (by decide +kernel)
  have r24 : ∀ k, k < 6 → mem 24 k = -1 := fun k hk => zrowf h0 24 6 (-1) (by decide +kernel) hk
  have r25 : ∀ k, k < 6 → mem 25 k = -1 := fun k hk => zrowf h0 25 6 (-1) (by decide +kernel) hk
  have r26 : ∀ k, k < 6 → mem 26 k = 0 := fun k hk => zrowf h0 26 6 0 (by decide +kernel) hk
  have r27 : ∀ k, k < 6 → mem 27 k = 0 := fun k hk => zrowf h0 27 6 0 (by decide +kernel) hk
  have r28 : ∀ k, k < 6 → mem 28 k = 0 := fun k hk => zrowf h0 28 6 0 (by decide +kernel) hk
  have r29 : ∀ k, k < 6 → mem 29 k = -1 := fun k hk => zrowf h0 29 6 (-1) (by decide +kernel) hk
  have r30 : ∀ k, k < 6 → mem 30 k = 0 := fun k hk => zrowf h0 30 6 0 (by decide +kernel) hk
  have r31 : ∀ k, k < 24 → mem 31 k = 0 := fun k hk => zrowf h1 31 24 0 (by decide +kernel) hk
  have r244 : ∀ k, k < 24 → mem 244 k = 0 := fun k hk => zrowf h1 244 24 0 (by decide +kernel) hk
  have r245 : ∀ k, k < 6 → mem 245 k = 0 := fun k hk => zrowf h1 245 6 0 (by decide +kernel) hk
  have r292 : ∀ k, k < 6 → mem 292 k = 0 := fun k hk => zrowf h1 292 6 0 (by decide +kernel) hk
  have r248 : ∀ k, k < 18 → mem 248 k = 0 := fun k hk => zrowf h1 248 18 0 (by decide +kernel) hk
  have r257 : ∀ k, k < 3 → mem 257 k = -1 := fun k hk => zrowf h0 257 3 (-1) (by decide +kernel) hk
  have r258 : ∀ k, k < 3 → mem 258 k = -1 := fun k hk => zrowf h0 258 3 (-1) (by decide +kernel) hk
  have r279 : ∀ k, k < 6 → mem 279 k = -1 := fun k hk => zrowf h0 279 6 (-1) (by decide +kernel) hk
  have b13 : mem 261 13 = 0 := zall_at h0 (by decide +kernel)
  have b50 : mem 261 50 = 0 := zall_at h0 (by decide +kernel)
  have c263 : mem 263 0 = 0 := zall_at h1 (by decide +kernel)
  have c264 : mem 264 0 = 0 := zall_at h1 (by decide +kernel)
  have c266 : mem 266 0 = 0 := zall_at h1 (by decide +kernel)
  have c271 : mem 271 0 = 0 := zall_at h1 (by decide +kernel)
  have c274 : mem 274 0 = 0 := zall_at h1 (by decide +kernel)
  have c278 : mem 278 0 = 0 := zall_at h1 (by decide +kernel)
  have c293 : mem 293 0 = 0 := zall_at h1 (by decide +kernel)
  have c294 : mem 294 0 = -1 := zall_at h0 (by decide +kernel)
  have c295 : mem 295 0 = 0 := zall_at h1 (by decide +kernel)
  have c303 : mem 303 0 = 0 := zall_at h1 (by decide +kernel)
  generalize hpl : (fun (s k : Nat) => if s = 13 then mem 281 k else if s = 14 then mem 282 k else mem (246 + s) k) = pl
  have P0 : pl 0 = mem 246 := by rw [← hpl]; rfl
  have P1 : pl 1 = mem 247 := by rw [← hpl]; rfl
  have P2 : pl 2 = mem 248 := by rw [← hpl]; rfl
  have P11 : pl 11 = mem 257 := by rw [← hpl]; rfl
  have P12 : pl 12 = mem 258 := by rw [← hpl]; rfl
  have P13 : pl 13 = mem 281 := by rw [← hpl]; rfl
  have P14 : pl 14 = mem 282 := by rw [← hpl]; rfl
  have hWP : WP pl := by
    unfold WP
    rw [P0, P1, m60, m61, m62, m63, m64, m65, m70, m71, m72]
    refine ⟨by decide, Or.inl (by decide), Or.inl rfl, by decide, by decide, fun k a b => by omega, fun k a b => by omega, fun k a b => by omega, trivial, by decide⟩
  have hWR : WR3 pl := by
    unfold WR3 ROK
    rw [P11, P12]
    exact ⟨Or.inl ⟨r257 0 (by decide), r258 0 (by decide)⟩, Or.inl ⟨r257 1 (by decide), r258 1 (by decide)⟩, Or.inl ⟨r257 2 (by decide), r258 2 (by decide)⟩⟩
  generalize hsc : (fun (s k : Nat) => mem (23 + s) k) = sc
  have S0 : sc 0 = mem 23 := by rw [← hsc]
  have S1 : sc 1 = mem 24 := by rw [← hsc]
  have S2 : sc 2 = mem 25 := by rw [← hsc]
  have S3 : sc 3 = mem 26 := by rw [← hsc]
  have S4 : sc 4 = mem 27 := by rw [← hsc]
  have S5 : sc 5 = mem 28 := by rw [← hsc]
  have S6 : sc 6 = mem 29 := by rw [← hsc]
  have S7 : sc 7 = mem 30 := by rw [← hsc]
  have S8 : sc 8 = mem 31 := by rw [← hsc]
  have hWS : WS pl sc := by
    have fl := aFlo_6 sc
    unfold WS
    rw [S0, s0, s1, s2, s11]
    refine ⟨by decide, Or.inl rfl, by decide, ⟨by decide, by omega⟩, fun k k0 k6 => ?_, fun k d k0 k6 d0 d6 hb => ?_, fun j hj => by rw [S8, r31 j hj]; decide⟩
    · unfold WB
      rw [S1, S2, S3, S4, S5, S6, S7, r24 _ (by omega), r25 _ (by omega), r26 _ (by omega), r27 _ (by omega), r28 _ (by omega), r29 _ (by omega), r30 _ (by omega), P1, m71, m72]
      exact ⟨fun q => absurd q (by omega), fun _ => rfl, Or.inl ⟨rfl, rfl, rfl, rfl⟩, by decide, by decide, by decide, by decide, fun _ => rfl, by decide, fun _ => rfl⟩
    · rw [S5, r28 _ (by omega), zbit_z ⟨d0, d6⟩] at hb
      omega
  refine ⟨246, pl, sc, fun _ _ => 0, fun _ => sc, 0, 0, 0, fun _ => 0, ⟨⟨hR, zPln_246 hR, e08, Or.inr rfl, zRul_255 hR⟩, ?_, ?_⟩, ⟨hWP, hWR, hWS, by rw [S0, s0]; decide⟩, ⟨hR, ?_, ?_⟩, ?_, ?_, ?_⟩
  · intro s h1 h2
    rw [← hpl]
    funext k
    show mem (246 + s) k = if s = 13 then mem 281 k else if s = 14 then mem 282 k else mem (246 + s) k
    rw [if_neg (by omega), if_neg (by omega)]
  · intro s k _
    rw [← hsc]
  · have e13 : (0 : Int).toNat = 0 := rfl
    unfold RP
    rw [b13, b50, e13, c263, c264, c266, c271, c274, c278, P0, P1, m61, m62, m64, m70, m71, m72]
    refine ⟨by decide, rfl, ⟨rfl, rfl⟩, ⟨rfl, rfl, rfl, rfl⟩, fun k a b => by omega, fun k a b => by omega, ?_⟩
    unfold RC
    rw [b13, P11, P12, P13, P14]
    refine ⟨by decide, fun r hr3 => ⟨?_, fun q => absurd (r257 r hr3) q⟩, fun j hj => ⟨?_, ?_⟩⟩
    · have e : (3 * 0 + (r : Int)).toNat = r := by omega
      rw [e, r257 r hr3, r279 r (by omega)]
    · have e : (1600 * 0 + (j : Int)).toNat = j := by omega
      rw [e]
    · have e : (1600 * 0 + (j : Int)).toNat = j := by omega
      rw [e]
  · have e13 : (0 : Int).toNat = 0 := rfl
    unfold RV
    rw [e13, c293, c294, c295, c303, S0, s0, s1, s2, s11, P1, m71, m72]
    exact ⟨⟨rfl, rfl, rfl, rfl⟩, fun k a b => by omega, fun s k _ _ a b => by omega, fun j a b => by omega⟩
  · exact ⟨⟨zall_at h0 (by decide +kernel), zall_at h0 (by decide +kernel), zall_at h0 (by decide +kernel), zall_at h0 (by decide +kernel)⟩, by decide, by decide, by decide, fun k a b => by omega, fun k a b => by omega, fun k a b => by omega⟩
  · have a : mem 0 9 = 1 := zall_at h0 (by decide +kernel)
    have b : mem 261 66 = 1 := zall_at h0 (by decide +kernel)
    unfold SD
    rw [a, b]
    decide
  · have t1 : mem 1 1 = 0 := zall_at h0 (by decide +kernel)
    have t2 : mem 261 1 = 0 := zall_at h0 (by decide +kernel)
    have i1 : mem 234 1 = 0 := zall_at h0 (by decide +kernel)
    have i2 : mem 261 78 = 0 := zall_at h0 (by decide +kernel)
    have f1 : mem 3 3 = 0 := zall_at h0 (by decide +kernel)
    have f2 : mem 3 4 = -1 := zall_at h0 (by decide +kernel)
    have f3 : mem 261 10 = 0 := zall_at h0 (by decide +kernel)
    have f4 : mem 261 11 = -1 := zall_at h0 (by decide +kernel)
    have w1 : mem 35 7 = 0 := zall_at h0 (by decide +kernel)
    have w2 : mem 261 70 = 0 := zall_at h0 (by decide +kernel)
    refine ⟨⟨⟨by decide, fun k a b => ?_⟩, ⟨w1, fun k a b => ?_⟩, ⟨w2, fun k a b => ?_⟩⟩, ⟨by rw [t1, t2], by rw [t1]; decide, fun j hj => by omega⟩, ⟨by rw [i1, i2], by rw [i1]; decide, fun j hj => by omega, fun j hj => by rw [r244 j hj]; decide⟩, fun j hj => by rw [r245 j hj, r292 j hj]; decide, ⟨by rw [f1, f3], by rw [f2, f4], by rw [f1]; decide, by rw [f2]; decide⟩, fun s k hs a b => ?_, ⟨e31, fun j hj => ?_⟩⟩
    · exact absurd b (by show ¬ k < 0; omega)
    · exact absurd b (by show ¬ k < 0; omega)
    · exact absurd b (by show ¬ k < 0; omega)
    · rw [P1] at b
      have hs3 : s = 0 ∨ s = 1 ∨ s = 2 := by omega
      rcases hs3 with rfl | rfl | rfl
      · omega
      · omega
      · omega
    · have hall : (List.range 27).all (fun j => decide ((5, j, zow.getD j 0) ∈ zM0)) = true := by decide +kernel
      exact zall_at h0 (of_decide_eq_true (List.all_eq_true.mp hall j (List.mem_range.mpr hj)))
/-- the law answers yes on every script, once room is shown -/
theorem law_all {X : zX} (hL : X.1 ≤ 384) (hx : ∀ j, inI (X.2 j)) (room : RoomOK X 112) : ∃ (n : Nat) (S' : zS), zexec zcod zinf (znF zcl) X n 113 330 0 [(3, 0), (9, 0), (9, 0), (9, 0)] [] ([], fun _ _ => -1, fun _ _ => 0) = some (some (0, 1), S') ∧ S'.1.length ≤ 600000 ∧ zsl (znF zcl) S'.1 ≤ 7302250 := by
  have h : zW X (100 + 13) 330 0 [(3, 0), (9, 0), (9, 0), (9, 0)] [] ([], fun _ _ => -1, fun _ _ => 0) (fun v S => v = some (0, 1) ∧ S.1 = zty) := by
    refine zlaw_start2 (d := 100) (fun rf mem h0 h1 h2 => ?_)
    refine zW.go 2 18 [(3, 0), (2, 0), (2, 261), (0, 0)] [] _ rfl ?_
    exact lw_loop (d := 112) (by decide) hL hx room 64 (gi_start h0 h1 h2) (by decide) (by decide) (by decide) (by decide) (by omega)
  obtain ⟨n, r, S', h1, h2, h3⟩ := h
  refine ⟨n, S', by rw [h1, h2], ?_, ?_⟩
  · rw [h3]; decide +kernel
  · rw [h3]; decide +kernel
