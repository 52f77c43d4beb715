theorem zexec_deep1 {cod : Nat → Nat → Option zE} {inf : Nat → Nat × Nat × Nat} {nF : Nat → Nat} {X : zX} : ∀ (n d M pc : Nat) (ls st : List zV) (S : zS) (r : Option zV) (S' : zS), zexec cod inf nF X n d M pc ls st S = some (r, S') → zexec cod inf nF X n (d + 1) M pc ls st S = some (r, S')
  | 0, _, _, _, _, _, _, _, _, h => by unfold zexec at h; cases h
  | n + 1, d, M, pc, ls, st, S, r, S', h => by
    unfold zexec at h
    unfold zexec
    split at h
    · cases h
    · next i len a b c hc =>
      split at h
      · next hc1 =>
        rw [if_pos hc1]
        dsimp only
        split at h
        · cases h
        · next d' =>
          split at h
          · next g =>
            rw [if_pos g]
            split at h
            · next g2 =>
              rw [if_pos g2]
              split at h
              · cases h
              · next r1 S1 h1 =>
                rw [zexec_deep1 n _ _ _ _ _ _ _ _ h1]
                dsimp only
                split at h
                · next g3 =>
                  rw [if_pos g3]
                  exact zexec_deep1 n _ _ _ _ _ _ _ _ h
                · cases h
            · cases h
          · cases h
      · next hc1 =>
        rw [if_neg hc1]
        split at h
        · next hc2 => rw [if_pos hc2]; exact h
        · next hc2 =>
          rw [if_neg hc2]
          split at h
          · cases h
          · next pc' ls' st' S1 h1 =>
            exact zexec_deep1 n _ _ _ _ _ _ _ _ h
theorem zexec_deep {cod : Nat → Nat → Option zE} {inf : Nat → Nat × Nat × Nat} {nF : Nat → Nat} {X : zX} {n d M pc : Nat} {ls st : List zV} {S : zS} {r : Option zV} {S' : zS} (h : zexec cod inf nF X n d M pc ls st S = some (r, S')) : ∀ k, zexec cod inf nF X n (d + k) M pc ls st S = some (r, S')
  | 0 => h
  | k + 1 => zexec_deep1 _ _ _ _ _ _ _ _ _ (zexec_deep h k)
theorem zW.deep {X : zX} {d d' M pc : Nat} {ls st : List zV} {S : zS} {Q : Option zV → zS → Prop} (h : zW X d M pc ls st S Q) (hd : d ≤ d') : zW X d' M pc ls st S Q := by
  obtain ⟨n, r, S', h1, h2⟩ := h
  obtain ⟨k, rfl⟩ := Nat.exists_eq_add_of_le hd
  exact ⟨n, r, S', zexec_deep h1 k, h2⟩
theorem zall_at {f : zF} {l : List (Nat × Nat × Int)} (h : zall f l = true) {a k : Nat} {v : Int} (hm : (a, k, v) ∈ l) : f a k = v := of_decide_eq_true (List.all_eq_true.mp h (a, k, v) hm)
theorem zlaw_start {X : zX} {d : Nat} {Q : Option zV → zS → Prop} (k : ∀ rf mem : zF, zall rf zRL = true → zall mem zM0 = true → zW X (d + 13) 330 16 [(3, 0), (2, 0), (2, 261), (9, 0)] [] (zty, rf, mem) Q) : zW X (d + 13) 330 0 [(3, 0), (9, 0), (9, 0), (9, 0)] [] ([], fun _ _ => -1, fun _ _ => 0) Q := by
  have hz := zchk0_ok
  unfold zchk0 at hz
  split at hz
  · cases hz
  · next S ha =>
    rw [Bool.and_eq_true] at hz
    obtain ⟨hlen, hz⟩ := hz
    have hlen : S.1.length = 261 := beq_iff_eq.mp hlen
    split at hz
    · cases hz
    · next S2 hb =>
      simp only [Bool.and_eq_true, decide_eq_true_eq] at hz
      obtain ⟨⟨z1, z2⟩, z3⟩ := hz
      have i0 : zInv (znF zcl) [(2, 0)] [] zS_a := ⟨by decide, rfl, by decide +kernel⟩
      obtain ⟨a1, a2⟩ := zexec2_ok _ _ _ _ _ _ _ _ _ i0 ha
      have a3 := (zexec_X (X := X) _ _ _ _ _ _ _ _ _ rfl rfl a1).1
      have i1 : zInv (znF zcl) (zpad 2 [(2, 261)]) [] (zS_b S) := by
        refine ⟨?_, rfl, ?_⟩
        · show zvok (S.1 ++ [(0, 11)]).length _ = true
          rw [List.length_append, hlen]
          decide
        · exact zrok_push a2.2.2
      obtain ⟨b1, b2⟩ := zexec2_ok _ _ _ _ _ _ _ _ _ i1 hb
      have b3 := (zexec_X (X := X) _ _ _ _ _ _ _ _ _ rfl rfl b1).1
      refine zW.step 3 [(3, 0), (9, 0), (9, 0), (9, 0)] [(2, 0)] zS_a (i := .new 7) (len := 3) (a := 10) (b := 0) (c := 0) rfl (by decide) (by decide) rfl ?_
      refine zW.step 4 [(3, 0), (9, 0), (9, 0), (9, 0)] [(2, 0), (2, 0)] zS_a (i := .dup) (len := 1) (a := 0) (b := 0) (c := 0) rfl (by decide) (by decide) rfl ?_
      refine zW.call (i := .invokespecial 9) (a := 1) (b := 148) [(2, 0)] [(2, 0)] 7 rfl rfl rfl rfl (by decide) (by decide) (by decide) (Or.inr rfl) ?_
      refine ⟨_, _, _, by have := zexec_deep a3 d; rw [Nat.add_comm] at this; exact this, Or.inr ⟨rfl, rfl⟩, ?_⟩
      refine zW.step 8 [(3, 0), (2, 0), (9, 0), (9, 0)] [] S (i := .astore_n 1) (len := 1) (a := 0) (b := 0) (c := 0) rfl (by decide) (by decide) rfl ?_
      refine zW.step 11 [(3, 0), (2, 0), (9, 0), (9, 0)] [(2, 261)] (zS_b S) (i := .new 10) (len := 3) (a := 11) (b := 0) (c := 0) rfl (by decide) (by decide) ?_ ?_
      · unfold zstep znew
        dsimp only
        rw [a2.2.2, hlen]
        rw [if_pos (by decide)]
        unfold zS_b
        rw [hlen]
        rfl
      refine zW.step 12 [(3, 0), (2, 0), (9, 0), (9, 0)] [(2, 261), (2, 261)] (zS_b S) (i := .dup) (len := 1) (a := 0) (b := 0) (c := 0) rfl (by decide) (by decide) rfl ?_
      have hrc : zrcv [(2, 261)] (zS_b S).1 (zinf 193).1 = true := by
        unfold zrcv zS_b
        dsimp only
        have e1 : (S.1 ++ [((0 : Nat), (11 : Nat))])[261]? = some (0, 11) := by
          rw [List.getElem?_append_right (by omega), hlen]
          rfl
        rw [show (261 : Int).toNat = 261 from rfl, e1]
        rfl
      refine zW.call (i := .invokespecial 12) (a := 1) (b := 193) [(2, 261)] [(2, 261)] 15 rfl rfl rfl rfl (by decide) (by decide) (by decide) (Or.inr hrc) ?_
      have hlb : (zS_b S).1.length = 262 := by
        show (S.1 ++ [(0, 11)]).length = 262
        rw [List.length_append, hlen]
        rfl
      refine ⟨_, _, _, by have := zexec_deep b3 d; rw [Nat.add_comm] at this; exact this, Or.inr ⟨by rw [hlb]; rfl, by rw [hlb]; rfl⟩, ?_⟩
      refine zW.step 16 [(3, 0), (2, 0), (2, 261), (9, 0)] [] S2 (i := .astore_n 2) (len := 1) (a := 0) (b := 0) (c := 0) rfl (by decide) (by decide) rfl ?_
      obtain ⟨ty2, rf2, mem2⟩ := S2
      dsimp only at z1 z2 z3
      subst z1
      exact k rf2 mem2 z2 z3
    · cases hz
  · cases hz
