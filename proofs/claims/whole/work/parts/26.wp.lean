/-! WEAKEST PRECONDITIONS over the small machine -/
def zW (X : zX) (d M pc : Nat) (ls st : List zV) (S : zS) (Q : Option zV → zS → Prop) : Prop := ∃ (n : Nat) (r : Option zV) (S' : zS), zexec zcod zinf (znF zcl) X n d M pc ls st S = some (r, S') ∧ Q r S'
theorem zexec_mono {cod : Nat → Nat → Option zE} {inf : Nat → Nat × Nat × Nat} {nF : Nat → Nat} {X : zX} : ∀ (n d M pc : Nat) (ls st : List zV) (S : zS) (r : Option zV) (S' : zS), zexec cod inf nF X n d M pc ls st S = some (r, S') → zexec cod inf nF X (n + 1) d M pc ls st S = some (r, S')
  | 0, _, _, _, _, _, _, _, _, h => by unfold zexec at h; cases h
  | n + 1, d, M, pc, ls, st, S, r, S', h => by
    unfold zexec at h
    unfold zexec
    split at h
    · cases h
    · next i len a b c hc =>
      split at h
      · next hc1 =>
        rw [if_pos hc1]
        split at h
        · cases h
        · next d' =>
          split at h
          · next g =>
            rw [if_pos g]
            split at h
            · next g2 =>
              rw [if_pos g2]
              split at h
              · cases h
              · next r1 S1 h1 =>
                rw [zexec_mono n _ _ _ _ _ _ _ _ h1]
                dsimp only
                split at h
                · next g3 =>
                  rw [if_pos g3]
                  exact zexec_mono n _ _ _ _ _ _ _ _ h
                · cases h
            · cases h
          · cases h
      · next hc1 =>
        rw [if_neg hc1]
        split at h
        · next hc2 => rw [if_pos hc2]; exact h
        · next hc2 =>
          rw [if_neg hc2]
          split at h
          · cases h
          · next pc' ls' st' S1 h1 =>
            exact zexec_mono n _ _ _ _ _ _ _ _ h
theorem zexec_more {cod : Nat → Nat → Option zE} {inf : Nat → Nat × Nat × Nat} {nF : Nat → Nat} {X : zX} {n d M pc : Nat} {ls st : List zV} {S : zS} {r : Option zV} {S' : zS} (h : zexec cod inf nF X n d M pc ls st S = some (r, S')) : ∀ k, zexec cod inf nF X (n + k) d M pc ls st S = some (r, S')
  | 0 => h
  | k + 1 => zexec_mono _ _ _ _ _ _ _ _ _ (zexec_more h k)
section ZWR
variable {X : zX} {d M pc : Nat} {ls st r : List zV} {S : zS} {Q : Option zV → zS → Prop}
theorem zW.imp {Q' : Option zV → zS → Prop} (h : zW X d M pc ls st S Q) (k : ∀ r S', Q r S' → Q' r S') : zW X d M pc ls st S Q' := by
  obtain ⟨n, r, S', h1, h2⟩ := h
  exact ⟨n, r, S', h1, k r S' h2⟩
/-- a step that neither calls nor returns -/
theorem zW.step {i : Instr} {len a b c : Nat} (pc' : Nat) (ls' st' : List zV) (S1 : zS) (hc : zcod M pc = some (i, len, a, b, c)) (h1 : c ≠ 101) (h2 : c ≠ 102) (hs : zstep (znF zcl) X i pc len a b c ls st S = some (pc', ls', st', S1)) (k : zW X d M pc' ls' st' S1 Q) : zW X d M pc ls st S Q := by
  obtain ⟨n, r, S', e1, e2⟩ := k
  refine ⟨n + 1, r, S', ?_, e2⟩
  unfold zexec
  rw [hc]
  dsimp only
  rw [if_neg h1, if_neg h2, hs]
  exact e1
/-- a return -/
theorem zW.ret {i : Instr} {len a b : Nat} (v : Option zV) (hc : zcod M pc = some (i, len, a, b, 102)) (hs : zrt i len b st S = some (v, S)) (k : Q v S) : zW X d M pc ls st S Q := by
  refine ⟨1, v, S, ?_, k⟩
  unfold zexec
  rw [hc]
  dsimp only
  rw [if_neg (by decide), if_pos rfl]
  exact hs
/-- a call: the callee's own weakest precondition -/
theorem zW.call {i : Instr} {a b : Nat} (as rs : List zV) (pc' : Nat) (hp : pc + 3 = pc') (hc : zcod M pc = some (i, 3, a, b, 101)) (hst : st.take a = as.reverse) (hdr : st.drop a = rs) (hl : a ≤ st.length) (hcat : zcat rs ≤ 8) (hloc : (zloc as).length ≤ (zinf b).2.2) (hrec : (zinf b).2.1 = 0 ∨ zrcv as S.1 (zinf b).1 = true)
    (k : zW X d b 0 (zpad (zinf b).2.2 (zloc as)) [] S (fun v S1 => (S1.1.length = S.1.length ∨ (zvok S.1.length ls = true ∧ zvok S.1.length rs = true)) ∧ zW X (d + 1) M pc' ls (v.toList ++ rs) S1 Q)) : zW X (d + 1) M pc ls st S Q := by
  subst hp
  obtain ⟨n, v, S1, e1, e2, m, r, S', e3, e4⟩ := k
  refine ⟨(n + m) + 1, r, S', ?_, e4⟩
  unfold zexec
  rw [hc]
  dsimp only
  rw [if_pos rfl, hst, hdr, List.reverse_reverse, if_pos ⟨hl, hcat, rfl, hloc⟩, if_pos hrec, zexec_more e1 m]
  dsimp only
  rw [if_pos e2]
  have := zexec_more e3 n
  rw [Nat.add_comm m n] at this
  exact this
/-- branches -/
theorem zW.ifc {cn : ClassFile.Cond} {off : Int} {len a b c pc' : Nat} {x : Int} (hc : zcod M pc = some (.ifCond cn off, len, a, b, c)) (h1 : c ≠ 101) (h2 : c ≠ 102) (hp : pc + 3 = pc') (hx : inI x) (kt : zcnd cn x 0 = true → zW X d M a ls r S Q) (kf : zcnd cn x 0 = false → zW X d M pc' ls r S Q) : zW X d M pc ls ((0, x) :: r) S Q := by
  subst hp
  by_cases hq : zcnd cn x 0 = true
  · refine zW.step a ls r S hc h1 h2 ?_ (kt hq)
    unfold zstep
    dsimp only [zI]
    rw [if_pos rfl, if_pos hx, if_pos hq]
  · refine zW.step (pc + 3) ls r S hc h1 h2 ?_ (kf (by simpa using hq))
    unfold zstep
    dsimp only [zI]
    rw [if_pos rfl, if_pos hx, if_neg hq]
theorem zW.ific {cn : ClassFile.Cond} {off : Int} {len a b c pc' : Nat} {x y : Int} (hc : zcod M pc = some (.if_icmp cn off, len, a, b, c)) (h1 : c ≠ 101) (h2 : c ≠ 102) (hp : pc + 3 = pc') (hx : inI x) (hy : inI y) (kt : zcnd cn x y = true → zW X d M a ls r S Q) (kf : zcnd cn x y = false → zW X d M pc' ls r S Q) : zW X d M pc ls ((0, y) :: (0, x) :: r) S Q := by
  subst hp
  by_cases hq : zcnd cn x y = true
  · refine zW.step a ls r S hc h1 h2 ?_ (kt hq)
    unfold zstep
    dsimp only [zI, zII]
    rw [if_pos rfl, if_pos rfl, if_pos ⟨hx, hy⟩, if_pos hq]
  · refine zW.step (pc + 3) ls r S hc h1 h2 ?_ (kf (by simpa using hq))
    unfold zstep
    dsimp only [zI, zII]
    rw [if_pos rfl, if_pos rfl, if_pos ⟨hx, hy⟩, if_neg hq]
end ZWR
