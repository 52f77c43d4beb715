theorem zno3_rev {l : List zV} (h : zno3 l = true) : zno3 l.reverse = true := List.all_eq_true.mpr fun v hv => List.all_eq_true.mp h v (List.mem_reverse.mp hv)
theorem zno3_take {l : List zV} (h : zno3 l = true) (a : Nat) : zno3 (l.take a) = true := List.all_eq_true.mpr fun v hv => List.all_eq_true.mp h v (List.mem_of_mem_take hv)
theorem zno3_drop {l : List zV} (h : zno3 l = true) (a : Nat) : zno3 (l.drop a) = true := List.all_eq_true.mpr fun v hv => List.all_eq_true.mp h v (List.mem_of_mem_drop hv)
theorem zno3_loc : ∀ {l : List zV}, zno3 l = true → zno3 (zloc l) = true
  | [], _ => rfl
  | v :: l, h => by
    have ih := zno3_loc (zno3_tail h).2
    unfold zloc
    split
    · exact zno3_cons (zno3_tail h).1 (zno3_cons rfl ih)
    · exact zno3_cons (zno3_tail h).1 ih
theorem zno3_app {l m : List zV} (h : zno3 l = true) (h2 : zno3 m = true) : zno3 (l ++ m) = true := by
  unfold zno3 at *
  rw [List.all_append, h, h2]
  rfl
theorem zno3_pad {l : List zV} {n : Nat} (h : zno3 l = true) : zno3 (zpad n l) = true := by
  refine zno3_app h (List.all_eq_true.mpr fun v hv => ?_)
  rw [(List.mem_replicate.mp hv).2]
  rfl
theorem zrt_no3 {i : Instr} {len b : Nat} {st : List zV} {S S' : zS} {r : Option zV} (h : zrt i len b st S = some (r, S')) : ∀ v, r = some v → zn3 v = true := by
  unfold zrt at h
  cases i <;> dsimp only at h <;> first | (cases h; done) | skip
  · rcases zR_ok h with ⟨q, r, -, h⟩ | ⟨q, r, -, h⟩
    · split at h
      · cases h; intro v hv; cases hv; rfl
      · cases h
    · cases h
  · obtain ⟨q, r, -, h⟩ := zI_ok h
    split at h
    · cases h; intro v hv; cases hv; rfl
    · cases h
  · obtain ⟨q, r, -, h⟩ := zL_ok h
    split at h
    · cases h; intro v hv; cases hv; rfl
    · cases h
  · split at h
    · cases h; intro v hv; cases hv
    · cases h
theorem zexec_X {X Y : zX} : ∀ (n d M pc : Nat) (ls st : List zV) (S : zS) (r : Option zV) (S' : zS), zno3 ls = true → zno3 st = true → zexec zcod zinf (znF zcl) Y n d M pc ls st S = some (r, S') → zexec zcod zinf (znF zcl) X n d M pc ls st S = some (r, S') ∧ ∀ v, r = some v → zn3 v = true
  | 0, _, _, _, _, _, _, _, _, _, _, h => by unfold zexec at h; cases h
  | n + 1, d, M, pc, ls, st, S, r, S', hl, hs, h => by
    unfold zexec at h
    unfold zexec
    split at h
    · cases h
    · next i len a b c hc =>
      split at h
      · next hc1 =>
        rw [if_pos hc1]
        split at h
        · cases h
        · next d' =>
          split at h
          · next g =>
            rw [if_pos g]
            split at h
            · next g2 =>
              rw [if_pos g2]
              split at h
              · cases h
              · next r1 S1 h1 =>
                obtain ⟨e1, e2⟩ := zexec_X n _ _ _ _ _ _ _ _ (zno3_pad (zno3_loc (zno3_rev (zno3_take hs a)))) rfl h1
                rw [e1]
                dsimp only
                split at h
                · next g3 =>
                  rw [if_pos g3]
                  refine zexec_X n _ _ _ _ _ _ _ _ hl (zno3_app ?_ (zno3_drop hs a)) h
                  cases r1 with
                  | none => rfl
                  | some v => exact zno3_cons (e2 v rfl) rfl
                · cases h
            · cases h
          · cases h
      · next hc1 =>
        rw [if_neg hc1]
        split at h
        · next hc2 => rw [if_pos hc2]; exact ⟨h, zrt_no3 h⟩
        · next hc2 =>
          rw [if_neg hc2]
          split at h
          · cases h
          · next pc' ls' st' S1 h1 =>
            obtain ⟨-, -, -, hE⟩ := zPOK_ok M pc i len a b c hc
            have hE := hE hc1 hc2
            have hno := zstep_no3 (fun idx hi h2 => by
              subst hi
              unfold zEOK at hE
              dsimp only at hE
              rcases hE.2 with ⟨-, q, -⟩ | ⟨-, q, -⟩ | ⟨-, q, -⟩ | ⟨q, -⟩ <;> omega) h1 hl hs
            rw [zstep_X hs (Y := Y), h1]
            exact zexec_X n _ _ _ _ _ _ _ _ hno.1 hno.2 h
