def zexec2 (X : zX) : Nat → Nat → Nat → Nat → List zV → List zV → zS → Option (Option zV × zS)
  | 0, _, _, _, _, _, _ => none
  | n + 1, d, M, pc, ls, st, S => match zcod M pc with
    | none => none
    | some (i, len, a, b, c) =>
      if c = 101 then
        (match d with
        | 0 => none
        | d' + 1 =>
          if a ≤ st.length ∧ zcat (st.drop a) ≤ 8 ∧ len = 3 ∧ (zloc (st.take a).reverse).length ≤ (zinf b).2.2 then
            (if (zinf b).2.1 = 0 ∨ zrcv (st.take a).reverse S.1 (zinf b).1 = true then
              match zexec2 X n d' b 0 (zpad (zinf b).2.2 (zloc (st.take a).reverse)) [] S with
              | none => none
              | some (r, S') => zexec2 X n d M (pc + 3) ls (r.toList ++ st.drop a) S'
            else none)
          else none)
      else if c = 102 then zrt i len b st S
      else match zstep2 (znF zcl) X i pc len a b c ls st S with
        | none => none
        | some (pc', ls', st', S') => zexec2 X n d M pc' ls' st' S'
theorem zvok_sub {n : Nat} {l m : List zV} (h : zvok n l = true) (hm : ∀ v ∈ m, v ∈ l) : zvok n m = true := List.all_eq_true.mpr fun v hv => List.all_eq_true.mp h v (hm v hv)
theorem zvok_loc {n : Nat} : ∀ {l : List zV}, zvok n l = true → zvok n (zloc l) = true
  | [], _ => rfl
  | v :: l, h => by
    have ih := zvok_loc (zvok_t h).2
    unfold zloc
    split
    · exact zvok_c (zvok_t h).1 (zvok_c rfl ih)
    · exact zvok_c (zvok_t h).1 ih
theorem zvok_app {n : Nat} {l m : List zV} (h : zvok n l = true) (h2 : zvok n m = true) : zvok n (l ++ m) = true := by
  unfold zvok at *
  rw [List.all_append, h, h2]
  rfl
theorem zvok_pad {n k : Nat} {l : List zV} (h : zvok n l = true) : zvok n (zpad k l) = true := by
  refine zvok_app h (List.all_eq_true.mpr fun v hv => ?_)
  rw [(List.mem_replicate.mp hv).2]
  rfl
theorem zrt_inv {i : Instr} {len b n : Nat} {st : List zV} {S S' : zS} {r : Option zV} (h : zrt i len b st S = some (r, S')) (hs : zvok n st = true) : S' = S ∧ zvok n r.toList = true := by
  unfold zrt at h
  cases i <;> dsimp only at h <;> first | (cases h; done) | skip
  · have hz := zR_ok h
    clear h
    rcases hz with ⟨q, r, rfl, h⟩ | ⟨q, r, rfl, h⟩
    · split at h
      · cases h; exact ⟨rfl, zvok_c (zvok_t hs).1 rfl⟩
      · cases h
    · cases h
  · have hz := zI_ok h
    clear h
    obtain ⟨q, r, rfl, h⟩ := hz
    split at h
    · cases h; exact ⟨rfl, zvok_c (zvok_t hs).1 rfl⟩
    · cases h
  · have hz := zL_ok h
    clear h
    obtain ⟨q, r, rfl, h⟩ := hz
    split at h
    · cases h; exact ⟨rfl, zvok_c (zvok_t hs).1 rfl⟩
    · cases h
  · split at h
    · cases h; exact ⟨rfl, rfl⟩
    · cases h
theorem zexec2_ok {X : zX} : ∀ (n d M pc : Nat) (ls st : List zV) (S : zS) (r : Option zV) (S' : zS), zInv (znF zcl) ls st S → zexec2 X n d M pc ls st S = some (r, S') → zexec zcod zinf (znF zcl) X n d M pc ls st S = some (r, S') ∧ zInv (znF zcl) [] r.toList S'
  | 0, _, _, _, _, _, _, _, _, _, h => by unfold zexec2 at h; cases h
  | n + 1, d, M, pc, ls, st, S, r, S', hI, h => by
    unfold zexec2 at h
    unfold zexec
    split at h
    · cases h
    · next i len a b c hc =>
      rw [hc]
      dsimp only
      split at h
      · next hc1 =>
        rw [if_pos hc1]
        split at h
        · cases h
        · next d' =>
          dsimp only
          split at h
          · next g =>
            rw [if_pos g]
            split at h
            · next g2 =>
              rw [if_pos g2]
              split at h
              · cases h
              · next r1 S1 h1 =>
                have ha : zvok S.1.length (st.take a).reverse = true := zvok_sub hI.2.1 (fun v hv => List.mem_of_mem_take (List.mem_reverse.mp hv))
                have hb : zvok S.1.length (st.drop a) = true := zvok_sub hI.2.1 (fun v hv => List.mem_of_mem_drop hv)
                obtain ⟨e1, e2⟩ := zexec2_ok n _ _ _ _ _ _ _ _ ⟨zvok_pad (zvok_loc ha), rfl, hI.2.2⟩ h1
                obtain ⟨T, eT⟩ := zexec_len n _ _ _ _ _ _ _ _ e1
                have hle : S.1.length ≤ S1.1.length := by rw [eT, List.length_append]; omega
                rw [e1]
                dsimp only
                rw [if_pos (Or.inr ⟨hI.1, hb⟩)]
                exact zexec2_ok n _ _ _ _ _ _ _ _ ⟨zvok_up hI.1 hle, zvok_app e2.2.1 (zvok_up hb hle), e2.2.2⟩ h
            · cases h
          · cases h
      · next hc1 =>
        rw [if_neg hc1]
        split at h
        · next hc2 =>
          rw [if_pos hc2]
          obtain ⟨e1, e2⟩ := zrt_inv h hI.2.1
          subst e1
          exact ⟨h, rfl, e2, hI.2.2⟩
        · next hc2 =>
          rw [if_neg hc2]
          rw [zstep2_eq hI] at h
          split at h
          · cases h
          · next pc' ls' st' S1 h1 =>
            obtain ⟨-, -, -, hE⟩ := zPOK_ok M pc i len a b c hc
            rw [h1]
            exact zexec2_ok n _ _ _ _ _ _ _ _ (zstep_inv (hE hc1 hc2) h1 hI) h
def zX0 : zX := (0, fun _ => 0)
def zS_a : zS := ([(0, 10)], zclr (fun _ _ => -1) 0 (-1), zclr (fun _ _ => 0) 0 0)
def zR_a : Option (Option zV × zS) := zexec2 zX0 100000 12 148 0 [(2, 0)] [] zS_a
