/-! CALLS that make no cell and change no reference: int, long, nothing answered -/
def zgo (X : zX) (M : Nat) : Nat → Nat → List zV → List zV → zS → Option (Nat × List zV × List zV × zS)
  | 0, pc, ls, st, S => some (pc, ls, st, S)
  | k + 1, pc, ls, st, S => match zcod M pc with
    | none => none
    | some (i, len, a, b, c) => if c = 101 ∨ c = 102 then none else match zstep (znF zcl) X i pc len a b c ls st S with
      | none => none
      | some (pc', ls', st', S') => zgo X M k pc' ls' st' S'
theorem zW.go {X : zX} {d M : Nat} {Q : Option zV → zS → Prop} : ∀ (k : Nat) {pc : Nat} {ls st : List zV} {S : zS} (pc' : Nat) (ls' st' : List zV) (S' : zS), zgo X M k pc ls st S = some (pc', ls', st', S') → zW X d M pc' ls' st' S' Q → zW X d M pc ls st S Q
  | 0, pc, ls, st, S, pc', ls', st', S', h, kk => by
    unfold zgo at h
    cases h
    exact kk
  | k + 1, pc, ls, st, S, pc', ls', st', S', h, kk => by
    unfold zgo at h
    split at h
    · cases h
    · next i len a b c hc =>
      split at h
      · cases h
      · next hn =>
        split at h
        · cases h
        · next p1 l1 s1 S1 hs =>
          exact zW.step p1 l1 s1 S1 hc (fun q => hn (Or.inl q)) (fun q => hn (Or.inr q)) hs (zW.go k pc' ls' st' S' h kk)
def qi (rf : zF) (Q : Int → zF → Prop) : Option zV → zS → Prop := fun v S => ∃ (x : Int) (mem : zF), v = some (0, x) ∧ S = (zty, rf, mem) ∧ Q x mem
def ql (rf : zF) (Q : Int → zF → Prop) : Option zV → zS → Prop := fun v S => ∃ (x : Int) (mem : zF), v = some (1, x) ∧ S = (zty, rf, mem) ∧ Q x mem
def qr (rf : zF) (Q : Int → zF → Prop) : Option zV → zS → Prop := fun v S => ∃ (x : Int) (mem : zF), v = some (2, x) ∧ S = (zty, rf, mem) ∧ Q x mem
def qv (rf : zF) (Q : zF → Prop) : Option zV → zS → Prop := fun v S => ∃ mem : zF, v = none ∧ S = (zty, rf, mem) ∧ Q mem
def Ci (X : zX) (d M : Nat) (as : List zV) (rf mem : zF) (Q : Int → zF → Prop) : Prop := zW X d M 0 (zpad (zinf M).2.2 (zloc as)) [] (zty, rf, mem) (qi rf Q)
def Cl (X : zX) (d M : Nat) (as : List zV) (rf mem : zF) (Q : Int → zF → Prop) : Prop := zW X d M 0 (zpad (zinf M).2.2 (zloc as)) [] (zty, rf, mem) (ql rf Q)
def Cr (X : zX) (d M : Nat) (as : List zV) (rf mem : zF) (Q : Int → zF → Prop) : Prop := zW X d M 0 (zpad (zinf M).2.2 (zloc as)) [] (zty, rf, mem) (qr rf Q)
def Cv (X : zX) (d M : Nat) (as : List zV) (rf mem : zF) (Q : zF → Prop) : Prop := zW X d M 0 (zpad (zinf M).2.2 (zloc as)) [] (zty, rf, mem) (qv rf Q)
section CALLS
variable {X : zX} {d d' M : Nat} {as : List zV} {rf mem : zF}
theorem Ci.imp {Q Q' : Int → zF → Prop} (h : Ci X d M as rf mem Q) (k : ∀ x mem1, Q x mem1 → Q' x mem1) : Ci X d M as rf mem Q' := zW.imp h (fun _ _ ⟨x, m, e1, e2, q⟩ => ⟨x, m, e1, e2, k x m q⟩)
theorem Cl.imp {Q Q' : Int → zF → Prop} (h : Cl X d M as rf mem Q) (k : ∀ x mem1, Q x mem1 → Q' x mem1) : Cl X d M as rf mem Q' := zW.imp h (fun _ _ ⟨x, m, e1, e2, q⟩ => ⟨x, m, e1, e2, k x m q⟩)
theorem Cr.imp {Q Q' : Int → zF → Prop} (h : Cr X d M as rf mem Q) (k : ∀ x mem1, Q x mem1 → Q' x mem1) : Cr X d M as rf mem Q' := zW.imp h (fun _ _ ⟨x, m, e1, e2, q⟩ => ⟨x, m, e1, e2, k x m q⟩)
theorem Cv.imp {Q Q' : zF → Prop} (h : Cv X d M as rf mem Q) (k : ∀ mem1, Q mem1 → Q' mem1) : Cv X d M as rf mem Q' := zW.imp h (fun _ _ ⟨m, e1, e2, q⟩ => ⟨m, e1, e2, k m q⟩)
theorem Ci.deep {Q : Int → zF → Prop} (h : Ci X d M as rf mem Q) (hd : d ≤ d') : Ci X d' M as rf mem Q := zW.deep h hd
theorem Cl.deep {Q : Int → zF → Prop} (h : Cl X d M as rf mem Q) (hd : d ≤ d') : Cl X d' M as rf mem Q := zW.deep h hd
theorem Cr.deep {Q : Int → zF → Prop} (h : Cr X d M as rf mem Q) (hd : d ≤ d') : Cr X d' M as rf mem Q := zW.deep h hd
theorem Cv.deep {Q : zF → Prop} (h : Cv X d M as rf mem Q) (hd : d ≤ d') : Cv X d' M as rf mem Q := zW.deep h hd
variable {pc b : Nat} {ls st : List zV} {Q : Option zV → zS → Prop}
theorem w_calli {i : Instr} {a : Nat} (rs : List zV) (pc' : Nat) (hp : pc + 3 = pc') (hc : zcod M pc = some (i, 3, a, b, 101)) (hst : st.take a = as.reverse) (hdr : st.drop a = rs) (hl : a ≤ st.length) (hcat : zcat rs ≤ 8) (hloc : (zloc as).length ≤ (zinf b).2.2) (hrec : (zinf b).2.1 = 0 ∨ zrcv as zty (zinf b).1 = true) (k : Ci X d b as rf mem (fun x mem1 => zW X (d + 1) M pc' ls ((0, x) :: rs) (zty, rf, mem1) Q)) : zW X (d + 1) M pc ls st (zty, rf, mem) Q :=
  zW.call as rs pc' hp hc hst hdr hl hcat hloc hrec (zW.imp k (fun v S1 ⟨x, m, e1, e2, q⟩ => by subst e1; subst e2; exact ⟨Or.inl rfl, q⟩))
theorem w_calll {i : Instr} {a : Nat} (rs : List zV) (pc' : Nat) (hp : pc + 3 = pc') (hc : zcod M pc = some (i, 3, a, b, 101)) (hst : st.take a = as.reverse) (hdr : st.drop a = rs) (hl : a ≤ st.length) (hcat : zcat rs ≤ 8) (hloc : (zloc as).length ≤ (zinf b).2.2) (hrec : (zinf b).2.1 = 0 ∨ zrcv as zty (zinf b).1 = true) (k : Cl X d b as rf mem (fun x mem1 => zW X (d + 1) M pc' ls ((1, x) :: rs) (zty, rf, mem1) Q)) : zW X (d + 1) M pc ls st (zty, rf, mem) Q :=
  zW.call as rs pc' hp hc hst hdr hl hcat hloc hrec (zW.imp k (fun v S1 ⟨x, m, e1, e2, q⟩ => by subst e1; subst e2; exact ⟨Or.inl rfl, q⟩))
theorem w_callr {i : Instr} {a : Nat} (rs : List zV) (pc' : Nat) (hp : pc + 3 = pc') (hc : zcod M pc = some (i, 3, a, b, 101)) (hst : st.take a = as.reverse) (hdr : st.drop a = rs) (hl : a ≤ st.length) (hcat : zcat rs ≤ 8) (hloc : (zloc as).length ≤ (zinf b).2.2) (hrec : (zinf b).2.1 = 0 ∨ zrcv as zty (zinf b).1 = true) (k : Cr X d b as rf mem (fun x mem1 => zW X (d + 1) M pc' ls ((2, x) :: rs) (zty, rf, mem1) Q)) : zW X (d + 1) M pc ls st (zty, rf, mem) Q :=
  zW.call as rs pc' hp hc hst hdr hl hcat hloc hrec (zW.imp k (fun v S1 ⟨x, m, e1, e2, q⟩ => by subst e1; subst e2; exact ⟨Or.inl rfl, q⟩))
theorem w_callv {i : Instr} {a : Nat} (rs : List zV) (pc' : Nat) (hp : pc + 3 = pc') (hc : zcod M pc = some (i, 3, a, b, 101)) (hst : st.take a = as.reverse) (hdr : st.drop a = rs) (hl : a ≤ st.length) (hcat : zcat rs ≤ 8) (hloc : (zloc as).length ≤ (zinf b).2.2) (hrec : (zinf b).2.1 = 0 ∨ zrcv as zty (zinf b).1 = true) (k : Cv X d b as rf mem (fun mem1 => zW X (d + 1) M pc' ls rs (zty, rf, mem1) Q)) : zW X (d + 1) M pc ls st (zty, rf, mem) Q :=
  zW.call as rs pc' hp hc hst hdr hl hcat hloc hrec (zW.imp k (fun v S1 ⟨m, e1, e2, q⟩ => by subst e1; subst e2; exact ⟨Or.inl rfl, q⟩))
theorem w_reti {len a b' : Nat} {x : Int} {Q : Int → zF → Prop} (hc : zcod M pc = some (.ireturn, len, a, b', 102)) (hs : zrt .ireturn len b' [(0, x)] (zty, rf, mem) = some (some (0, x), (zty, rf, mem))) (k : Q x mem) : zW X d M pc ls [(0, x)] (zty, rf, mem) (qi rf Q) := zW.ret _ hc hs ⟨x, mem, rfl, rfl, k⟩
theorem w_retz {len a : Nat} {x : Int} {Q : Int → zF → Prop} (hc : zcod M pc = some (.ireturn, len, a, 3, 102)) (hl : len = 1) (hx : x = 0 ∨ x = 1) (k : Q x mem) : zW X d M pc ls [(0, x)] (zty, rf, mem) (qi rf Q) := zW.ret _ hc (by rcases hx with rfl | rfl <;> subst hl <;> rfl) ⟨x, mem, rfl, rfl, k⟩
theorem w_retl {len a b' : Nat} {x : Int} {Q : Int → zF → Prop} (hc : zcod M pc = some (.lreturn, len, a, b', 102)) (hs : zrt .lreturn len b' [(1, x)] (zty, rf, mem) = some (some (1, x), (zty, rf, mem))) (k : Q x mem) : zW X d M pc ls [(1, x)] (zty, rf, mem) (ql rf Q) := zW.ret _ hc hs ⟨x, mem, rfl, rfl, k⟩
theorem w_retv {len a b' : Nat} {Q : zF → Prop} (hc : zcod M pc = some (.return_, len, a, b', 102)) (hs : zrt .return_ len b' [] (zty, rf, mem) = some (none, (zty, rf, mem))) (k : Q mem) : zW X d M pc ls [] (zty, rf, mem) (qv rf Q) := zW.ret _ hc hs ⟨mem, rfl, rfl, k⟩
theorem zst1_z {ls : List zV} {i : Nat} {v : zV} (h : (ls.getD (i - 1) (9, 0)).1 ≠ 1) : zst1 ls i v = ls.set i v := by
  unfold zst1
  rw [if_neg (fun q => h q.1)]
end CALLS
