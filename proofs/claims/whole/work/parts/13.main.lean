def zMOK (Ts : List Cond) (inf : Nat → Nat × Nat × Nat) (mn : Nat → MethodName) (byt : Nat → ByteArray) (rt : Nat → Option FieldType) (b : Nat) : Prop :=
  Cond.code (mn b) (byt b) (inf b).2.2 (rt b) ∈ Ts ∧ Cond.initialized (mn b).cls ∈ Ts ∧ plainFor (mn b) = true ∧ (mn b).cls ≠ "java/lang/invoke/MethodHandle" ∧ (mn b).cls ≠ "java/lang/invoke/VarHandle" ∧ (inf b).2.2 ≤ 41
def zCOK (cl : List vw_C) (Ts : List Cond) (inf : Nat → Nat × Nat × Nat) (mn : Nat → MethodName) (rt : Nat → Option FieldType) (own : String) (i : Instr) (a b : Nat) : Prop := match i with
  | .invokevirtual idx => Cond.methodLink own idx (mn b) ∈ Ts ∧ Cond.instanceMethod (mn b) ∈ Ts ∧ Cond.selects (mn b).cls (mn b) (mn b) ∈ Ts ∧ (inf b).2.1 = 1 ∧ (((inf b).1 = 99 ∧ (mn b).cls = "java/lang/String") ∨ ∃ cq, cl[(inf b).1]? = some cq ∧ cq.1 = (mn b).cls ∧ (inf b).1 ≠ 99) ∧ 1 ≤ a ∧ (parseMethodDescriptor (mn b).desc).map (fun d => d.parameters.length) = some (a - 1)
  | .invokestatic idx => Cond.methodLink own idx (mn b) ∈ Ts ∧ Cond.static (mn b) ∈ Ts ∧ (parseMethodDescriptor (mn b).desc).map (fun d => d.parameters.length) = some a
  | .invokespecial idx => (Cond.methodLink own idx (mn b) ∈ Ts ∨ ∃ host, (own, idx, mn b, host) ∈ zNs) ∧ (mn b).name = "<init>" ∧ Cond.instanceMethod (mn b) ∈ Ts ∧ (inf b).2.1 = 1 ∧ (inf b).1 ≠ 99 ∧ 1 ≤ a ∧ (parseMethodDescriptor (mn b).desc).map (fun d => d.parameters.length) = some (a - 1) ∧ rt b = none
  | _ => False
def zROK (t : Option FieldType) (i : Instr) (b : Nat) : Prop := match i with
  | .ireturn => (b = 0 ∧ t = some .int) ∨ (b = 3 ∧ t = some .boolean) ∨ (b = 5 ∧ t = some .char) ∨ (b = 6 ∧ t = some .byte)
  | .lreturn => t = some .long
  | .areturn => ∃ cn, t = some (.object cn)
  | .return_ => t = none
  | _ => True
def zPOK (cl : List vw_C) (Ts : List Cond) (cod : Nat → Nat → Option zE) (inf : Nat → Nat × Nat × Nat) (mn : Nat → MethodName) (byt : Nat → ByteArray) (rt : Nat → Option FieldType) : Prop :=
  ∀ (M pc : Nat) (i : Instr) (len a b c : Nat), cod M pc = some (i, len, a, b, c) → decode (byt M) pc = .ok (i, len) ∧ (c = 101 → zCOK cl Ts inf mn rt (mn M).cls i a b ∧ zMOK Ts inf mn byt rt b) ∧ (c = 102 → zROK (rt M) i b) ∧ (c ≠ 101 → c ≠ 102 → zEOK cl Ts (mn M).cls (mn M).name pc i len a b c)
/-- behind a call -/
theorem zcall {p : Program} {l : Launch} {e : Env} {R : Room} {s : State} {m : MethodId} {args : Array Value} {below : List Frame} {meth : Method} {c : Code} {H : Heap} {locs : List Loc} {cells slots mc ms : Nat} {Q : State → Prop} {D : va_G} {cl : List vw_C} {aC : Nat → ClassId} {ov : Nat → Value} {A : Nat → Prop} {ad : Nat → Nat} {S S1 : zS} {r : Option zV} {pc : Nat} {L : Array Slot} {st0 rest : List Value} {a : Array Value}
    (hr : va_Run p l e R s m args below meth c H locs cells slots mc ms (F0 m pc L st0) rest (zQc D cl aC ov A ad S r S1 a) A) (hS : va_S A s.heap H locs)
    (kk : ∀ (ad' : Nat → Nat) (H1 : Heap) (locs1 : List Loc), (∀ i, i < S.1.length → ad' i = ad i) → (S1.1.length = S.1.length → ad' = ad) → va_P D cl (zw cl aC ad' S1) H1 → va_D A (zw cl aC ad' S1) → (∀ t ∈ S1.1, t.2 < 100000) → va_S A s.heap H1 locs1 → W p l e R s m args below meth c H1 locs1 (cells + mc) (slots + ms) Q (F0 m (pc + 3) L ((r.map (zc ov ad')).toList ++ rest))) : W p l e R s m args below meth c H locs cells slots Q (F0 m pc L st0) := by
  intro T hT X
  obtain ⟨v, st₀, t, T', L', h0, X', hL, e1, e2, ⟨ad', hv, q1, q2, q3, q4, q5, hz, hk⟩, st⟩ := hr T hT X
  cases hv
  rw [h0] at hz hk
  obtain ⟨t2, a1, b1⟩ := kk ad' T'.heap (locs ++ L') q1 q2 (by rw [e1]; exact q3) q4 q5
    ⟨Nat.le_trans hS.1 (by rw [e1]; exact hz), fun q h1 h2 => by rw [e1, hk q (Nat.lt_of_lt_of_le h1 hS.1) h2]; exact hS.2.1 q h1 h2, fun q hq => by
      rcases List.mem_append.mp hq with h | h
      · exact hS.2.2 q h
      · exact hL q h⟩ T' rfl X'
  exact ⟨t2, st t2 a1, b1⟩
/-- the cells only grow -/
theorem zstep_len {nF : Nat → Nat} {X : zX} {i : Instr} {pc len a b c pc' : Nat} {ls st ls' st' : List zV} {S S' : zS} (h : zstep nF X i pc len a b c ls st S = some (pc', ls', st', S')) : ∃ T, S'.1 = S.1 ++ T := by
  have e0 : S.1 = S.1 ++ [] := (List.append_nil _).symm
  unfold zstep at h
  cases i <;> dsimp only at h <;> (try simp only [zI, zL, zR, zII, zLL, zlod, zsto, znew, zno] at h)
  all_goals (repeat' (first | (cases h; done) | (cases h; exact ⟨_, e0⟩) | (cases h; exact ⟨_, rfl⟩) | split at h))
