theorem zsl_app {nF : Nat → Nat} {a b : List zT} : zsl nF (a ++ b) = zsl nF a + zsl nF b := by
  unfold zsl
  simp
theorem zexec_len {cod : Nat → Nat → Option zE} {inf : Nat → Nat × Nat × Nat} {nF : Nat → Nat} {X : zX} : ∀ (n d M pc : Nat) (ls st : List zV) (S : zS) (r : Option zV) (S' : zS), zexec cod inf nF X n d M pc ls st S = some (r, S') → ∃ T, S'.1 = S.1 ++ T
  | 0, _, _, _, _, _, _, _, _, h => by unfold zexec at h; cases h
  | n + 1, d, M, pc, ls, st, S, r, S', h => by
    unfold zexec at h
    split at h
    · cases h
    · next i len a b c hc =>
      split at h
      · split at h
        · cases h
        · next d' =>
          split at h
          · split at h
            · split at h
              · cases h
              · next r1 S1 h1 =>
                split at h
                · obtain ⟨T1, e1⟩ := zexec_len n _ _ _ _ _ _ _ _ h1
                  obtain ⟨T2, e2⟩ := zexec_len n _ _ _ _ _ _ _ _ h
                  exact ⟨T1 ++ T2, by rw [e2, e1, List.append_assoc]⟩
                · cases h
            · cases h
          · cases h
      · split at h
        · refine ⟨[], ?_⟩
          rw [List.append_nil]
          unfold zrt at h
          cases i <;> dsimp only at h <;> first | (cases h; done) | skip
          · rcases zR_ok h with ⟨q, r, -, h⟩ | ⟨q, r, -, h⟩
            · split at h
              · cases h; rfl
              · cases h
            · cases h
          · obtain ⟨q, r, -, h⟩ := zI_ok h
            split at h
            · cases h; rfl
            · cases h
          · obtain ⟨q, r, -, h⟩ := zL_ok h
            split at h
            · cases h; rfl
            · cases h
          · split at h
            · cases h; rfl
            · cases h
        · split at h
          · cases h
          · next pc' ls' st' S1 h1 =>
            obtain ⟨T1, e1⟩ := zstep_len h1
            obtain ⟨T2, e2⟩ := zexec_len n _ _ _ _ _ _ _ _ h
            exact ⟨T1 ++ T2, by rw [e2, e1, List.append_assoc]⟩
theorem zOfW {l : Launch} {y : MethodName} {ws ws' : List Cond} {rm : Room} {Pc : Array Value → State → Prop} {Qc : Array Value → State → Outcome → State → Prop} {mc ms : Nat} {free : Addr → Prop} {cc : ByteArray} {maxL : Nat} {ret : Option FieldType}
    (hy : plainFor y = true) (hw : ws = Cond.code y cc maxL ret :: ws')
    (body : ∀ p e s m args below meth c s₁, BodyLoose p l y (headSpec ws rm) cc maxL ret e s m args below meth c s₁ → c.maxLocals = maxL → Pc args s →
      W p l e (headSpec ws rm).room s m args below meth c s.heap [] 0 0 (MQ below Qc args s mc ms free) (entryFrame m args maxL)) : Met l y ws rm Pc Qc mc ms free := by
  refine MetFree.of_bodySF (code := cc) (maxLocals := maxL) (ret := ret) hy ?_ ?_
  · intro args s m h hn
    obtain ⟨meth, c, h1, h2, h3, h4, h5, h6, -, -⟩ := Cond.code_spec hn (atoms_spec (ws := ws) h _ (by rw [hw]; exact List.mem_cons_self))
    exact ⟨meth, c, h1, h2, h3, h4, h5, h6⟩
  · intro p e s m args below meth c s₁ B hml hP _
    have hh0 : s₁.heap = s.heap := by rw [B.state]; rfl
    obtain ⟨t, a1, o, b1, b2, b3⟩ := body p e s m args below meth c s₁ B hml hP s₁ hh0 (Stand.of_body B)
    exact ⟨t, o, a1, b1, b2, ⟨b3.1, b3.2⟩⟩
set_option maxHeartbeats 2000000 in
theorem zMet {l : Launch} {D : va_G} {cl : List vw_C} {aC : Nat → ClassId} {ov : Nat → Value} {A : Nat → Prop} {X : zX} {Ts : List Cond} {cod : Nat → Nat → Option zE} {inf : Nat → Nat × Nat × Nat} {mn : Nat → MethodName} {byt : Nat → ByteArray} {rt : Nat → Option FieldType} (PO : zPOK cl Ts cod inf mn byt rt) {b d mc ms : Nat} {as : List zV} {S S1 : zS} {r1 : Option zV} {ad : Nat → Nat} (MO : zMOK Ts inf mn byt rt b)
    (IH : ∀ {p : Program} {e : Env} {R : Room} {s : State} {m : MethodId} {args : Array Value} {below : List Frame} {meth : Method} {c : Code} {Q : State → Prop} {k0 s0 : Nat} {ad0 : Nat → Nat}, zCx p R s m args meth c D cl aC ov A X (byt b) (mn b).cls (mn b).name Ts → (zpad (inf b).2.2 (zloc as)).length = (inf b).2.2 → c.maxLocals = (inf b).2.2 → d + 1 ≤ R.frames → 60 * (d + 1) ≤ R.locals → S1.1.length ≤ k0 + R.cells → zsl (znF cl) S1.1 ≤ s0 + R.slots →
      (∀ (pc' : Nat) (ls' st' : List zV) (i : Instr) (len a b' : Nat), cod b pc' = some (i, len, a, b', 102) → zrt i len b' st' S1 = some (r1, S1) → zAt p l e R s m args below meth c Q D cl aC ov A k0 s0 ad0 pc' ls' st' S1) → zAt p l e R s m args below meth c Q D cl aC ov A k0 s0 ad0 0 (zpad (inf b).2.2 (zloc as)) [] S)
    (hlen : S1.1.length = S.1.length + mc) (hsl : zsl (znF cl) S1.1 = zsl (znF cl) S.1 + ms) (hloc : (zloc as).length ≤ (inf b).2.2) :
    Met l (mn b) (Cond.code (mn b) (byt b) (inf b).2.2 (rt b) :: Ts) ({ frames := d + 1, cells := mc, slots := ms, locals := 60 * (d + 1) }) (zPc D cl aC ov A X ad S as) (zQc D cl aC ov A ad S r1 S1) mc ms A := by
  refine zOfW (cc := byt b) (maxL := (inf b).2.2) (ret := rt b) MO.2.2.1 rfl ?_
  intro p e s m args below meth c s₁ B hml hv
  obtain ⟨rfl, hA, hE, hP, hD, h5⟩ := hv
  have hts := atoms_spec (ws := Cond.code (mn b) (byt b) (inf b).2.2 (rt b) :: Ts) B.pre
  have hlocks := B.notSynchronized
  have C : zCx p (headSpec (Cond.code (mn b) (byt b) (inf b).2.2 (rt b) :: Ts) ({ frames := d + 1, cells := mc, slots := ms, locals := 60 * (d + 1) })).room s m (as.map (zc ov ad)).toArray meth c D cl aC ov A X (byt b) (mn b).cls (mn b).name Ts :=
    ⟨B.exec, B.bytes, findClass_of_methodNamed B.named, fun w hw => hts w (List.mem_cons_of_mem _ hw), (name_of_methodNamed B.named B.method).1, hA, hE, by show 1 ≤ d + 1; omega, by show 60 ≤ 60 * (d + 1); omega⟩
  have hov := zEnv.cat hE
  have hl := lv_entry (as.map (zc ov ad)) (n := (inf b).2.2) (by rw [zloc_len hov]; exact hloc)
  rw [lg_entry_eq]
  generalize (lg_sl (as.map (zc ov ad)) ++ List.replicate ((inf b).2.2 - (lg_sl (as.map (zc ov ad))).length) Slot.unset).toArray = L at hl ⊢
  refine IH (k0 := S.1.length) (s0 := zsl (znF cl) S.1) (ad0 := ad) C (zpad_len hloc) hml (Nat.le_refl _) (Nat.le_refl _) (by show _ ≤ S.1.length + mc; omega) (by show _ ≤ zsl (znF cl) S.1 + ms; omega) ?_ ad L s.heap [] 0 0 (fun _ _ => rfl) (fun _ => rfl) (zentry hov hloc hl) hP hD va_S.rf (by omega) (by omega) h5
  intro pc' ls' st' i len a b' hc hz
  obtain ⟨hd, -, hro, -⟩ := PO b pc' i len a b' 102 hc
  have hro := hro rfl
  intro ad' L' H' locs' cells' slots' q1 q2 ql qP qD qS q3 q4 q5
  have e1 : cells' = mc := by omega
  have e2 : slots' = ms := by omega
  subst e1
  subst e2
  have hq : ∀ t : State, t.heap = H' → s.WarmedH t.vm → zQc D cl aC ov A ad S r1 S1 (as.map (zc ov ad)).toArray s (.returned (r1.map (zc ov ad'))) t := fun t ht _ => ⟨ad', rfl, q1, q2, by rw [ht]; exact qP, qD, q5, qS.F ht⟩
  have hr : meth.sig.returnType = rt b := B.returns
  unfold zrt at hz
  unfold zROK at hro
  cases i <;> dsimp only at hz hro <;> first | (cases hz; done) | skip
  · have hz' := zR_ok hz
    clear hz
    rcases hz' with ⟨q, r, rfl, hz⟩ | ⟨q, r, rfl, hz⟩
    · split at hz
      · next g =>
        obtain ⟨rfl, rfl⟩ := g
        cases hz
        obtain ⟨cn, hcn⟩ := hro
        exact W.aret C.1 C.2.1 (hr.trans hcn) (Or.inl ⟨cn, rfl⟩) (Or.inr ⟨ad' q, zc_ref q⟩) hq qS.2.2 hd
      · cases hz
    · cases hz
  · have hz' := zI_ok hz
    clear hz
    obtain ⟨x, r, rfl, hz⟩ := hz'
    split at hz
    · next g =>
      obtain ⟨rfl, rfl, g⟩ := g
      cases hz
      rcases hro with ⟨rfl, h⟩ | ⟨rfl, h⟩ | ⟨rfl, h⟩ | ⟨rfl, h⟩
      · exact W.iret C.1 C.2.1 (hr.trans h) hq qS.2.2 hd
      · have gx : x = 0 ∨ x = 1 := by omega
        exact W.zret C.1 C.2.1 (hr.trans h) (by rcases gx with rfl | rfl <;> rfl) hq qS.2.2 hd
      · have gx : 0 ≤ x ∧ x < 65536 := by omega
        refine W.zret C.1 C.2.1 (hr.trans h) ?_ hq qS.2.2 hd
        have hn : Int32.ofInt x = nI x.toNat := by
          unfold nI
          rw [← Int32.ofInt_eq_ofNat, Int.toNat_of_nonneg gx.1]
        show narrow .char (.int (Int32.ofInt x)) = .int (Int32.ofInt x)
        rw [hn]
        exact (pk_charN (by omega)).1
      · have gx : -128 ≤ x ∧ x < 128 := by omega
        refine W.zret C.1 C.2.1 (hr.trans h) ?_ hq qS.2.2 hd
        show narrow .byte (.int (Int32.ofInt x)) = .int (Int32.ofInt x)
        rw [← zi_b gx]
        exact pk_nb _
    · cases hz
  · have hz' := zL_ok hz
    clear hz
    obtain ⟨x, r, rfl, hz⟩ := hz'
    split at hz
    · next g =>
      obtain ⟨rfl, rfl⟩ := g
      cases hz
      exact W.lret C.1 C.2.1 (hr.trans hro) hq qS.2.2 hd
    · cases hz
  · split at hz
    · next g =>
      obtain ⟨rfl, rfl⟩ := g
      cases hz
      exact W.vret C.1 C.2.1 (hr.trans hro) hq qS.2.2 hd
    · cases hz
