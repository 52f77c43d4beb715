theorem zcat_eq {ov : Nat → Value} (hov : ∀ k, (ov k).category = 1) {ad : Nat → Nat} {r : List zV} : ((r.map (zc ov ad)).map fun v => v.category).sum = zcat r := by
  unfold zcat
  rw [List.map_map]
  congr 1
  apply List.map_congr_left
  intro v _
  exact zc_cat hov
theorem zstep_ls {nF : Nat → Nat} {X : zX} {i : Instr} {pc len a b c pc' : Nat} {ls st ls' st' : List zV} {S S' : zS} (h : zstep nF X i pc len a b c ls st S = some (pc', ls', st', S')) : ls'.length = ls.length := by
  unfold zstep at h
  cases i <;> dsimp only at h <;> (try simp only [zI, zL, zR, zII, zLL, zlod, zsto, znew, zno] at h)
  all_goals (repeat' (first | (cases h; done) | (cases h; rfl) | (cases h; exact zst1_len) | (cases h; exact zst2_len) | split at h))
set_option maxHeartbeats 4000000 in
theorem zsound {l : Launch} {D : va_G} {cl : List vw_C} {aC : Nat → ClassId} {ov : Nat → Value} {A : Nat → Prop} {X : zX} {Ts : List Cond} {cod : Nat → Nat → Option zE} {inf : Nat → Nat × Nat × Nat} {mn : Nat → MethodName} {byt : Nat → ByteArray} {rt : Nat → Option FieldType} (O : zClo cl Ts) (G : zGen Ts) (hg : ∀ w ∈ Ts, goodWord w = true) (PO : zPOK cl Ts cod inf mn byt rt) (hcl : cl.length < 90) :
    ∀ (n d M pc : Nat) (ls st : List zV) (S : zS) (r : Option zV) (S' : zS), zexec cod inf (znF cl) X n d M pc ls st S = some (r, S') →
    ∀ (p : Program) (e : Env) (R : Room) (s : State) (m : MethodId) (args : Array Value) (below : List Frame) (meth : Method) (c : Code) (Q : State → Prop) (k0 s0 : Nat) (ad0 : Nat → Nat), zCx p R s m args meth c D cl aC ov A X (byt M) (mn M).cls (mn M).name Ts → ls.length = (inf M).2.2 → c.maxLocals = (inf M).2.2 → d + 1 ≤ R.frames → 60 * (d + 1) ≤ R.locals → S'.1.length ≤ k0 + R.cells → zsl (znF cl) S'.1 ≤ s0 + R.slots →
      (∀ (pc' : Nat) (ls' st' : List zV) (i : Instr) (len a b' : Nat), cod M pc' = some (i, len, a, b', 102) → zrt i len b' st' S' = some (r, S') → zAt p l e R s m args below meth c Q D cl aC ov A k0 s0 ad0 pc' ls' st' S') → zAt p l e R s m args below meth c Q D cl aC ov A k0 s0 ad0 pc ls st S
  | 0, _, _, _, _, _, _, _, _, h => by unfold zexec at h; cases h
  | n + 1, d, M, pc, ls, st, S, r, S', h => by
    intro p e R s m args below meth c0 Q k0 s0 ad0 C hls hml hRf hRl hRc hRs hret
    unfold zexec at h
    split at h
    · cases h
    · next i len a b c hc =>
      obtain ⟨hd, hcall, -, hstp⟩ := PO M pc i len a b c hc
      split at h
      · next hc1 =>
        obtain ⟨hco, MO⟩ := hcall hc1
        split at h
        · cases h
        · next d' =>
          split at h
          · next g =>
            obtain ⟨g1, g2, rfl, g3⟩ := g
            split at h
            · next grec =>
              split at h
              · cases h
              · next r1 S1 h1 =>
                split at h
                · next ggrow =>
                  obtain ⟨T1, t1⟩ := zexec_len n _ _ _ _ _ _ _ _ h1
                  obtain ⟨T2, t2⟩ := zexec_len n _ _ _ _ _ _ _ _ h
                  have len1 : S1.1.length = S.1.length + T1.length := by rw [t1, List.length_append]
                  have sl1 : zsl (znF cl) S1.1 = zsl (znF cl) S.1 + zsl (znF cl) T1 := by rw [t1, zsl_app]
                  have len2 : S'.1.length = S1.1.length + T2.length := by rw [t2, List.length_append]
                  have sl2 : zsl (znF cl) S'.1 = zsl (znF cl) S1.1 + zsl (znF cl) T2 := by rw [t2, zsl_app]
                  have K2 := zsound O G hg PO hcl n (d' + 1) M (pc + 3) ls (r1.toList ++ st.drop a) S1 r S' h p e R s m args below meth c0 Q k0 s0 ad0 C hls hml hRf hRl hRc hRs hret
                  have hst : st = ((st.take a).reverse).reverse ++ st.drop a := by rw [List.reverse_reverse, List.take_append_drop]
                  have hal : (st.take a).reverse.length = a := by rw [List.length_reverse, List.length_take]; omega
                  generalize (st.take a).reverse = as at *
                  generalize st.drop a = rs at *
                  subst hst
                  intro ad L H locs cells slots q1 q2 ql qP qD qS q3 q4 q5
                  have hov := zEnv.cat C.2.2.2.2.2.2.1
                  have hM : Met l (mn b) (Cond.code (mn b) (byt b) (inf b).2.2 (rt b) :: Ts) ({ frames := d' + 1, cells := T1.length, slots := zsl (znF cl) T1, locals := 60 * (d' + 1) }) (zPc D cl aC ov A X ad S as) (zQc D cl aC ov A ad S r1 S1) T1.length (zsl (znF cl) T1) A :=
                    zMet PO MO (fun {p e R s m args below meth c Q k0 s0 ad0} => zsound O G hg PO hcl n d' b 0 (zpad (inf b).2.2 (zloc as)) [] S r1 S1 h1 p e R s m args below meth c Q k0 s0 ad0) len1 sl1 g3
                  have hGI : GoodIn Ts (Cond.code (mn b) (byt b) (inf b).2.2 (rt b) :: Ts) := by
                    intro w hw
                    rcases List.mem_cons.mp hw with rfl | hw
                    · exact ⟨MO.1, good_of_word (hg _ MO.1)⟩
                    · exact ⟨hw, good_of_word (hg _ hw)⟩
                  have hFix : CallFix p m c0 (byt M) (inf M).2.2 s args Ts (mn M).cls := ⟨C.1, C.2.1, hml, C.2.2.1, C.2.2.2.1⟩
                  have hsz : L.size = (inf M).2.2 := ql.1.trans hls
                  have hroom : (d' + 1) + 1 ≤ R.frames ∧ 8 + ((inf b).2.2 + 11) + 60 * (d' + 1) ≤ R.locals := by
                    have := MO.2.2.2.2.2
                    omega
                  have hfit : cells + T1.length ≤ R.cells ∧ slots + zsl (znF cl) T1 ≤ R.slots := by omega
                  have hini := C.2.2.2.1 _ MO.2.1
                  have hWr : 2 * (F0 m pc L ((as.reverse ++ rs).map (zc ov ad))).monitorRoom + ((rs.map (zc ov ad)).map fun v => v.category).sum ≤ 8 := by
                    rw [zcat_eq hov]
                    show 2 * 0 + zcat rs ≤ 8
                    omega
                  have hpre : ∀ U : State, U.heap = H → s.WarmedH U.vm → zPc D cl aC ov A X ad S as (as.map (zc ov ad)).toArray U := fun U hU hW => ⟨rfl, zWd_at C.2.2.2.2.2.1 C.2.2.2.2.2.2.1 qP qD q5 qS hU hW⟩
                  have key : va_Run p l e R s m args below meth c0 H locs cells slots T1.length (zsl (znF cl) T1) (F0 m pc L ((as.reverse ++ rs).map (zc ov ad))) (rs.map (zc ov ad)) (zQc D cl aC ov A ad S r1 S1 (as.map (zc ov ad)).toArray) A := by
                    unfold zCOK at hco
                    cases i <;> dsimp only at hco <;> first | (exact hco.elim) | skip
                    case invokevirtual idx =>
                      obtain ⟨w1, w2, w3, w4, w5, w6, w7⟩ := hco
                      have grec : zrcv as S.1 (inf b).1 = true := by
                        rcases grec with q | q
                        · omega
                        · exact q
                      cases as with
                      | nil => cases grec
                      | cons v as' =>
                        have hrec : ∃ q : Nat, zc ov ad v = .ref q ∧ ∃ cellB : Cell, H[q]? = some cellB ∧ cellB.vm.isStatics = false ∧ s.vm.findClass (mn b).cls = some cellB.cls := by
                          unfold zrcv at grec
                          rw [Bool.or_eq_true, Bool.and_eq_true, Bool.and_eq_true] at grec
                          rcases grec with ⟨z1, z2⟩ | ⟨z1, z2⟩
                          · obtain ⟨vt, vx⟩ := v
                            obtain ⟨z3, z4⟩ := of_decide_eq_true z1
                            dsimp only at z3 z4
                            subst z3
                            have z5 : S.1[vx.toNat]? = some (0, (inf b).1) := by simpa using z2
                            refine ⟨ad vx.toNat, ?_, ?_⟩
                            · have := zc_ref (ov := ov) (ad := ad) vx.toNat
                              rw [Int.toNat_of_nonneg z4] at this
                              exact this
                            · rcases w5 with ⟨u1, u2⟩ | ⟨cq, u1, u2, u3⟩
                              · have hx := qP _ _ (zw_at (cl := cl) (aC := aC) (ad := ad) z5)
                                rw [zcell_o] at hx
                                obtain ⟨r9, r10, -⟩ := hx
                                rw [u1] at r10
                                have := (List.getElem?_eq_some_iff.mp r10).1
                                omega
                              · have he := zw_at (cl := cl) (aC := aC) (ad := ad) z5
                                rw [zcell_o] at he
                                rw [← u2]
                                exact va_recv C.2.2.2.2.2.2.1.1 qP u1 he
                          · have z3 : v = (3, 1) := by simpa using z1
                            subst z3
                            obtain ⟨aK, aV, e1, e2, e3, ⟨cell, e4, e5, e6, e7⟩, -⟩ := C.2.2.2.2.2.2.1.2.2.2.2.2.2.1
                            rcases w5 with ⟨u1, u2⟩ | ⟨cq, u1, u2, u3⟩
                            · refine ⟨aK, e1, cell, ?_, e5, by rw [u2]; exact e6⟩
                              rw [qS.2.1 aK (Array.getElem?_eq_some_iff.mp e4).1 e7]
                              exact e4
                            · exact absurd (by simpa using z2) u3
                        obtain ⟨q, hq, hcell⟩ := hrec
                        have hCW : CallW R s args (mn M).cls (mn b).cls idx (mn b) (byt b) (inf b).2.2 (rt b) (Cond.code (mn b) (byt b) (inf b).2.2 (rt b) :: Ts) ({ frames := d' + 1, cells := T1.length, slots := zsl (znF cl) T1, locals := 60 * (d' + 1) }) T1.length (zsl (znF cl) T1) (a - 1) :=
                          ⟨callB_of (a - 1) C.2.2.2.1 hGI rfl rfl rfl hini (C.2.2.2.1 _ w1) ⟨MO.2.2.2.1, MO.2.2.2.2.1, w7⟩ hroom, C.2.2.2.1 _ w2, C.2.2.2.1 _ w3⟩
                        have hv : ((v :: as').map (zc ov ad)) = .ref q :: as'.map (zc ov ad) := by rw [List.map_cons, hq]
                        rw [hv] at hpre ⊢
                        refine va_runV (As := as'.map (zc ov ad)) hFix hM hCW ⟨zPc_blind, hcell, hpre⟩ rfl (by rw [List.length_map]; simp at hal; omega) hsz ?_ hWr hd hfit
                        show ((v :: as').reverse ++ rs).map (zc ov ad) = _
                        rw [List.reverse_cons, List.append_assoc, List.map_append, List.map_reverse, List.map_append, List.map_singleton, hq]
                        rfl
                    case invokestatic idx =>
                      obtain ⟨w1, w2, w3⟩ := hco
                      refine va_runS hFix hM ⟨callB_of a C.2.2.2.1 hGI rfl rfl rfl hini (C.2.2.2.1 _ w1) ⟨MO.2.2.2.1, MO.2.2.2.2.1, w3⟩ hroom, C.2.2.2.1 _ w2⟩ ⟨zPc_blind, hpre⟩ rfl (by rw [List.length_map]; exact hal) hsz ?_ hWr hd hfit
                      show (as.reverse ++ rs).map (zc ov ad) = _
                      rw [List.map_append, List.map_reverse]
                    case invokespecial idx =>
                      obtain ⟨w1, w2, w3, w4, w5, w6, w7, w8⟩ := hco
                      have grec : zrcv as S.1 (inf b).1 = true := by
                        rcases grec with q | q
                        · omega
                        · exact q
                      cases as with
                      | nil => cases grec
                      | cons v as' =>
                        have hrec : ∃ q : Nat, zc ov ad v = .ref q := by
                          unfold zrcv at grec
                          rw [Bool.or_eq_true, Bool.and_eq_true, Bool.and_eq_true] at grec
                          rcases grec with ⟨z1, z2⟩ | ⟨z1, z2⟩
                          · obtain ⟨vt, vx⟩ := v
                            obtain ⟨z3, z4⟩ := of_decide_eq_true z1
                            dsimp only at z3 z4
                            subst z3
                            have := zc_ref (ov := ov) (ad := ad) vx.toNat
                            rw [Int.toNat_of_nonneg z4] at this
                            exact ⟨_, this⟩
                          · exact absurd (by simpa using z2) w5
                        obtain ⟨q, hq⟩ := hrec
                        have hv : ((v :: as').map (zc ov ad)) = .ref q :: as'.map (zc ov ad) := by rw [List.map_cons, hq]
                        have hstk : ((v :: as').reverse ++ rs).map (zc ov ad) = (as'.map (zc ov ad)).reverse ++ .ref q :: rs.map (zc ov ad) := by
                          rw [List.reverse_cons, List.append_assoc, List.map_append, List.map_reverse, List.map_append, List.map_singleton, hq]
                          rfl
                        rw [hv] at hpre ⊢
                        rw [w8] at hM hGI
                        have hal' : (as'.map (zc ov ad)).length = a - 1 := by rw [List.length_map]; simp at hal; omega
                        rcases w1 with w1 | ⟨host, w1⟩
                        · exact va_runI (As := as'.map (zc ov ad)) hFix hM ⟨callB_of (a - 1) C.2.2.2.1 hGI rfl rfl rfl hini (C.2.2.2.1 _ w1) ⟨MO.2.2.2.1, MO.2.2.2.2.1, w7⟩ hroom, w2, C.2.2.2.1 _ w3⟩ ⟨zPc_blind, hpre⟩ rfl hal' hsz hstk hWr hd hfit
                        · exact va_runIN (As := as'.map (zc ov ad)) hFix hM ⟨va_cnB (a - 1) C.2.2.2.1 hGI rfl rfl rfl (C.2.2.2.2.2.2.1.2.2.2.2.2.2.2.1.2 _ w1) hini ⟨MO.2.2.2.1, MO.2.2.2.2.1, w7⟩ hroom, w2, C.2.2.2.1 _ w3⟩ ⟨zPc_blind, hpre⟩ rfl hal' hsz hstk hWr hd hfit
                  refine zcall key qS (fun ad' H1 locs1 u1 u2 u3 u4 u5 u6 => ?_)
                  have hadl : zlv ov ad' ls L ∧ rs.map (zc ov ad') = rs.map (zc ov ad) := by
                    rcases ggrow with q | ⟨q, q'⟩
                    · have := u2 q
                      subst this
                      exact ⟨ql, rfl⟩
                    · exact ⟨zlv_ext u1 q ql, zvok_map u1 q'⟩
                  have kk := K2 ad' L H1 locs1 (cells + T1.length) (slots + zsl (znF cl) T1) (fun i hi => by rw [u1 i (by omega)]; exact q1 i hi) (fun hq => by
                    have z1 : S.1.length = k0 := by omega
                    rw [u2 (by omega)]
                    exact q2 z1) hadl.1 u3 u4 u6 (by omega) (by omega) u5
                  rw [List.map_append, hadl.2] at kk
                  have e9 : (r1.map (zc ov ad')).toList = r1.toList.map (zc ov ad') := by cases r1 <;> rfl
                  rw [e9]
                  exact kk
                · cases h
            · cases h
          · cases h
      · next hc1 =>
        split at h
        · next hc2 =>
          subst hc2
          have hS : S' = S := by
            unfold zrt at h
            cases i <;> dsimp only at h <;> first | (cases h; done) | skip
            · rcases zR_ok h with ⟨q, r, -, h⟩ | ⟨q, r, -, h⟩
              · split at h
                · cases h; rfl
                · cases h
              · cases h
            · obtain ⟨q, r, -, h⟩ := zI_ok h
              split at h
              · cases h; rfl
              · cases h
            · obtain ⟨q, r, -, h⟩ := zL_ok h
              split at h
              · cases h; rfl
              · cases h
            · split at h
              · cases h; rfl
              · cases h
          subst hS
          exact hret pc ls st i len a b hc h
        · next hc2 =>
          split at h
          · cases h
          · next pc' ls' st' S1 h1 =>
            obtain ⟨T2, t2⟩ := zexec_len n _ _ _ _ _ _ _ _ h
            have len2 : S'.1.length = S1.1.length + T2.length := by rw [t2, List.length_append]
            have sl2 : zsl (znF cl) S'.1 = zsl (znF cl) S1.1 + zsl (znF cl) T2 := by rw [t2, zsl_app]
            have hls' : ls'.length = ls.length := zstep_ls h1
            exact zstep_ok C O G (hstp hc1 hc2) hd (by rw [hml, hls]) h1 (by omega) (by omega) (zsound O G hg PO hcl n d M pc' ls' st' S1 r S' h p e R s m args below meth c0 Q k0 s0 ad0 C (by rw [hls']; exact hls) hml hRf hRl hRc hRs hret)
