set_option maxHeartbeats 4000000 in
theorem zstep_ok {p : Program} {l : Launch} {e : Env} {R : Room} {s : State} {m : MethodId} {args : Array Value} {below : List Frame} {meth : Method} {c0 : Code} {Q : State → Prop} {D : va_G} {cl : List vw_C} {aC : Nat → ClassId} {ov : Nat → Value} {A : Nat → Prop} {X : zX} {k0 s0 : Nat} {ad0 : Nat → Nat} {cc : ByteArray} {own nm : String} {Ts : List Cond} {i : Instr} {pc len a b c pc' : Nat} {ls st ls' st' : List zV} {S S' : zS}
    (C : zCx p R s m args meth c0 D cl aC ov A X cc own nm Ts) (O : zClo cl Ts) (G : zGen Ts) (hE : zEOK cl Ts own nm pc i len a b c) (hd : decode cc pc = .ok (i, len)) (hml : c0.maxLocals = ls.length)
    (hst : zstep (znF cl) X i pc len a b c ls st S = some (pc', ls', st', S')) (hR : S'.1.length ≤ k0 + R.cells) (hR2 : zsl (znF cl) S'.1 ≤ s0 + R.slots)
    (K0 : zAt p l e R s m args below meth c0 Q D cl aC ov A k0 s0 ad0 pc' ls' st' S') : zAt p l e R s m args below meth c0 Q D cl aC ov A k0 s0 ad0 pc ls st S := by
  unfold zstep at hst
  unfold zEOK at hE
  cases i <;> dsimp only at hst hE
  case iconst n =>
    split at hst
    · next g =>
      obtain ⟨g1, g2, rfl⟩ := g
      cases hst
      exact zs_iconst C hd K0
    · cases hst
  case bipush n =>
    split at hst
    · next g =>
      obtain ⟨g1, g2, rfl⟩ := g
      cases hst
      exact zs_bipush C ⟨g1, g2⟩ hd K0
    · cases hst
  case sipush n =>
    split at hst
    · next g =>
      obtain ⟨g1, g2, rfl⟩ := g
      cases hst
      exact zs_sipush C ⟨g1, g2⟩ hd K0
    · cases hst
  case lconst n =>
    split at hst
    · next g =>
      subst g
      cases hst
      exact zs_lconst C hd K0
    · cases hst
  case ldc n =>
    split at hst
    · next g =>
      subst g
      split at hst
      · next g1 => cases hst; exact zs_ldc C (hE.1 g1) hd K0
      · split at hst
        · next g2 =>
          cases hst
          obtain ⟨e1, rfl⟩ := hE.2 g2
          exact zs_ldcS C e1 hd K0
        · cases hst
    · cases hst
  case ldc_w n =>
    split at hst
    · next g =>
      obtain ⟨rfl, g2⟩ := g
      cases hst
      exact zs_ldcw C hE hd K0
    · cases hst
  case ldc2_w n =>
    split at hst
    · next g =>
      subst g
      cases hst
      exact zs_ldc2 C hE hd K0
    · cases hst
  case iload n =>
    split at hst
    · next g =>
      obtain ⟨rfl, g2⟩ := g
      cases hst
      exact zs_iload C g2 hd K0
    · cases hst
  case iload_n n =>
    split at hst
    · next g =>
      obtain ⟨rfl, g2⟩ := g
      cases hst
      exact zs_iload_n C g2 hd K0
    · cases hst
  case lload n =>
    split at hst
    · next g =>
      obtain ⟨rfl, g2⟩ := g
      cases hst
      exact zs_lload C g2 hd K0
    · cases hst
  case lload_n n =>
    split at hst
    · next g =>
      obtain ⟨rfl, g2⟩ := g
      cases hst
      exact zs_lload_n C g2 hd K0
    · cases hst
  case aload n =>
    split at hst
    · next g =>
      obtain ⟨rfl, g2⟩ := g
      cases hst
      exact zs_aload C g2 hd K0
    · cases hst
  case aload_n n =>
    split at hst
    · next g =>
      obtain ⟨rfl, g2⟩ := g
      cases hst
      exact zs_aload_n C g2 hd K0
    · cases hst
  case istore n =>
    split at hst
    · next g =>
      obtain ⟨rfl, g2⟩ := g
      have hz := zI_ok hst
      clear hst
      obtain ⟨x, r, rfl, hst⟩ := hz
      cases hst
      exact zs_istore C g2 hd K0
    · cases hst
  case istore_n n =>
    split at hst
    · next g =>
      obtain ⟨rfl, g2⟩ := g
      have hz := zI_ok hst
      clear hst
      obtain ⟨x, r, rfl, hst⟩ := hz
      cases hst
      exact zs_istore_n C g2 hd K0
    · cases hst
  case lstore n =>
    split at hst
    · next g =>
      obtain ⟨rfl, g2⟩ := g
      have hz := zL_ok hst
      clear hst
      obtain ⟨x, r, rfl, hst⟩ := hz
      cases hst
      exact zs_lstore C g2 hd K0
    · cases hst
  case lstore_n n =>
    split at hst
    · next g =>
      obtain ⟨rfl, g2⟩ := g
      have hz := zL_ok hst
      clear hst
      obtain ⟨x, r, rfl, hst⟩ := hz
      cases hst
      exact zs_lstore_n C g2 hd K0
    · cases hst
  case astore n =>
    split at hst
    · next g =>
      obtain ⟨rfl, g2⟩ := g
      have hz := zR_ok hst
      clear hst
      rcases hz with ⟨q, r, rfl, hst⟩ | ⟨q, r, rfl, hst⟩
      · cases hst
        exact zs_astore C g2 hd K0
      · cases hst
    · cases hst
  case astore_n n =>
    split at hst
    · next g =>
      obtain ⟨rfl, g2⟩ := g
      have hz := zR_ok hst
      clear hst
      rcases hz with ⟨q, r, rfl, hst⟩ | ⟨q, r, rfl, hst⟩
      · cases hst
        exact zs_astore_n C g2 hd K0
      · cases hst
    · cases hst
  case iinc k n =>
    split at hst
    · next g =>
      obtain ⟨rfl, g2, g3⟩ := g
      cases hst
      exact zs_iinc C g2 g3 hd K0
    · cases hst
  case iadd =>
    subst hE
    have hz := zII_ok hst
    clear hst
    obtain ⟨x, y, r, rfl, hst⟩ := hz
    cases hst
    exact zs_iadd C hd K0
  case isub =>
    subst hE
    have hz := zII_ok hst
    clear hst
    obtain ⟨x, y, r, rfl, hst⟩ := hz
    cases hst
    exact zs_isub C hd K0
  case imul =>
    subst hE
    have hz := zII_ok hst
    clear hst
    obtain ⟨x, y, r, rfl, hst⟩ := hz
    cases hst
    exact zs_imul C hd K0
  case iand =>
    subst hE
    have hz := zII_ok hst
    clear hst
    obtain ⟨x, y, r, rfl, hst⟩ := hz
    cases hst
    exact zs_iand C hd K0
  case ior =>
    subst hE
    have hz := zII_ok hst
    clear hst
    obtain ⟨x, y, r, rfl, hst⟩ := hz
    cases hst
    exact zs_ior C hd K0
  case ixor =>
    subst hE
    have hz := zII_ok hst
    clear hst
    obtain ⟨x, y, r, rfl, hst⟩ := hz
    cases hst
    exact zs_ixor C hd K0
  case ishl =>
    subst hE
    have hz := zII_ok hst
    clear hst
    obtain ⟨x, y, r, rfl, hst⟩ := hz
    cases hst
    exact zs_ishl C hd K0
  case ishr =>
    subst hE
    have hz := zII_ok hst
    clear hst
    obtain ⟨x, y, r, rfl, hst⟩ := hz
    cases hst
    exact zs_ishr C hd K0
  case iushr =>
    subst hE
    have hz := zII_ok hst
    clear hst
    obtain ⟨x, y, r, rfl, hst⟩ := hz
    cases hst
    exact zs_iushr C hd K0
  case ladd =>
    subst hE
    have hz := zLL_ok hst
    clear hst
    obtain ⟨x, y, r, rfl, hst⟩ := hz
    cases hst
    exact zs_ladd C hd K0
  case lsub =>
    subst hE
    have hz := zLL_ok hst
    clear hst
    obtain ⟨x, y, r, rfl, hst⟩ := hz
    cases hst
    exact zs_lsub C hd K0
  case lmul =>
    subst hE
    have hz := zLL_ok hst
    clear hst
    obtain ⟨x, y, r, rfl, hst⟩ := hz
    cases hst
    exact zs_lmul C hd K0
  case land =>
    subst hE
    have hz := zLL_ok hst
    clear hst
    obtain ⟨x, y, r, rfl, hst⟩ := hz
    cases hst
    exact zs_land C hd K0
  case lor =>
    subst hE
    have hz := zLL_ok hst
    clear hst
    obtain ⟨x, y, r, rfl, hst⟩ := hz
    cases hst
    exact zs_lor C hd K0
  case idiv =>
    subst hE
    have hz := zII_ok hst
    clear hst
    obtain ⟨x, y, r, rfl, hst⟩ := hz
    split at hst
    · next g =>
      cases hst
      exact zs_idiv C g.1 g.2.1 g.2.2 hd K0
    · cases hst
  case ldiv =>
    subst hE
    have hz := zLL_ok hst
    clear hst
    obtain ⟨x, y, r, rfl, hst⟩ := hz
    split at hst
    · next g =>
      cases hst
      exact zs_ldiv C g.1 g.2.1 g.2.2 hd K0
    · cases hst
  case irem =>
    subst hE
    have hz := zII_ok hst
    clear hst
    obtain ⟨x, y, r, rfl, hst⟩ := hz
    split at hst
    · next g =>
      cases hst
      exact zs_irem C g.1 g.2.1 g.2.2 hd K0
    · cases hst
  case lrem =>
    subst hE
    have hz := zLL_ok hst
    clear hst
    obtain ⟨x, y, r, rfl, hst⟩ := hz
    split at hst
    · next g =>
      cases hst
      exact zs_lrem C g.1 g.2.1 g.2.2 hd K0
    · cases hst
  case lshl =>
    subst hE
    have hz := zI_ok hst
    clear hst
    obtain ⟨y, r, rfl, hst⟩ := hz
    have hz := zL_ok hst
    clear hst
    obtain ⟨x, r, rfl, hst⟩ := hz
    cases hst
    exact zs_lshl C hd K0
  case lshr =>
    subst hE
    have hz := zI_ok hst
    clear hst
    obtain ⟨y, r, rfl, hst⟩ := hz
    have hz := zL_ok hst
    clear hst
    obtain ⟨x, r, rfl, hst⟩ := hz
    cases hst
    exact zs_lshr C hd K0
  case lcmp =>
    subst hE
    have hz := zLL_ok hst
    clear hst
    obtain ⟨x, y, r, rfl, hst⟩ := hz
    split at hst
    · next g =>
      cases hst
      exact zs_lcmp C g.1 g.2 hd K0
    · cases hst
  case i2l =>
    subst hE
    have hz := zI_ok hst
    clear hst
    obtain ⟨x, r, rfl, hst⟩ := hz
    split at hst
    · next g =>
      cases hst
      exact zs_i2l C g hd K0
    · cases hst
  case l2i =>
    subst hE
    have hz := zL_ok hst
    clear hst
    obtain ⟨x, r, rfl, hst⟩ := hz
    cases hst
    exact zs_l2i C hd K0
  case i2b =>
    subst hE
    have hz := zI_ok hst
    clear hst
    obtain ⟨x, r, rfl, hst⟩ := hz
    cases hst
    exact zs_i2b C hd K0
  case i2c =>
    subst hE
    have hz := zI_ok hst
    clear hst
    obtain ⟨x, r, rfl, hst⟩ := hz
    cases hst
    exact zs_i2c C hd K0
  case dup =>
    subst hE
    cases st with
    | nil => cases hst
    | cons v r =>
      dsimp only at hst
      split at hst
      · next g => cases hst; exact zs_dup C (by omega) hd K0
      · cases hst
  case pop =>
    subst hE
    cases st with
    | nil => cases hst
    | cons v r =>
      dsimp only at hst
      split at hst
      · next g => cases hst; exact zs_pop C (by omega) hd K0
      · cases hst
  case dup2 =>
    subst hE
    cases st with
    | nil => cases hst
    | cons v r =>
      cases r with
      | nil => cases hst
      | cons w r =>
        dsimp only at hst
        split at hst
        · next g => cases hst; exact zs_dup2 C (by omega) (by omega) hd K0
        · cases hst
  case ifCond k off =>
    obtain ⟨e1, rfl⟩ := hE
    have hz := zI_ok hst
    clear hst
    obtain ⟨x, r, rfl, hst⟩ := hz
    split at hst
    · next g =>
      cases hst
      cases k
      · exact zs_if_eq C g e1 hd K0
      · exact zs_if_ne C g e1 hd K0
      · exact zs_if_lt C g e1 hd K0
      · exact zs_if_ge C g e1 hd K0
      · exact zs_if_gt C g e1 hd K0
      · exact zs_if_le C g e1 hd K0
    · cases hst
  case if_icmp k off =>
    obtain ⟨e1, rfl⟩ := hE
    have hz := zII_ok hst
    clear hst
    obtain ⟨x, y, r, rfl, hst⟩ := hz
    split at hst
    · next g =>
      cases hst
      cases k
      · exact zs_icmp_eq C g.1 g.2 e1 hd K0
      · exact zs_icmp_ne C g.1 g.2 e1 hd K0
      · exact zs_icmp_lt C g.1 g.2 e1 hd K0
      · exact zs_icmp_ge C g.1 g.2 e1 hd K0
      · exact zs_icmp_gt C g.1 g.2 e1 hd K0
      · exact zs_icmp_le C g.1 g.2 e1 hd K0
    · cases hst
  case ifnull off =>
    subst hE
    have hz := zR_ok hst
    clear hst
    rcases hz with ⟨q, r, rfl, hst⟩ | ⟨q, r, rfl, hst⟩
    · cases hst
      exact zs_ifnull C hd K0
    · cases hst
  case goto off =>
    obtain ⟨e1, rfl⟩ := hE
    cases hst
    exact zs_goto C e1 hd K0
  case tableswitch d0 lo hi offs =>
    have hz := zI_ok hst
    clear hst
    obtain ⟨x, r, rfl, hst⟩ := hz
    split at hst
    · next g =>
      split at hst
      · next g2 =>
        split at hst
        · next g3 => cases hst; exact zs_tabOut C g g2 (by omega) hd K0
        · cases hst
      · next g2 =>
        split at hst
        · next off ho =>
          split at hst
          · next g3 => cases hst; exact zs_tabIn C g g2 ho (by omega) hd K0
          · cases hst
        · cases hst
    · cases hst
  case lookupswitch d0 ps =>
    have hz := zI_ok hst
    clear hst
    obtain ⟨x, r, rfl, hst⟩ := hz
    split at hst
    · next g =>
      cases hst
      exact zs_look C g.1 g.2.1 (by omega) hd K0
    · cases hst
  case getfield idx =>
    obtain ⟨rfl, e8, e9, e3⟩ := hE
    have hz := zR_ok hst
    clear hst
    rcases hz with ⟨q, r, rfl, hst⟩ | ⟨q, r, rfl, hst⟩
    · split at hst
      · next t ht =>
        split at hst
        · next g =>
          obtain ⟨rfl, g2⟩ := g
          cases hst
          obtain ⟨cq, q1, q2, q3, q4⟩ := e3 g2
          exact zs_getf C O q1 q2 q3 ht q4 hd K0
        · cases hst
      · cases hst
    · split at hst
      · next g1 =>
        subst g1
        split at hst
        · next g2 => cases hst; exact zs_getfV C (e8 g2) hd K0
        · split at hst
          · next g2 => cases hst; exact zs_getfC C (e9 g2) hd K0
          · cases hst
      · cases hst
  case putfield idx =>
    obtain ⟨rfl, cq, q1, q2, q3, q4, q5, q6⟩ := hE
    split at hst
    · next g =>
      have hz := zI_ok hst
      clear hst
      obtain ⟨x, r, rfl, hst⟩ := hz
      have hz := zR_ok hst
      clear hst
      rcases hz with ⟨q, r, rfl, hst⟩ | ⟨q, r, rfl, hst⟩
      · split at hst
        · next t ht =>
          split at hst
          · next g3 =>
            subst g3
            cases hst
            rcases g with rfl | rfl
            · exact zs_putfI C O q1 q2 q3 ht q4 (q5 (by decide)) hd K0
            · exact zs_putfIF C O q1 q2 q3 ht q4 (q6 (by decide)).1 (q6 (by decide)).2.1 (q6 (by decide)).2.2 hd K0
          · cases hst
        · cases hst
      · cases hst
    · split at hst
      · next g =>
        have hz := zI_ok hst
        clear hst
        obtain ⟨x, r, rfl, hst⟩ := hz
        split at hst
        · next gx =>
          have hz := zR_ok hst
          clear hst
          rcases hz with ⟨q, r, rfl, hst⟩ | ⟨q, r, rfl, hst⟩
          · split at hst
            · next t ht =>
              split at hst
              · next g3 =>
                subst g3
                cases hst
                rcases g with rfl | rfl
                · exact zs_putfZ C O q1 q2 q3 ht q4 gx (q5 (by decide)) hd K0
                · exact zs_putfZF C O q1 q2 q3 ht q4 gx (q6 (by decide)).1 (q6 (by decide)).2.1 (q6 (by decide)).2.2 hd K0
              · cases hst
            · cases hst
          · cases hst
        · cases hst
      · split at hst
        · next g =>
          have hz := zL_ok hst
          clear hst
          obtain ⟨x, r, rfl, hst⟩ := hz
          have hz := zR_ok hst
          clear hst
          rcases hz with ⟨q, r, rfl, hst⟩ | ⟨q, r, rfl, hst⟩
          · split at hst
            · next t ht =>
              split at hst
              · next g3 =>
                subst g3
                cases hst
                rcases g with rfl | rfl
                · exact zs_putfJ C O q1 q2 q3 ht q4 (q5 (by decide)) hd K0
                · exact zs_putfJF C O q1 q2 q3 ht q4 (q6 (by decide)).1 (q6 (by decide)).2.1 (q6 (by decide)).2.2 hd K0
              · cases hst
            · cases hst
          · cases hst
        · split at hst
          · next g =>
            have hz := zR_ok hst
            clear hst
            rcases hz with ⟨v, r, rfl, hst⟩ | ⟨v, r, rfl, hst⟩
            · skip
              have hz := zR_ok hst
              clear hst
              rcases hz with ⟨q, r, rfl, hst⟩ | ⟨q, r, rfl, hst⟩
              · split at hst
                · next t ht =>
                  split at hst
                  · next g3 =>
                    subst g3
                    cases hst
                    rcases g with rfl | rfl
                    · exact zs_putfL C O q1 q2 q3 ht q4 (q5 (by decide)) hd K0
                    · exact zs_putfLF C O q1 q2 q3 ht q4 (q6 (by decide)).1 (q6 (by decide)).2.1 (q6 (by decide)).2.2 hd K0
                  · cases hst
                · cases hst
              · cases hst
            · cases hst
          · cases hst
  case getstatic idx =>
    obtain ⟨rfl, h⟩ := hE
    rcases h with ⟨rfl, rfl, h⟩ | ⟨rfl, rfl, h⟩ | ⟨rfl, rfl, h⟩ | ⟨rfl, h⟩
    · cases hst; exact zs_gets_col C h hd K0
    · cases hst; exact zs_gets_row C h hd K0
    · cases hst; exact zs_gets_fmt C h hd K0
    · cases hst; exact zs_gets_cmp C h hd K0
  case iaload =>
    subst hE
    unfold zlod at hst
    have hz := zI_ok hst
    clear hst
    obtain ⟨i, r, rfl, hst⟩ := hz
    have hz := zR_ok hst
    clear hst
    rcases hz with ⟨q, r, rfl, hst⟩ | ⟨q, r, rfl, hst⟩
    · split at hst
      · next t ht =>
        obtain ⟨t1, t2⟩ := t
        split at hst
        · next g =>
          obtain ⟨g1, g2, g3⟩ := g
          cases hst
          dsimp only at g1 g3
          rcases g1 with rfl | rfl
          · exact zs_iald C ht g2 g3 hd K0
          · exact zs_iald C ht g2 g3 hd K0
        · cases hst
      · cases hst
    · split at hst
      · next g =>
        cases hst
        obtain ⟨g1, g2, g3⟩ := g
        simp only [Bool.or_eq_true, beq_iff_eq] at g1
        rcases g1 with (rfl | rfl) | rfl
        · exact zs_sld C g2 g3 hd K0
        · exact zs_ald_t3 C g2 g3 hd K0
        · exact zs_ald_t4 C g2 g3 hd K0
      · cases hst
  case laload =>
    subst hE
    unfold zlod at hst
    have hz := zI_ok hst
    clear hst
    obtain ⟨i, r, rfl, hst⟩ := hz
    have hz := zR_ok hst
    clear hst
    rcases hz with ⟨q, r, rfl, hst⟩ | ⟨q, r, rfl, hst⟩
    · split at hst
      · next t ht =>
        obtain ⟨t1, t2⟩ := t
        split at hst
        · next g =>
          obtain ⟨g1, g2, g3⟩ := g
          cases hst
          dsimp only at g1 g3
          rcases g1 with rfl | rfl
          · exact zs_lald C ht g2 g3 hd K0
          · exact zs_lald C ht g2 g3 hd K0
        · cases hst
      · cases hst
    · split at hst
      · next g =>
        cases hst
        obtain ⟨g1, g2, g3⟩ := g
        cases g1
      · cases hst
  case baload =>
    subst hE
    unfold zlod at hst
    have hz := zI_ok hst
    clear hst
    obtain ⟨i, r, rfl, hst⟩ := hz
    have hz := zR_ok hst
    clear hst
    rcases hz with ⟨q, r, rfl, hst⟩ | ⟨q, r, rfl, hst⟩
    · split at hst
      · next t ht =>
        obtain ⟨t1, t2⟩ := t
        split at hst
        · next g =>
          obtain ⟨g1, g2, g3⟩ := g
          cases hst
          dsimp only at g1 g3
          rcases g1 with rfl | rfl
          · exact zs_bald C ht g2 g3 hd K0
          · exact zs_zald C ht g2 g3 hd K0
        · cases hst
      · cases hst
    · split at hst
      · next g =>
        cases hst
        obtain ⟨g1, g2, g3⟩ := g
        simp only [beq_iff_eq] at g1
        subst g1
        exact zs_ald_t2 C g2 g3 hd K0
      · cases hst
  case aaload =>
    subst hE
    have hz := zI_ok hst
    clear hst
    obtain ⟨i, r, rfl, hst⟩ := hz
    have hz := zR_ok hst
    clear hst
    rcases hz with ⟨q, r, rfl, hst⟩ | ⟨q, r, rfl, hst⟩
    · split at hst
      · next t ht =>
        obtain ⟨t1, t2⟩ := t
        split at hst
        · next g =>
          obtain ⟨g1, g2, g3⟩ := g
          dsimp only at g1 g3
          subst g1
          cases hst
          exact zs_aald C ht g2 g3 hd K0
        · cases hst
      · cases hst
    · cases hst
  case iastore =>
    subst hE
    have hz := zI_ok hst
    clear hst
    obtain ⟨x, r, rfl, hst⟩ := hz
    have hz := zI_ok hst
    clear hst
    obtain ⟨i, r, rfl, hst⟩ := hz
    unfold zsto at hst
    have hz := zR_ok hst
    clear hst
    rcases hz with ⟨q, r, rfl, hst⟩ | ⟨q, r, rfl, hst⟩
    · split at hst
      · next t ht =>
        obtain ⟨t1, t2⟩ := t
        split at hst
        · next g =>
          obtain ⟨g1, g2, g3⟩ := g
          dsimp only at g1 g3
          subst g1
          cases hst
          exact zs_iast C ht g2 g3 hd K0
        · cases hst
      · cases hst
    · cases hst
  case lastore =>
    subst hE
    have hz := zL_ok hst
    clear hst
    obtain ⟨x, r, rfl, hst⟩ := hz
    have hz := zI_ok hst
    clear hst
    obtain ⟨i, r, rfl, hst⟩ := hz
    unfold zsto at hst
    have hz := zR_ok hst
    clear hst
    rcases hz with ⟨q, r, rfl, hst⟩ | ⟨q, r, rfl, hst⟩
    · split at hst
      · next t ht =>
        obtain ⟨t1, t2⟩ := t
        split at hst
        · next g =>
          obtain ⟨g1, g2, g3⟩ := g
          dsimp only at g1 g3
          subst g1
          cases hst
          exact zs_last C ht g2 g3 hd K0
        · cases hst
      · cases hst
    · cases hst
  case bastore =>
    subst hE
    have hz := zI_ok hst
    clear hst
    obtain ⟨x, r, rfl, hst⟩ := hz
    have hz := zI_ok hst
    clear hst
    obtain ⟨i, r, rfl, hst⟩ := hz
    split at hst
    · split at hst
      · next gx =>
        unfold zsto at hst
        have hz := zR_ok hst
        clear hst
        rcases hz with ⟨q, r, rfl, hst⟩ | ⟨q, r, rfl, hst⟩
        · split at hst
          · next t ht =>
            obtain ⟨t1, t2⟩ := t
            split at hst
            · next g =>
              obtain ⟨g1, g2, g3⟩ := g
              dsimp only at g1 g3
              subst g1
              cases hst
              exact zs_bast C ht g2 g3 gx hd K0
            · cases hst
          · cases hst
        · cases hst
      · cases hst
    · split at hst
      · next gx =>
        unfold zsto at hst
        have hz := zR_ok hst
        clear hst
        rcases hz with ⟨q, r, rfl, hst⟩ | ⟨q, r, rfl, hst⟩
        · split at hst
          · next t ht =>
            obtain ⟨t1, t2⟩ := t
            split at hst
            · next g =>
              obtain ⟨g1, g2, g3⟩ := g
              dsimp only at g1 g3
              subst g1
              cases hst
              exact zs_zast C ht g2 g3 gx hd K0
            · cases hst
          · cases hst
        · cases hst
      · cases hst
  case aastore =>
    obtain ⟨rfl, cq, q1, q2⟩ := hE
    have hz := zR_ok hst
    clear hst
    rcases hz with ⟨v, r, rfl, hst⟩ | ⟨v, r, rfl, hst⟩
    · have hz := zI_ok hst
      clear hst
      obtain ⟨i, r, rfl, hst⟩ := hz
      have hz := zR_ok hst
      clear hst
      rcases hz with ⟨q, r, rfl, hst⟩ | ⟨q, r, rfl, hst⟩
      · split at hst
        · next t u ht hu =>
          obtain ⟨t1, t2⟩ := t
          split at hst
          · next g =>
            obtain ⟨g1, g2, g3, g4⟩ := g
            dsimp only at g1 g4
            subst g1
            subst g2
            cases hst
            exact zs_aast C q1 q2 ht hu g3 g4 hd K0
          · cases hst
        · cases hst
      · cases hst
    · cases hst
  case arraylength =>
    subst hE
    have hz := zR_ok hst
    clear hst
    rcases hz with ⟨q, r, rfl, hst⟩ | ⟨q, r, rfl, hst⟩
    · split at hst
      · next t ht =>
        obtain ⟨t1, t2⟩ := t
        split at hst
        · next g =>
          cases hst
          dsimp only at g
          have h5 : t1 = 1 ∨ t1 = 2 ∨ t1 = 3 ∨ t1 = 4 ∨ t1 = 5 := by omega
          rcases h5 with rfl | rfl | rfl | rfl | rfl
          · exact zs_alen1 C ht hd K0
          · exact zs_alen2 C ht hd K0
          · exact zs_alen3 C ht hd K0
          · exact zs_alen4 C ht hd K0
          · exact zs_alen5 C ht hd K0
        · cases hst
      · cases hst
    · split at hst
      · next g =>
        cases hst
        rcases g with rfl | rfl
        · exact zs_slen C hd K0
        · exact zs_alen_t2 C hd K0
      · cases hst
  case newarray at1 =>
    subst hE
    have hz := zI_ok hst
    clear hst
    obtain ⟨x, r, rfl, hst⟩ := hz
    split at hst
    · next gx =>
      unfold znew at hst
      cases at1 <;> dsimp only at hst
      case boolean =>
        split at hst
        · next g =>
          simp only [Bool.and_eq_true, beq_iff_eq] at g
          obtain ⟨⟨⟨rfl, g2⟩, g3⟩, g4⟩ := g
          cases hst
          rw [List.length_append, List.length_singleton] at hR
          exact zs_newa (at' := .boolean) (ty := .boolean) C rfl (by simp) gx.1 gx.2 G.2.2.2.2.2.2.2.2 ⟨g2, g3, g4⟩ hR hR2 hd K0
        · cases hst
      case byte =>
        split at hst
        · next g =>
          simp only [Bool.and_eq_true, beq_iff_eq] at g
          obtain ⟨⟨⟨rfl, g2⟩, g3⟩, g4⟩ := g
          cases hst
          rw [List.length_append, List.length_singleton] at hR
          exact zs_newa (at' := .byte) (ty := .byte) C rfl (by simp) gx.1 gx.2 G.2.2.2.2.2.2.2.1 ⟨g2, g3, g4⟩ hR hR2 hd K0
        · cases hst
      case int =>
        split at hst
        · next g =>
          simp only [Bool.and_eq_true, beq_iff_eq] at g
          obtain ⟨⟨⟨rfl, g2⟩, g3⟩, g4⟩ := g
          cases hst
          rw [List.length_append, List.length_singleton] at hR
          exact zs_newa (at' := .int) (ty := .int) C rfl (by simp) gx.1 gx.2 G.2.2.2.2.2.1 ⟨g2, g3, g4⟩ hR hR2 hd K0
        · cases hst
      case long =>
        split at hst
        · next g =>
          simp only [Bool.and_eq_true, beq_iff_eq] at g
          obtain ⟨⟨⟨rfl, g2⟩, g3⟩, g4⟩ := g
          cases hst
          rw [List.length_append, List.length_singleton] at hR
          exact zs_newa (at' := .long) (ty := .long) C rfl (by simp) gx.1 gx.2 G.2.2.2.2.2.2.1 ⟨g2, g3, g4⟩ hR hR2 hd K0
        · cases hst
      all_goals (simp at hst)
    · cases hst
  case anewarray idx =>
    obtain ⟨rfl, e1⟩ := hE
    have hz := zI_ok hst
    clear hst
    obtain ⟨x, r, rfl, hst⟩ := hz
    split at hst
    · next gx =>
      unfold znew at hst
      split at hst
      · next g =>
        simp only [Bool.and_eq_true] at g
        obtain ⟨⟨g2, g3⟩, g4⟩ := g
        cases hst
        rw [List.length_append, List.length_singleton] at hR
        exact zs_anewa C gx.1 gx.2 e1 ⟨g2, g3, g4⟩ hR hR2 hd K0
      · cases hst
    · cases hst
  case new idx =>
    obtain ⟨rfl, cq, e1, e2, e3⟩ := hE
    unfold znew at hst
    split at hst
    · next g =>
      simp only [Bool.and_eq_true] at g
      obtain ⟨⟨g2, g3⟩, g4⟩ := g
      cases hst
      rw [List.length_append, List.length_singleton] at hR
      exact zs_new C O e1 e2 e3 ⟨g2, g3, g4⟩ hR hR2 hd K0
    · cases hst
  case invokespecial idx =>
    obtain ⟨rfl, e1⟩ := hE
    have hz := zR_ok hst
    clear hst
    rcases hz with ⟨q, r, rfl, hst⟩ | ⟨q, r, rfl, hst⟩
    · split at hst
      · next g => cases hst; exact zs_objInit C hml g.2 e1 G.1 G.2.1 hd K0
      · cases hst
    · cases hst
  case invokestatic idx =>
    obtain ⟨rfl, e1⟩ := hE
    have hz := zII_ok hst
    clear hst
    obtain ⟨dp, n, r, rfl, hst⟩ := hz
    have hz := zR_ok hst
    clear hst
    rcases hz with ⟨q, r, rfl, hst⟩ | ⟨q, r, rfl, hst⟩
    · have hz := zI_ok hst
      clear hst
      obtain ⟨sp, r, rfl, hst⟩ := hz
      have hz := zR_ok hst
      clear hst
      rcases hz with ⟨q1, r, rfl, hst⟩ | ⟨q1, r, rfl, hst⟩
      · split at hst
        · next t u ht hu =>
          obtain ⟨t1, t2⟩ := t
          obtain ⟨u1, u2⟩ := u
          split at hst
          · next g =>
            obtain ⟨-, g1, g2, g3, g4, g5, g6, g7, g8, g9, g10, g11⟩ := g
            dsimp only at g1 g2 g9 g10
            subst g1
            subst g2
            cases hst
            exact zs_copy C hml g11 e1 G.2.2.1 G.2.2.2.1 G.2.2.2.2.1 ht hu g3 g4 g5 g6 g7 g8 g9 g10 hd K0
          · cases hst
        · cases hst
      · cases hst
    · cases hst
  all_goals cases hst
