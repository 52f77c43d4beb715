/-! the reference: < > = and or, in a TEST -/
section GTEST
variable {X : zX} {rf m0 mem : zF} {tb : Nat → Int} {n b r s o : Int} {E : zC} {W A B : List Int} {f : Nat} {fr : zF}
/-- in a TEST the reference comes to the signs that compare, or behind them -/
theorem g_to188 {d : Nat} {Q : Int → zF → Prop} (hR : zall rf zRK = true) (hb : TBy tb n) (hn : 0 ≤ n ∧ n ≤ 1600) (hd : 4 ≤ d) (h : RE m0 mem tb n b r s E W f o fr 1) (hs : 0 ≤ s ∧ s ≤ n) (hf : f ≤ 15) (hz : zts (fr 0 f)) (hc : tCod tb n s ≠ -1) (hph : 0 ≤ fr 1 f ∧ fr 1 f ≤ 2) (hna : fr 1 f < 2 → nar tb n s) (kk : L_m_goesOn_188 X d rf Q mem (f : Int) (fr 0 f) 1) : Ci X (d + 1) 219 [(2, 261)] rf mem Q := by
  have hg := h.2.2.2.2.2.2 f (Nat.le_refl _)
  have ef : ((f : Int) + 1 - 1).toNat = f := by omega
  have ef1 : (f : Int) + 1 - 1 = (f : Int) := by omega
  refine s_m_goesOn hR (t_lex hR (by omega) hb hn.2 hs h.1 (fun _ => ?_) (fun q => absurd q hc))
  have e8 : mem 261 8 = 0 := h.1.2.2.2
  have e45 := h.2.2.2.2.2.1.1
  rw [e8, e45, ef, hg.1, ef1]
  refine ⟨by decide, fun _ => ⟨by omega, ?_⟩, fun q => absurd (by decide) q⟩
  refine t_isTest hR (by unfold zts at hz; omega) (fun _ => ?_) (fun q => absurd hz q)
  rw [hg.2.1]
  refine ⟨by omega, by omega, fun _ => kk, fun q => ?_⟩
  have hna := hna (by omega)
  unfold nar at hna
  refine t_isSign hR hb hs h.1 hc (by decide) (fun e => absurd e (by omega)) (fun e1 => ⟨by decide, fun q => absurd rfl q, fun _ => ?_⟩)
  refine t_isSign hR hb hs h.1 hc (by decide) (fun e => absurd e (by omega)) (fun e2 => ⟨by decide, fun q => absurd rfl q, fun _ => ?_⟩)
  refine t_isSign hR hb hs h.1 hc (by decide) (fun e => absurd e (by omega)) (fun e3 => ⟨by decide, fun q => absurd rfl q, fun _ => ?_⟩)
  refine t_isSign hR hb hs h.1 hc (by decide) (fun e => absurd e (by omega)) (fun e4 => ⟨by decide, fun q => absurd rfl q, fun _ => ?_⟩)
  exact t_isSign hR hb hs h.1 hc (by decide) (fun e => absurd e (by omega)) (fun e5 => ⟨by decide, fun _ => kk, fun q => absurd rfl q⟩)
/-- < > = must stand here -/
theorem g_cmp {d : Nat} {Q : zF → Prop} (hR : zall rf zRK = true) (hb : TBy tb n) (hn : 0 ≤ n ∧ n ≤ 1600) (hd : 5 ≤ d) (h : RE m0 mem tb n b r s E (A ++ B) f o fr 1) (hs : 0 ≤ s ∧ s ≤ n) (hf : f ≤ 15) (hz : zts (fr 0 f)) (hph : fr 1 f = 0) (hna : nar tb n s) (hA : ∀ a ∈ A, (31 ≤ a ∧ a ≤ 43) ∧ 5 ≤ rk a) (hB : ∀ x ∈ B, 31 ≤ x ∧ x ≤ 43) (hbs : 0 ≤ fr 4 f ∧ fr 4 f ≤ (B.length : Int)) (hor : (B.length : Int) = fr 4 f ∨ rk (B.headD 0) < 5) (hl : E.length + A.length + B.length ≤ 1600) (hl2 : A.length + B.length ≤ 400) (kf : tCod tb n s ≠ 10060 → tCod tb n s ≠ 10062 → tCod tb n s ≠ 10061 → ∀ mem', REF m0 mem' b 1 (tPlc tb n s) → Q mem') (kk : ∀ m : Int, (tCod tb n s = 10060 ∧ m = 38) ∨ (tCod tb n s = 10062 ∧ m = 39) ∨ (tCod tb n s = 10061 ∧ m = 40) → ∀ mem', RE m0 mem' tb n b r (tNxt tb n s) (E ++ zz A) (m :: B) f (o - nots A) (zup fr 1 f 1) 0 → L_m_reads_43 X d rf Q mem' 1) : L_m_reads_43 X d rf Q mem 1 := by
  by_cases hc : tCod tb n s = -1
  · exact g_bad hR hb hn hd h hs hc (kf (by omega) (by omega) (by omega))
  obtain ⟨d, rfl⟩ : ∃ e, d = e + 1 := ⟨d - 1, by omega⟩
  have hg := h.2.2.2.2.2.2 f (Nat.le_refl _)
  have e8 : mem 261 8 = 0 := h.1.2.2.2
  have h4 := h.1.1.f hs
  have ef2 : ((f : Int)).toNat = f := by omega
  have hkI : 0 ≤ fr 0 f ∧ fr 0 f ≤ 6 := by unfold zts at hz; omega
  refine rd_go hR h.2.2.2.2.2.1.2.2 (g_to188 hR hb hn (by omega) h hs hf hz hc (by omega) (fun _ => hna) ?_)
  have S228 : ∀ m : Int, (tCod tb n s = 10060 ∧ m = 38) ∨ (tCod tb n s = 10062 ∧ m = 39) ∨ (tCod tb n s = 10061 ∧ m = 40) → L_m_goesOn_228 X d rf (fun r m => (r = 0 ∧ Q m) ∨ (r = 1 ∧ m 261 8 = 0 ∧ L_m_reads_43 X (d + 1) rf Q m 1)) mem (f : Int) := by
    intro m hm
    refine s_m_goesOn_228 hR (RE.join hR (by omega) (by decide) hf A h hA hB hbs hor hl hl2 (fun m2 h2 => ?_))
    have S264 : L_m_goesOn_264 X d rf (fun r m => (r = 0 ∧ Q m) ∨ (r = 1 ∧ m 261 8 = 0 ∧ L_m_reads_43 X (d + 1) rf Q m 1)) m2 (f : Int) m := by
      refine s_m_goesOn_264 hR (h2.hold hR (by omega) (fun m3 h3 => ⟨by omega, ?_⟩))
      rw [ef2]
      refine (h3.frame (sl := 1) (v := 1) (by decide)).ahd hR (by omega) hb hn hs (fun m4 h4 => Or.inr ⟨rfl, ?_, kk m hm _ h4.qq⟩)
      rw [zup_ne _ _ _ _ (by decide)]
      exact h4.1.2.2.2
    refine t_isSign hR hb hs h2.1 hc (by decide) (fun e => ⟨by decide, fun q => absurd q (by decide), fun _ => ?_⟩) (fun e1 => ⟨by decide, fun _ => ?_, fun q => absurd rfl q⟩)
    · have : m = 38 := by omega
      rw [this] at S264; exact S264
    refine t_isSign hR hb hs h2.1 hc (by decide) (fun e => ⟨by decide, fun q => absurd q (by decide), fun _ => ?_⟩) (fun e2 => ⟨by decide, fun _ => ?_, fun q => absurd rfl q⟩)
    · have : m = 39 := by omega
      rw [this] at S264; exact S264
    · have : m = 40 := by omega
      rw [this] at S264; exact S264
  -- nothing that compares
  have S285 : tCod tb n s ≠ 10060 → tCod tb n s ≠ 10062 → tCod tb n s ≠ 10061 → L_m_goesOn_285 X d rf (fun r m => (r = 0 ∧ Q m) ∨ (r = 1 ∧ m 261 8 = 0 ∧ L_m_reads_43 X (d + 1) rf Q m 1)) mem (f : Int) (fr 0 f) 1 := by
    intro q1 q2 q3
    have kf := kf q1 q2 q3
    rw [tPlc_s hc] at kf
    have hF := h.flt hs hn.2 (k := 1) (pc := s)
    have z8 : zflt mem 1 s 261 8 = 1 := zflt_8
    have S309 : L_m_goesOn_309 X d rf (fun r m => (r = 0 ∧ Q m) ∨ (r = 1 ∧ m 261 8 = 0 ∧ L_m_reads_43 X (d + 1) rf Q m 1)) mem (f : Int) := by
      refine s_m_goesOn_309 hR ?_
      rw [ef2, hg.2.1, hph]
      refine ⟨by omega, by decide, fun q => absurd rfl q, fun _ => t_blame hR e8 ?_⟩
      rw [h4.1]
      refine s_m_goesOn_327 hR ?_
      rw [z8]
      exact ⟨by decide, fun q => absurd q (by decide), fun _ => Or.inl ⟨rfl, kf _ hF⟩⟩
    refine s_m_goesOn_285 hR ⟨by decide, fun q => absurd q (by decide), fun _ => ?_⟩
    refine t_isWord 22 hR hb hs h.1 hc (by decide) rfl (fun e => ⟨by decide, fun _ => S309, fun q => absurd q (by decide)⟩) (fun c1 => ⟨by decide, fun q => absurd rfl q, fun _ => ?_⟩)
    refine t_isWord 21 hR hb hs h.1 hc (by decide) rfl (fun e => ⟨by decide, fun q => absurd q (by decide), fun _ => S309⟩) (fun c2 => ⟨by decide, fun _ => ?_, fun q => absurd rfl q⟩)
    refine s_m_goesOn_400 hR ⟨by decide, fun q => absurd q (by decide), fun _ => ?_⟩
    rw [ef2, hg.2.1, hph]
    refine ⟨by omega, by decide, fun q => absurd rfl q, fun _ => t_blame hR e8 ?_⟩
    rw [h4.1]
    have hT : TKR (zflt mem 1 s) tb n s := by
      have e : ∀ j, j ≠ 8 → j ≠ 9 → zflt mem 1 s 261 j = mem 261 j := fun j a c => by unfold zflt; rw [zup_ne _ _ _ _ c, zup_ne _ _ _ _ a]
      have := h.1.1
      unfold TKR
      rw [e 3 (by decide) (by decide), e 4 (by decide) (by decide), e 5 (by decide) (by decide), e 6 (by decide) (by decide), e 7 (by decide) (by decide), e 12 (by decide) (by decide)]
      exact this
    have S470 : ∀ kd : Int, L_m_goesOn_470 X d rf (fun r m => (r = 0 ∧ Q m) ∨ (r = 1 ∧ m 261 8 = 0 ∧ L_m_reads_43 X (d + 1) rf Q m 1)) (zflt mem 1 s) (f : Int) kd := by
      intro kd
      refine s_m_goesOn_470 hR ?_
      rw [z8]
      exact ⟨by decide, fun q => absurd q (by decide), fun _ => Or.inl ⟨rfl, kf _ hF⟩⟩
    have S546 : ∀ kd : Int, L_m_goesOn_546 X d rf (fun r m => (r = 0 ∧ Q m) ∨ (r = 1 ∧ m 261 8 = 0 ∧ L_m_reads_43 X (d + 1) rf Q m 1)) (zflt mem 1 s) (f : Int) kd := by
      intro kd
      refine s_m_goesOn_546 hR ?_
      rw [z8]
      exact ⟨by decide, fun q => absurd q (by decide), fun _ => Or.inl ⟨rfl, kf _ hF⟩⟩
    have S452 : L_m_goesOn_452 X d rf (fun r m => (r = 0 ∧ Q m) ∨ (r = 1 ∧ m 261 8 = 0 ∧ L_m_reads_43 X (d + 1) rf Q m 1)) (zflt mem 1 s) (f : Int) (fr 0 f) := s_m_goesOn_452 hR (t_isSignT hR hb hs hT hc (by decide) (fun _ => ⟨by decide, fun _ => S470 _, fun q => absurd q (by decide)⟩) (fun _ => ⟨by decide, fun q => absurd rfl q, fun _ => t_blameF hR z8 (by decide) (S470 _)⟩))
    have S531 : ∀ c : Int, (0 ≤ c ∧ c ≤ 255) → L_m_goesOn_531 X d rf (fun r m => (r = 0 ∧ Q m) ∨ (r = 1 ∧ m 261 8 = 0 ∧ L_m_reads_43 X (d + 1) rf Q m 1)) (zflt mem 1 s) (f : Int) (fr 0 f) c := fun c hcc => s_m_goesOn_531 hR (t_isSignT hR hb hs hT hc hcc (fun _ => ⟨by decide, fun _ => S546 _, fun q => absurd q (by decide)⟩) (fun _ => ⟨by decide, fun q => absurd rfl q, fun _ => t_blameF hR z8 (by decide) (S546 _)⟩))
    refine s_m_goesOn_422 hR ?_
    rw [z8]
    exact ⟨by omega, fun _ => ⟨by omega, fun _ => S452, fun _ => ⟨by omega, fun _ => ⟨by omega, fun _ => S531 41 (by decide), fun _ => S531 93 (by decide)⟩, fun _ => S452⟩⟩, fun _ => ⟨by decide, fun _ => Or.inl ⟨rfl, kf _ hF⟩, fun q => absurd q (by decide)⟩⟩
  refine s_m_goesOn_188 hR ⟨by decide, fun q => absurd q (by decide), fun _ => ?_⟩
  rw [ef2, hg.2.1, hph]
  refine ⟨by omega, by decide, fun q => absurd rfl q, fun _ => ?_⟩
  refine t_isSign hR hb hs h.1 hc (by decide) (fun e => ⟨by decide, fun _ => S228 38 (by omega), fun q => absurd q (by decide)⟩) (fun e1 => ⟨by decide, fun q => absurd rfl q, fun _ => ?_⟩)
  refine t_isSign hR hb hs h.1 hc (by decide) (fun e => ⟨by decide, fun _ => S228 39 (by omega), fun q => absurd q (by decide)⟩) (fun e2 => ⟨by decide, fun q => absurd rfl q, fun _ => ?_⟩)
  exact t_isSign hR hb hs h.1 hc (by decide) (fun e => ⟨by decide, fun q => absurd q (by decide), fun _ => S228 40 (by omega)⟩) (fun e3 => ⟨by decide, fun _ => S285 (by omega) (by omega) (by omega), fun q => absurd rfl q⟩)
/-- and, or -/
theorem g_andor {d : Nat} {Q : zF → Prop} (hR : zall rf zRK = true) (hb : TBy tb n) (hn : 0 ≤ n ∧ n ≤ 1600) (hd : 5 ≤ d) (h : RE m0 mem tb n b r s E (A ++ B) f o fr 1) (hs : 0 ≤ s ∧ s ≤ n) (hf : f ≤ 15) (hz : zts (fr 0 f)) (hph : fr 1 f = 2 ∨ (fr 1 f = 1 ∧ nar tb n s)) {m lv : Int} (hm : (tCod tb n s = 20022 ∧ m = 41 ∧ lv = 2) ∨ (tCod tb n s = 20021 ∧ m = 42 ∧ lv = 1)) (hA : ∀ a ∈ A, (31 ≤ a ∧ a ≤ 43) ∧ lv ≤ rk a) (hB : ∀ x ∈ B, 31 ≤ x ∧ x ≤ 43) (hbs : 0 ≤ fr 4 f ∧ fr 4 f ≤ (B.length : Int)) (hor : (B.length : Int) = fr 4 f ∨ rk (B.headD 0) < lv) (hl : E.length + A.length + B.length ≤ 1600) (hl2 : A.length + B.length ≤ 400) (kk : ∀ mem', RE m0 mem' tb n b r (tNxt tb n s) (E ++ zz A) (m :: B) f (o - nots A) (zup (zup fr 1 f 0) 2 f 1) 0 → L_m_reads_43 X d rf Q mem' 1) : L_m_reads_43 X d rf Q mem 1 := by
  obtain ⟨d, rfl⟩ : ∃ e, d = e + 1 := ⟨d - 1, by omega⟩
  have hc : tCod tb n s ≠ -1 := by omega
  have hg := h.2.2.2.2.2.2 f (Nat.le_refl _)
  have e8 : mem 261 8 = 0 := h.1.2.2.2
  have ef2 : ((f : Int)).toNat = f := by omega
  have hp12 : fr 1 f = 2 ∨ fr 1 f = 1 := hph.imp id (fun x => x.1)
  refine rd_go hR h.2.2.2.2.2.1.2.2 (g_to188 hR hb hn (by omega) h hs hf hz hc (by omega) (fun q => ?_) ?_)
  · rcases hph with x | x
    · omega
    · exact x.2
  have S372 : ∀ m2 : zF, RE m0 m2 tb n b r s (E ++ zz A) B f (o - nots A) fr 1 → L_m_goesOn_372 X d rf (fun r m => (r = 0 ∧ Q m) ∨ (r = 1 ∧ m 261 8 = 0 ∧ L_m_reads_43 X (d + 1) rf Q m 1)) m2 (f : Int) m := by
    intro m2 h2
    refine s_m_goesOn_372 hR (h2.hold hR (by omega) (fun m3 h3 => ⟨by omega, by omega, ?_⟩))
    rw [ef2]
    refine ((h3.frame (sl := 1) (v := 0) (by decide)).frame (sl := 2) (v := 1) (by decide)).ahd hR (by omega) hb hn hs (fun m4 h4 => Or.inr ⟨rfl, ?_, kk _ h4.qq⟩)
    rw [zup_ne _ _ _ _ (by decide)]
    exact h4.1.2.2.2
  have S327 : L_m_goesOn_327 X d rf (fun r m => (r = 0 ∧ Q m) ∨ (r = 1 ∧ m 261 8 = 0 ∧ L_m_reads_43 X (d + 1) rf Q m 1)) mem (f : Int) := by
    refine s_m_goesOn_327 hR ?_
    rw [e8]
    refine ⟨by decide, fun _ => ?_, fun q => absurd (by decide) q⟩
    have S356 : ∀ a : Int, (a = 1 ∧ lv = 2 ∧ m = 41) ∨ (a = 0 ∧ lv = 1 ∧ m = 42) → L_m_goesOn_356 X d rf (fun r m => (r = 0 ∧ Q m) ∨ (r = 1 ∧ m 261 8 = 0 ∧ L_m_reads_43 X (d + 1) rf Q m 1)) mem (f : Int) a lv := by
      intro a ha
      refine s_m_goesOn_356 hR (RE.join hR (by omega) (by omega) hf A h hA hB hbs hor hl hl2 (fun m2 h2 => ⟨by omega, fun q => ?_, fun q => ?_⟩))
      · have := S372 m2 h2
        have e : m = 42 := by omega
        rw [e] at this; exact this
      · have := S372 m2 h2
        have e : m = 41 := by omega
        rw [e] at this; exact this
    refine t_isWord 22 hR hb hs h.1 hc (by decide) rfl (fun e => ⟨by decide, fun q => absurd q (by decide), fun _ => ?_⟩) (fun c1 => ⟨by decide, fun _ => ?_, fun q => absurd rfl q⟩)
    · have e2 : lv = 2 := by omega
      have := S356 1 (by omega)
      rw [e2] at this; exact this
    · have e2 : lv = 1 := by omega
      have := S356 0 (by omega)
      rw [e2] at this; exact this
  have S309 : L_m_goesOn_309 X d rf (fun r m => (r = 0 ∧ Q m) ∨ (r = 1 ∧ m 261 8 = 0 ∧ L_m_reads_43 X (d + 1) rf Q m 1)) mem (f : Int) := by
    refine s_m_goesOn_309 hR ?_
    rw [ef2, hg.2.1]
    exact ⟨by omega, by omega, fun _ => S327, fun q => absurd q (by omega)⟩
  refine s_m_goesOn_188 hR ⟨by decide, fun q => absurd q (by decide), fun _ => ?_⟩
  rw [ef2, hg.2.1]
  refine ⟨by omega, by omega, fun _ => ?_, fun q => absurd q (by omega)⟩
  refine s_m_goesOn_285 hR ⟨by decide, fun q => absurd q (by decide), fun _ => ?_⟩
  refine t_isWord 22 hR hb hs h.1 hc (by decide) rfl (fun e => ⟨by decide, fun _ => S309, fun q => absurd q (by decide)⟩) (fun c1 => ⟨by decide, fun q => absurd rfl q, fun _ => ?_⟩)
  exact t_isWord 21 hR hb hs h.1 hc (by decide) rfl (fun e => ⟨by decide, fun q => absurd q (by decide), fun _ => S309⟩) (fun c2 => absurd hm (by omega))
/-- the beginning of a FACT: not, [, all -/
theorem o_fact {d : Nat} {Q : Int → zF → Prop} (hR : zall rf zRK = true) (hb : TBy tb n) (hn : 0 ≤ n ∧ n ≤ 1600) (hd : 4 ≤ d) (h : RE m0 mem tb n b r s E W f o fr 0) (hs : 0 ≤ s ∧ s ≤ n) (hf : f ≤ 15) (hT : cT fr f) (hc : tCod tb n s ≠ -1) (kk : L_m_operand_46 X d rf Q mem (f : Int) 1) : Ci X (d + 1) 218 [(2, 261)] rf mem Q := by
  have hg := h.2.2.2.2.2.2 f (Nat.le_refl _)
  have ef : ((f : Int) + 1 - 1).toNat = f := by omega
  have ef1 : (f : Int) + 1 - 1 = (f : Int) := by omega
  refine s_m_operand hR (t_lex hR (by omega) hb hn.2 hs h.1 (fun _ => ?_) (fun q => absurd q hc))
  have e8 : mem 261 8 = 0 := h.1.2.2.2
  have e45 := h.2.2.2.2.2.1.1
  rw [e8, e45, ef, hg.1, ef1]
  refine ⟨by decide, fun _ => ⟨by omega, ?_⟩, fun q => absurd (by decide) q⟩
  refine t_isTest hR (by have := hT.1; unfold zts at this; omega) (fun _ => ⟨by decide, fun q => absurd q (by decide), fun _ => ⟨by omega, ?_⟩⟩) (fun q => absurd hT.1 q)
  rw [hg.2.2.1, hT.2.2]
  exact ⟨by decide, fun q => absurd q (by decide), fun _ => kk⟩
end GTEST
