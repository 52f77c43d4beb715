/-! FACT, BOTH, TEST -/
def crFact (X : zX) (rf : zF) (op : Int) : zF → (Int → zF → Prop) → Prop := fun mem Q => ∀ D : Nat, 8 * (7 - op) + 9 ≤ (D : Int) → Ci X D 55 [(2, 3), (0, op)] rf mem Q
def crBoth (X : zX) (rf : zF) (op : Int) : zF → (Int → zF → Prop) → Prop := fun mem Q => ∀ D : Nat, 8 * (7 - op) + 10 ≤ (D : Int) → Ci X D 54 [(2, 3), (0, op)] rf mem Q
def crBothR (X : zX) (rf : zF) (p : Nat) (op s : Int) : zF → (Int → zF → Prop) → Prop := fun mem Q => ∀ (D : Nat) (x3 : Int), 8 * (7 - op) + 9 ≤ (D : Int) → 0 ≤ x3 → x3 ≤ s → L_parser_readBoth_8 X D rf Q mem p op 1 x3
def crTestR (X : zX) (rf : zF) (p : Nat) (op s : Int) : zF → (Int → zF → Prop) → Prop := fun mem Q => ∀ (D : Nat) (x3 : Int), 8 * (7 - op) + 10 ≤ (D : Int) → 0 ≤ x3 → x3 ≤ s → L_parser_readTest_8 X D rf Q mem p op 1 x3
def NFact (X : zX) (rf rg : zF) (p : Nat) (tb : Nat → Int) (n r op s : Int) : Prop := NT X rg p tb n r (crFact X rf op) (RS0y tb n r 3 5 2 op s cT) (fun s' => RSy tb n r 1 3 5 2 op s' (cT1 tb n s')) FRt (TyS r 2 op true) (fun s' => s < s') s
def NBoth (X : zX) (rf rg : zF) (p : Nat) (tb : Nat → Int) (n r op s : Int) : Prop := NT X rg p tb n r (crBoth X rf op) (RS0y tb n r 2 2 1 op s cT) (fun s' => RSy tb n r 1 2 2 1 op s' (cT1 tb n s')) FRt (TyS r 1 op true) (fun s' => s < s' ∧ tCod tb n s' ≠ 20022) s
def NBothR (X : zX) (rf rg : zF) (p : Nat) (tb : Nat → Int) (n r op s : Int) : Prop := NT X rg p tb n r (crBothR X rf p op s) (RSy tb n r 1 2 2 1 op s (cT1 tb n s)) (fun s' => RSy tb n r 1 2 2 1 op s' (cT1 tb n s')) FRt (TyR r 1 op true) (fun s' => tCod tb n s' ≠ 20022) s
def NTestR (X : zX) (rf rg : zF) (p : Nat) (tb : Nat → Int) (n r op s : Int) : Prop := tCod tb n s ≠ 20022 → NT X rg p tb n r (crTestR X rf p op s) (RSy tb n r 1 1 1 0 op s (cT1 tb n s)) (fun s' => RSy tb n r 1 1 1 0 op s' (cT1 tb n s')) FRt (TyR r 0 op true) (fun s' => tCod tb n s' ≠ 20022 ∧ tCod tb n s' ≠ 20021) s
theorem ztc_lg {r m : Int} (hm : m = 41 ∨ m = 42) (st : List Bool) : ztc r m 0 (true :: true :: st) = some (true :: st) := by
  unfold ztc
  rw [if_neg (by omega), if_neg (by omega), if_neg (by omega), if_neg (by omega), if_neg (by omega), if_neg (by omega), if_neg (by omega), if_pos hm]
theorem ztc_cp {r m : Int} (hm : 38 ≤ m ∧ m ≤ 40) (st : List Bool) : ztc r m 0 (false :: false :: st) = some (true :: st) := by
  unfold ztc
  rw [if_neg (by omega), if_neg (by omega), if_neg (by omega), if_neg (by omega), if_neg (by omega), if_neg (by omega), if_pos hm]
theorem ztc_nt {r : Int} (st : List Bool) : ztc r 43 0 (true :: st) = some (true :: st) := by
  unfold ztc
  rw [if_neg (by decide), if_neg (by decide), if_neg (by decide), if_pos rfl]
theorem ztc_al {r : Int} {st : List Bool} (h : st.length < 60) : ztc r 30 0 st = some (true :: st) := by
  unfold ztc
  rw [if_neg (by decide), if_neg (by decide), if_pos rfl, if_pos h]
section TESTS
variable {X : zX} {rf rg : zF} {p : Nat} {tb : Nat → Int} {n r : Int}
theorem n_Fact (hz : ZX rf p tb n) (hg : zall rg zRK = true) {op s : Int} (ho : 0 ≤ op ∧ op ≤ 7) (hs : 0 ≤ s ∧ s ≤ n) (h0 : NSum X rf rg p tb n r op s) (ihS : ∀ s1, s < s1 → s1 ≤ n → NSum X rf rg p tb n r op s1) (ihT : ∀ s1, s < s1 → s1 ≤ n → op < 7 → NTest X rf rg p tb n r (op + 1) s1) (ihF : ∀ s1, s < s1 → s1 ≤ n → op < 7 → NFact X rf rg p tb n r (op + 1) s1) : NFact X rf rg p tb n r op s := by
  have hb := hz.2.2.2.2.2.2
  have hn := hz.2.2.2.2.2.1
  have hrg := tCod_rng hb hs.1
  have rpre : ∀ (m0 : zF) (b : Int) (E : zC) (A B : List Int) (f : Nat) (fr mem : zF) (d : Nat) (Q : zF → Prop), RS0y tb n r 3 5 2 op s cT m0 mem b E A B f fr → 4 ≤ d → tCod tb n s ≠ -1 → (RE m0 mem tb n b r s E B f op fr 0 → L_m_operand_46 X d rg (fun r m => (r = 0 ∨ r = 1) ∧ ((1 ≤ m 261 8 ∧ m 261 8 ≤ 6 ∧ Q (zup m 261 49 r)) ∨ (m 261 8 = 0 ∧ L_m_reads_43 X (d + 1) rg Q (zup m 261 49 r) 1))) mem (f : Int) 1) → L_m_reads_43 X (d + 1) rg Q mem 1 := by
    intro m0 b E A B f fr mem d Q ⟨e, hE, ⟨b1, b2, b3, b4, b5, b6, b7, b8, b9⟩, hk, hc⟩ hd hcb kk
    subst e
    have e0 : op + nots [] = op := by show op + 0 = op; omega
    rw [e0] at hE
    exact rd_op hg hE.2.2.2.2.2.1.2.2 (o_fact hg hb hn hd hE hs (by omega) hc hcb (kk hE))
  by_cases hbr : tCod tb n s = 10091
  · -- a bracket
    have hsn : s < n := by omega
    have hcb : tCod tb n s ≠ -1 := by omega
    have hnx := tNxt_rng (tb := tb) hsn
    have cop : ∀ (m0 mem : zF) (L : zC) (Q : Int → zF → Prop) (d : Nat), CE m0 mem p tb n r s L → (L.length : Int) ≤ s → 2 ≤ d → (op = 7 → ∀ mem', CEF m0 mem' p 5 (tPlc tb n s) → Q 0 mem') → (op < 7 → ∀ mem', CE m0 mem' p tb n r (tNxt tb n s) L → Ci X d 53 [(2, 3), (0, (op + 1))] rf mem' (fun r mem => inI r ∧ ((r = 0 → Q 0 mem) ∧ (¬ r = 0 → Ci X d 36 [(2, 3), (0, 93)] rf mem (fun r mem => inI r ∧ ((r = 0 → Q 0 mem) ∧ (¬ r = 0 → Q 1 mem))))))) → Ci X (d + 1) 55 [(2, 3), (0, op)] rf mem Q := by
      intro m0 mem L Q d h hL hd k5 kk
      refine s_parser_readFact hz.1 hz.2.1 hz.2.2.1 (h.isSign hz (by decide) (fun e => ⟨by decide, fun q => absurd q (by decide), fun _ => ?_⟩) (fun e => absurd hbr e))
      exact h.opening hz (by omega) hd (by decide) ho (fun _ o6 m2 h2 => ⟨by decide, fun q => absurd q (by decide), fun _ => kk o6 m2 h2⟩) (fun _ o7 m2 h2 => ⟨by decide, fun _ => k5 o7 m2 h2, fun q => absurd rfl q⟩) (fun e => absurd hbr e)
    have rop : ∀ (m0 : zF) (b : Int) (E : zC) (A B : List Int) (f : Nat) (fr mem : zF) (d : Nat) (Q : zF → Prop), RS0y tb n r 3 5 2 op s cT m0 mem b E A B f fr → 5 ≤ d → (op = 7 → ∀ mem', REF m0 mem' b 5 (tPlc tb n s) → Q mem') → (op < 7 → ∀ mem' fr', RI tb n r 5 (op + 1) (tNxt tb n s) m0 mem' b E B f fr' → (∀ sl g, g ≤ f → fr' sl g = (zup fr 2 f 0) sl g) → L_m_reads_43 X d rg Q mem' 1) → L_m_reads_43 X d rg Q mem 1 := by
      intro m0 b E A B f fr mem d Q h hd k5 kk
      obtain ⟨d, rfl⟩ : ∃ e, d = e + 1 := ⟨d - 1, by omega⟩
      have h1 := h
      obtain ⟨e, hE, ⟨b1, b2, b3, b4, b5, b6, b7, b8, b9⟩, hk, hc⟩ := h1
      subst e
      simp only [List.length_nil] at b7
      refine rpre m0 b E [] B f fr mem d Q h (by omega) hcb (fun h' => ?_)
      have ef2 : ((f : Int)).toNat = f := by omega
      have hm := h'.frame (sl := 2) (v := 0) (by decide)
      refine s_m_operand_46 hg ⟨by decide, fun q => absurd q (by decide), fun _ => ?_⟩
      refine t_isWord 23 hg hb hs h'.1 hcb (by decide) rfl (fun e => absurd e (by omega)) (fun _ => ⟨by decide, fun _ => ?_, fun q => absurd rfl q⟩)
      refine s_m_operand_110 hg ⟨by omega, by decide, fun q => absurd q (by decide), fun _ => ?_⟩
      rw [ef2]
      refine t_isSign hg hb hs hm.1 hcb (by decide) (fun _ => ⟨by decide, fun q => absurd q (by decide), fun _ => ?_⟩) (fun e => absurd hbr e)
      refine hm.opens hg hb hn (by omega) hs (by omega) ho (fun o7 => ⟨Or.inl rfl, Or.inl ?_⟩) (fun o6 m3 fr3 h3 a1 a2 a3 a4 a5 => ⟨Or.inl rfl, Or.inr ⟨h3.1.2.2.2, kk o6 _ fr3 ⟨h3.qq, by omega, b3, a5, by omega, by omega, a2, a3, by rw [a4]; decide, fun _ => a4⟩ a1⟩⟩)
      rw [zflt_8]
      refine ⟨by decide, by decide, k5 o7 _ ?_⟩
      rw [tPlc_s hcb]
      exact (hm.flt hs hn.2).up49
    by_cases o7 : op = 7
    · refine Or.inl ⟨5, tPlc tb n s, by decide, tPlc_I hs hn.2, ?_, ?_⟩
      · intro m0 mem L Q h hL kk D hD
        obtain ⟨d, rfl⟩ : ∃ d, D = d + 1 := ⟨D - 1, by omega⟩
        exact cop m0 mem L Q d h hL (by omega) (fun _ => kk) (fun q => absurd q (by omega))
      · intro m0 b E A B f fr mem d Q h hd kk
        exact rop m0 b E A B f fr mem d Q h hd (fun _ => kk) (fun q => absurd q (by omega))
    rcases ihT (tNxt tb n s) (by omega) hnx.2 (by omega) with ⟨k, pc, hk, hpc, hcf, hrf⟩ | ⟨s2, C1, hs2, hC1, hco, hro, hty, hec⟩
    · refine Or.inl ⟨k, pc, hk, hpc, ?_, ?_⟩
      · intro m0 mem L Q h hL kk D hD
        obtain ⟨d, rfl⟩ : ∃ d, D = d + 1 := ⟨D - 1, by omega⟩
        exact cop m0 mem L Q d h hL (by omega) (fun q => absurd q o7) (fun _ m2 h2 => hcf m0 m2 L _ h2 (by omega) (fun m3 h3 => ⟨by decide, fun _ => kk m3 h3, fun q => absurd rfl q⟩) d (by omega))
      · intro m0 b E A B f fr mem d Q h hd kk
        exact rop m0 b E A B f fr mem d Q h hd (fun q => absurd q o7) (fun _ m2 fr2 h2 _ => hrf m0 b E [] B (f + 1) fr2 m2 d Q (h2.test (Or.inl rfl)) hd kk)
    have hs2' : 0 ≤ s2 ∧ s2 ≤ n := by omega
    have rmid : ∀ (m0 : zF) (b : Int) (E : zC) (A B : List Int) (f : Nat) (fr mem : zF) (d : Nat) (Q : zF → Prop), RS0y tb n r 3 5 2 op s cT m0 mem b E A B f fr → 5 ≤ d → (tCod tb n s2 ≠ 10093 → ∀ mem', REF m0 mem' b 1 (tPlc tb n s2) → Q mem') → (tCod tb n s2 = 10093 → ∀ mem' fr', RSy tb n r 1 3 5 2 op (tNxt tb n s2) (cT1 tb n (tNxt tb n s2)) m0 mem' b (E ++ C1) [] B f fr' → FRt fr fr' f → L_m_reads_43 X d rg Q mem' 1) → L_m_reads_43 X d rg Q mem 1 := by
      intro m0 b E A B f fr mem d Q h hd kf kk
      refine rop m0 b E A B f fr mem d Q h hd (fun q => absurd q o7) (fun o6 m2 fr2 h2 a2 => ?_)
      refine hro m0 b E [] B (f + 1) fr2 m2 d Q (h2.test (Or.inl rfl)) hd (fun m3 E' A' fr' h3 hfr he => ?_)
      obtain ⟨e, hE, ⟨b1, b2, b3, b4, b5, b6, b7, b8, b9⟩, hk, hc⟩ := h
      obtain ⟨hE2, ⟨c1, c2, c3, c4, c5, c6, c7, c8, c9⟩, hk2, hc1⟩ := h3
      obtain ⟨i1, i2, i3, i4, i5, i6, i7, i8, i9, i10⟩ := h2
      have k2 : fr' 0 (f + 1) = 5 := by rw [hfr.2.1]; exact i7
      have e2 : E' ++ zz A' = E ++ C1 := by
        rw [he]
        show E ++ [] ++ C1 = E ++ C1
        rw [List.append_nil]
      have lenE : (E'.length : Int) + A'.length = E.length + C1.length := by
        have := congrArg List.length e2
        simp only [List.length_append, zz_len] at this
        omega
      refine g_close (A := A') (B := B) hg hb hn hd hE2 hs2' (by omega) (Or.inr (Or.inr k2)) (fun _ => Or.inr ⟨hc1.1, hc1.2.1, hec.2.1, hec.2.2⟩) (fun a ha => ⟨(c8 a ha).1, by have := (c8 a ha).2; omega⟩) i3 (by rw [hfr.2.2.2]; exact i4) c7 (by omega) (fun e mem' => kf (fun c => e (by rw [if_pos k2]; exact c)) mem') (fun e mem' fr3 h3 a1 a4 a5 => ?_)
      rw [if_pos k2] at e a5
      rw [if_neg (by omega), List.append_nil, e2] at h3
      have eo : op + 1 + nots A' - nots A' - 1 = op + nots [] := by show _ = op + 0; omega
      rw [eo] at h3
      have hsn2 : s2 < n := by
        have := tCod_rng hb hs2'.1
        omega
      have hnx2 := tNxt_rng (tb := tb) hsn2
      have g : ∀ sl, sl ≠ 1 → sl ≠ 2 → fr3 sl f = fr sl f := fun sl x y => by rw [a4 sl x, hfr.1 sl f (by omega), a2 sl f (Nat.le_refl _), zup_row _ _ _ y]
      refine kk e mem' fr3 ⟨h3, ⟨b1, b2, b3, by rw [g 4 (by decide) (by decide)]; exact b4, by rw [g 4 (by decide) (by decide)]; exact b5, b6, ?_, ?_, ?_⟩, by rw [g 0 (by decide) (by decide)]; exact hk, by rw [g 0 (by decide) (by decide)]; exact hc.1, Or.inl a5, ?_⟩ ⟨fun sl g1 hg => ?_, g 0 (by decide) (by decide), g 3 (by decide) (by decide), g 4 (by decide) (by decide)⟩
      · rw [List.length_append]
        simp only [List.length_nil]
        omega
      · intro a ha
        cases ha
      · simp only [List.length_nil]; omega
      · rw [a4 2 (by decide), hfr.1 2 f (by omega), a2 2 f (Nat.le_refl _), zup_at]; decide
      · rw [a1 sl g1 hg, hfr.1 sl g1 (by omega), a2 sl g1 (by omega), zup_ne _ _ _ _ (by omega)]
    by_cases hcl : tCod tb n s2 = 10093
    · have hsn2 : s2 < n := by
        have := tCod_rng hb hs2'.1
        omega
      have hnx2 := tNxt_rng (tb := tb) hsn2
      refine Or.inr ⟨tNxt tb n s2, C1, ⟨by omega, hnx2.2⟩, by omega, ?_, ?_, ?_, by omega⟩
      · intro m0 mem L Q h hL kk D hD
        obtain ⟨d, rfl⟩ : ∃ d, D = d + 1 := ⟨D - 1, by omega⟩
        refine cop m0 mem L Q d h hL (by omega) (fun q => absurd q o7) (fun _ m2 h2 => hco m0 m2 L _ h2 (by omega) (fun m3 h3 => ⟨by decide, fun q => absurd q (by decide), fun _ => h3.sign hz ?_ (by omega) (by decide) (fun _ m4 h4 => ⟨by decide, fun q => absurd q (by decide), fun _ => kk m4 h4⟩) (fun e => absurd hcl e)⟩) d (by omega))
        rw [List.length_append]; omega
      · intro m0 b E A B f fr mem d Q h hd kk
        refine rmid m0 b E A B f fr mem d Q h hd (fun e => absurd hcl e) (fun _ m3 fr3 h3 hfr => kk m3 _ [] fr3 h3 hfr ?_)
        rw [h.1]
        show E ++ C1 ++ [] = E ++ [] ++ C1
        rw [List.append_nil, List.append_nil]
      · intro st hst
        exact hty st (by omega)
    · refine Or.inl ⟨1, tPlc tb n s2, by decide, tPlc_I hs2' hn.2, ?_, ?_⟩
      · intro m0 mem L Q h hL kk D hD
        obtain ⟨d, rfl⟩ : ∃ d, D = d + 1 := ⟨D - 1, by omega⟩
        refine cop m0 mem L Q d h hL (by omega) (fun q => absurd q o7) (fun _ m2 h2 => hco m0 m2 L _ h2 (by omega) (fun m3 h3 => ⟨by decide, fun q => absurd q (by decide), fun _ => h3.sign hz ?_ (by omega) (by decide) (fun e => absurd e hcl) (fun _ m4 h4 => ⟨by decide, fun _ => kk m4 h4, fun q => absurd rfl q⟩)⟩) d (by omega))
        rw [List.length_append]; omega
      · intro m0 b E A B f fr mem d Q h hd kk
        exact rmid m0 b E A B f fr mem d Q h hd (fun _ => kk) (fun e => absurd e hcl)
  by_cases hnt : tCod tb n s = 20023
  · -- not
    have hsn : s < n := by omega
    have hcb : tCod tb n s ≠ -1 := by omega
    have hnx := tNxt_rng (tb := tb) hsn
    have cop : ∀ (m0 mem : zF) (L : zC) (Q : Int → zF → Prop) (d : Nat), CE m0 mem p tb n r s L → (L.length : Int) ≤ s → (op = 7 → ∀ mem', CEF m0 mem' p 5 (tPlc tb n s) → Q 0 mem') → (op < 7 → ∀ mem', CE m0 mem' p tb n r (tNxt tb n s) L → Ci X d 55 [(2, 3), (0, (op + 1))] rf mem' (fun r3 mem4 => Cv X d 77 [(2, ((p + 9 : Nat) : Int)), (0, (-19))] rf mem4 (fun mem5 => (r3 = 0 ∨ r3 = 1) ∧ (r3 = 0 ∨ r3 = 1) ∧ Q r3 mem5))) → Ci X (d + 2) 55 [(2, 3), (0, op)] rf mem Q := by
      intro m0 mem L Q d h hL k5 kk
      refine s_parser_readFact hz.1 hz.2.1 hz.2.2.1 (h.isSign hz (by decide) (fun e => absurd e (by omega)) (fun e => ⟨by decide, fun _ => ?_, fun q => absurd rfl q⟩))
      rw [h.1.c]
      refine ⟨tCod_I hb hs.1, fun q => absurd hnt q, fun _ => ?_⟩
      refine s_parser_readNot hz.1 hz.2.1 hz.2.2.1 ⟨by omega, fun q => h.next hz hsn hcb (kk q), fun q => h.refuse hz (by omega) (fun m2 h2 => ⟨Or.inl rfl, Or.inl rfl, k5 (by omega) m2 h2⟩)⟩
    have rop : ∀ (m0 : zF) (b : Int) (E : zC) (A B : List Int) (f : Nat) (fr mem : zF) (d : Nat) (Q : zF → Prop), RS0y tb n r 3 5 2 op s cT m0 mem b E A B f fr → 5 ≤ d → (op = 7 → ∀ mem', REF m0 mem' b 5 (tPlc tb n s) → Q mem') → (op < 7 → ∀ mem', RS0y tb n r 3 5 2 (op + 1) (tNxt tb n s) cT m0 mem' b E [] (43 :: B) f fr → L_m_reads_43 X d rg Q mem' 1) → L_m_reads_43 X d rg Q mem 1 := by
      intro m0 b E A B f fr mem d Q h hd k5 kk
      obtain ⟨d, rfl⟩ : ∃ e, d = e + 1 := ⟨d - 1, by omega⟩
      have h1 := h
      obtain ⟨e, hE, ⟨b1, b2, b3, b4, b5, b6, b7, b8, b9⟩, hk, hc⟩ := h1
      subst e
      simp only [List.length_nil] at b7
      refine rpre m0 b E [] B f fr mem d Q h (by omega) hcb (fun h' => ?_)
      have e8 : mem 261 8 = 0 := h'.1.2.2.2
      have e46 : mem 261 46 = op := h'.2.2.2.2.2.1.2.1
      have h4 := h'.1.1.f hs
      refine s_m_operand_46 hg ⟨by decide, fun q => absurd q (by decide), fun _ => ?_⟩
      refine t_isWord 23 hg hb hs h'.1 hcb (by decide) rfl (fun _ => ⟨by decide, fun q => absurd q (by decide), fun _ => ?_⟩) (fun e => absurd hnt e)
      rw [e46]
      refine ⟨by omega, fun q => ?_, fun q => ?_⟩
      · refine s_m_operand_79 hg ?_
        rw [e8, e46]
        refine ⟨by decide, fun _ => h'.oo.hold hg (by omega) (fun m2 h2 => h2.ahd hg (by omega) hb hn hs (fun m3 h3 => ⟨Or.inl rfl, Or.inr ⟨h3.1.2.2.2, kk (by omega) _ ⟨rfl, ?_, ⟨by omega, by omega, ?_, ?_, ?_, ?_, ?_, ?_, ?_⟩, hk, hc⟩⟩⟩)), fun q => absurd (by decide) q⟩
        · have e0 : op + 1 + nots [] = op + 1 := by show op + 1 + 0 = op + 1; omega
          rw [e0]
          exact h3.qq
        · intro x hx
          rcases List.mem_cons.mp hx with e | e
          · omega
          · exact b3 x e
        · simp only [List.length_cons]; omega
        · right
          show rk 43 < 5
          decide
        · simp only [List.length_cons]; omega
        · simp only [List.length_cons, List.length_nil]; omega
        · intro a ha
          cases ha
        · simp only [List.length_nil]; omega
      · refine t_blame hg e8 ?_
        rw [h4.1]
        refine s_m_operand_79 hg ?_
        rw [zflt_8]
        refine ⟨by decide, fun q => absurd q (by decide), fun _ => ⟨Or.inr rfl, Or.inl ⟨by decide, by decide, k5 q _ ?_⟩⟩⟩
        rw [tPlc_s hcb]
        exact (h'.flt hs hn.2).up49
    by_cases o7 : op = 7
    · refine Or.inl ⟨5, tPlc tb n s, by decide, tPlc_I hs hn.2, ?_, ?_⟩
      · intro m0 mem L Q h hL kk D hD
        obtain ⟨d, rfl⟩ : ∃ d, D = d + 2 := ⟨D - 2, by omega⟩
        exact cop m0 mem L Q d h hL (fun _ => kk) (fun q => absurd q (by omega))
      · intro m0 b E A B f fr mem d Q h hd kk
        exact rop m0 b E A B f fr mem d Q h hd (fun _ => kk) (fun q => absurd q (by omega))
    rcases ihF (tNxt tb n s) (by omega) hnx.2 (by omega) with ⟨k, pc, hk, hpc, hcf, hrf⟩ | ⟨s2, C1, hs2, hC1, hco, hro, hty, hec⟩
    · refine Or.inl ⟨k, pc, hk, hpc, ?_, ?_⟩
      · intro m0 mem L Q h hL kk D hD
        obtain ⟨d, rfl⟩ : ∃ d, D = d + 2 := ⟨D - 2, by omega⟩
        exact cop m0 mem L Q d h hL (fun q => absurd q o7) (fun _ m2 h2 => hcf m0 m2 L _ h2 (by omega) (fun m3 h3 => h3.add hz (fun m4 h4 => ⟨Or.inl rfl, Or.inl rfl, kk m4 h4⟩)) d (by omega))
      · intro m0 b E A B f fr mem d Q h hd kk
        exact rop m0 b E A B f fr mem d Q h hd (fun q => absurd q o7) (fun _ m2 h2 => hrf m0 b E [] (43 :: B) f fr m2 d Q h2 hd kk)
    · refine Or.inr ⟨s2, C1 ++ [(43, 0)], ⟨by omega, hs2.2⟩, ?_, ?_, ?_, ?_, by omega⟩
      · rw [List.length_append]
        simp only [List.length_cons, List.length_nil]
        omega
      · intro m0 mem L Q h hL kk D hD
        obtain ⟨d, rfl⟩ : ∃ d, D = d + 2 := ⟨D - 2, by omega⟩
        refine cop m0 mem L Q d h hL (fun q => absurd q o7) (fun _ m2 h2 => hco m0 m2 L _ h2 (by omega) (fun m3 h3 => h3.add hz (43, 0) rfl ?_ (fun m4 h4 => ⟨Or.inr rfl, Or.inr rfl, kk m4 ?_⟩)) d (by omega))
        · rw [List.length_append]; omega
        · rw [List.append_assoc] at h4
          exact h4
      · intro m0 b E A B f fr mem d Q h hd kk
        refine rop m0 b E A B f fr mem d Q h hd (fun q => absurd q o7) (fun _ m2 h2 => hro m0 b E [] (43 :: B) f fr m2 d Q h2 hd (fun m3 E' A' fr' h3 hfr he => ?_))
        obtain ⟨e, hE, ⟨b1, b2, b3, b4, b5, b6, b7, b8, b9⟩, hk, hc⟩ := h
        obtain ⟨hE2, ⟨c1, c2, c3, c4, c5, c6, c7, c8, c9⟩, hk2, hc1⟩ := h3
        refine kk m3 E' (A' ++ [43]) fr' ⟨?_, ⟨b1, b2, b3, by rw [hfr.2.2.2]; exact b4, by rw [hfr.2.2.2]; exact b5, b6, ?_, ?_, ?_⟩, hk2, hc1⟩ hfr ?_
        · rw [List.append_assoc, nots_app]
          have e0 : op + (nots A' + nots [43]) = op + 1 + nots A' := by
            show op + (nots A' + (1 + 0)) = op + 1 + nots A'
            omega
          rw [e0]
          exact hE2
        · rw [List.length_append]
          simp only [List.length_cons, List.length_nil] at c7 ⊢
          omega
        · intro a ha
          rcases List.mem_append.mp ha with x | x
          · exact c8 a x
          · rcases List.mem_cons.mp x with y | y
            · rw [y]; exact ⟨by decide, by decide⟩
            · cases y
        · rw [List.length_append]
          simp only [List.length_cons, List.length_nil]
          omega
        · rw [zz_app, ← List.append_assoc, he, e]
          show E ++ [] ++ C1 ++ [(43, 0)] = E ++ [] ++ (C1 ++ [(43, 0)])
          rw [List.append_assoc]
      · intro st hst
        rw [tck_app [(43, 0)] C1 (hty st (by omega))]
        exact tck_one (ztc_nt st)
  by_cases hal : tCod tb n s = 20024
  · -- all
    have hsn : s < n := by omega
    have hcb : tCod tb n s ≠ -1 := by omega
    have hnx := tNxt_rng (tb := tb) hsn
    refine Or.inr ⟨tNxt tb n s, [(30, 0)], ⟨by omega, hnx.2⟩, ?_, ?_, ?_, ?_, by omega⟩
    · simp only [List.length_cons, List.length_nil]; omega
    · intro m0 mem L Q h hL kk D hD
      obtain ⟨d, rfl⟩ : ∃ d, D = d + 1 := ⟨D - 1, by omega⟩
      refine s_parser_readFact hz.1 hz.2.1 hz.2.2.1 (h.isSign hz (by decide) (fun e => absurd e (by omega)) (fun e => ⟨by decide, fun _ => ?_, fun q => absurd rfl q⟩))
      rw [h.1.c]
      exact ⟨tCod_I hb hs.1, fun _ => ⟨tCod_I hb hs.1, fun q => absurd hal q, fun _ => h.add hz (30, 0) rfl (by omega) (fun m2 h2 => h2.next hz hsn hcb kk)⟩, fun q => absurd q (by omega)⟩
    · intro m0 b E A B f fr mem d Q h hd kk
      obtain ⟨d, rfl⟩ : ∃ e, d = e + 1 := ⟨d - 1, by omega⟩
      have h1 := h
      obtain ⟨e, hE, ⟨b1, b2, b3, b4, b5, b6, b7, b8, b9⟩, hk, hc⟩ := h1
      subst e
      simp only [List.length_nil] at b7
      refine rpre m0 b E [] B f fr mem d Q h (by omega) hcb (fun h' => ?_)
      have ef2 : ((f : Int)).toNat = f := by omega
      have hm := h'.frame (sl := 2) (v := 0) (by decide)
      refine s_m_operand_46 hg ⟨by decide, fun q => absurd q (by decide), fun _ => ?_⟩
      refine t_isWord 23 hg hb hs h'.1 hcb (by decide) rfl (fun e => absurd e (by omega)) (fun _ => ⟨by decide, fun _ => ?_, fun q => absurd rfl q⟩)
      refine s_m_operand_110 hg ⟨by omega, by decide, fun q => absurd q (by decide), fun _ => ?_⟩
      rw [ef2]
      refine t_isSign hg hb hs hm.1 hcb (by decide) (fun e => absurd e (by omega)) (fun _ => ⟨by decide, fun _ => ?_, fun q => absurd rfl q⟩)
      refine s_m_operand_137 hg ⟨by decide, fun q => absurd q (by decide), fun _ => ?_⟩
      refine t_isWord 24 hg hb hs hm.1 hcb (by decide) rfl (fun _ => ⟨by decide, fun q => absurd q (by decide), fun _ => ?_⟩) (fun e => absurd hal e)
      refine hm.add hg (by omega) (fun m2 h2 => ⟨by omega, ?_⟩)
      rw [ef2]
      refine (h2.frame (sl := 1) (v := 2) (by decide)).ahd hg (by omega) hb hn hs (fun m3 h3 => ⟨Or.inr rfl, Or.inr ⟨h3.1.2.2.2, kk _ (E ++ [(30, 0)]) [] (zup (zup fr 2 f 0) 1 f 2) ⟨?_, ⟨b1, b2, b3, ?_, ?_, b6, ?_, ?_, ?_⟩, ?_, ?_, ?_, ?_⟩ ⟨fun sl g hg => ?_, ?_, ?_, ?_⟩ ?_⟩⟩)
      · have e0 : op + nots [] = op := by show op + 0 = op; omega
        rw [e0]
        exact h3.qq
      · rw [zup_row _ _ _ (by decide), zup_row _ _ _ (by decide)]; exact b4
      · rw [zup_row _ _ _ (by decide), zup_row _ _ _ (by decide)]; exact b5
      · rw [List.length_append]
        simp only [List.length_cons, List.length_nil]
        omega
      · intro a ha
        cases ha
      · simp only [List.length_nil]; omega
      · rw [zup_row _ _ _ (by decide), zup_row _ _ _ (by decide)]; exact hk
      · rw [zup_row _ _ _ (by decide), zup_row _ _ _ (by decide)]; exact hc.1
      · exact Or.inl (zup_at _ _ _ _)
      · rw [zup_row _ _ _ (by decide), zup_at]; decide
      · rw [zup_ne _ _ _ _ (by omega), zup_ne _ _ _ _ (by omega)]
      · rw [zup_row _ _ _ (by decide), zup_row _ _ _ (by decide)]
      · rw [zup_row _ _ _ (by decide), zup_row _ _ _ (by decide)]
      · rw [zup_row _ _ _ (by decide), zup_row _ _ _ (by decide)]
      · show E ++ [(30, 0)] ++ [] = E ++ [] ++ [(30, 0)]
        rw [List.append_nil, List.append_nil]
    · intro st hst
      exact tck_one (ztc_al (by omega))
  -- SUM SIGN SUM
  have cbeg : ∀ (m0 mem : zF) (L : zC) (Q : Int → zF → Prop) (d : Nat), CE m0 mem p tb n r s L → Ci X d 43 [(2, 3), (0, op)] rf mem (fun r6 mem7 => (inI r6) ∧ ((r6 = 0 → Q 0 mem7) ∧ (¬ r6 = 0 → Ci X d 57 [(2, 3), (0, op)] rf mem7 (fun r9 mem10 => (inI r9) ∧ ((r9 = 0 → Q 0 mem10) ∧ (¬ r9 = 0 → Q 1 mem10)))))) → Ci X (d + 1) 55 [(2, 3), (0, op)] rf mem Q := by
    intro m0 mem L Q d h kk
    refine s_parser_readFact hz.1 hz.2.1 hz.2.2.1 (h.isSign hz (by decide) (fun e => absurd e (by omega)) (fun e => ⟨by decide, fun _ => ?_, fun q => absurd rfl q⟩))
    rw [h.1.c]
    exact ⟨tCod_I hb hs.1, fun _ => ⟨tCod_I hb hs.1, fun _ => kk, fun q => absurd q hal⟩, fun q => absurd q hnt⟩
  have rbeg : ∀ (m0 : zF) (b : Int) (E : zC) (A B : List Int) (f : Nat) (fr mem : zF), RS0y tb n r 3 5 2 op s cT m0 mem b E A B f fr → RS0 tb n r 5 3 op s (cS tb n s) m0 mem b E A B f fr := by
    intro m0 b E A B f fr mem ⟨e, hE, ⟨b1, b2, b3, b4, b5, b6, b7, b8, b9⟩, hk, hc⟩
    refine ⟨e, hE, ⟨b1, b2, b3, b4, b5, by omega, b7, ?_, by rw [e]; simp only [List.length_nil]; omega⟩, hk, by have := hc.2.1; omega, by rw [hc.2.2]; decide, Or.inr (Or.inr ⟨hnt, hbr, hal⟩)⟩
    rw [e]
    intro a ha
    cases ha
  rcases h0 with ⟨k, pc, hk, hpc, hcf, hrf⟩ | ⟨s2, C1, hs2, hC1, hco, hro, hty, hec⟩
  · refine Or.inl ⟨k, pc, hk, hpc, ?_, ?_⟩
    · intro m0 mem L Q h hL kk D hD
      obtain ⟨d, rfl⟩ : ∃ d, D = d + 1 := ⟨D - 1, by omega⟩
      exact cbeg m0 mem L Q d h (hcf m0 mem L _ h hL (fun m2 h2 => ⟨by decide, fun _ => kk m2 h2, fun q => absurd rfl q⟩) d (by omega))
    · intro m0 b E A B f fr mem d Q h hd kk
      exact hrf m0 b E A B f fr mem d Q (rbeg m0 b E A B f fr mem h) hd kk
  have hs2' : 0 ≤ s2 ∧ s2 ≤ n := by omega
  have rmid : ∀ (m0 : zF) (b : Int) (E : zC) (A B : List Int) (f : Nat) (fr mem : zF) (d : Nat) (Q : zF → Prop), RS0y tb n r 3 5 2 op s cT m0 mem b E A B f fr → 5 ≤ d → (tCod tb n s2 ≠ 10060 → tCod tb n s2 ≠ 10062 → tCod tb n s2 ≠ 10061 → ∀ mem', REF m0 mem' b 1 (tPlc tb n s2) → Q mem') → (∀ m : Int, (tCod tb n s2 = 10060 ∧ m = 38) ∨ (tCod tb n s2 = 10062 ∧ m = 39) ∨ (tCod tb n s2 = 10061 ∧ m = 40) → ∀ mem' fr', RS0 tb n r 5 3 op (tNxt tb n s2) (cS tb n (tNxt tb n s2)) m0 mem' b (E ++ C1) [] (m :: B) f fr' → FRt fr fr' f → fr' 1 f = 1 → zts (fr' 0 f) → L_m_reads_43 X d rg Q mem' 1) → L_m_reads_43 X d rg Q mem 1 := by
    intro m0 b E A B f fr mem d Q h hd kf kk
    refine hro m0 b E A B f fr mem d Q (rbeg m0 b E A B f fr mem h) hd (fun m3 E' A' fr' h3 hfr he => ?_)
    obtain ⟨e, hE, ⟨b1, b2, b3, b4, b5, b6, b7, b8, b9⟩, hk, hc⟩ := h
    obtain ⟨hE2, ⟨c1, c2, c3, c4, c5, c6, c7, c8, c9⟩, hk2, hc1⟩ := h3
    subst e
    have e2 : E' ++ zz A' = E ++ C1 := by
      rw [he]
      show E ++ [] ++ C1 = E ++ C1
      rw [List.append_nil]
    have lenE : (E'.length : Int) + A'.length = E.length + C1.length := by
      have := congrArg List.length e2
      simp only [List.length_append, zz_len] at this
      omega
    have hz0 : zts (fr' 0 f) := by rw [hfr.2.1]; exact hc.1
    refine g_cmp (A := A') (B := B) hg hb hn hd hE2 hs2' (by omega) hz0 (by rw [hfr.2.2.1]; exact hc.2.1) hec.2 c8 b3 c4 c5 (by omega) (by omega) kf (fun m hm mem' h3 => ?_)
    have hsn2 : s2 < n := by
      have := tCod_rng hb hs2'.1
      omega
    have hnx2 := tNxt_rng (tb := tb) hsn2
    have eo : op + nots A' - nots A' = op + nots [] := by show _ = op + 0; omega
    rw [eo, e2] at h3
    refine kk m hm mem' _ ⟨rfl, h3, ⟨b1, b2, ?_, ?_, ?_, ?_, ?_, ?_, ?_⟩, ?_, ?_, ?_, ?_⟩ ⟨fun sl g hg => ?_, ?_, ?_, ?_⟩ (zup_at _ _ _ _) ?_
    · intro x hx
      rcases List.mem_cons.mp hx with y | y
      · omega
      · exact b3 x y
    · rw [zup_row _ _ _ (by decide)]
      simp only [List.length_cons]
      omega
    · right
      show rk m < 5
      have : m = 38 ∨ m = 39 ∨ m = 40 := by omega
      rcases this with x | x | x <;> rw [x] <;> decide
    · simp only [List.length_cons]; omega
    · rw [List.length_append]
      simp only [List.length_cons, List.length_nil] at b7 ⊢
      omega
    · intro a ha
      cases ha
    · simp only [List.length_nil]; omega
    · rw [zup_row _ _ _ (by decide)]; exact hk2
    · rw [zup_at]; decide
    · rw [zup_row _ _ _ (by decide), hc1.2]; decide
    · refine Or.inr (Or.inl ?_)
      rw [zup_row _ _ _ (by decide)]
      exact hc1.2
    · rw [zup_ne _ _ _ _ (by omega)]; exact hfr.1 sl g hg
    · rw [zup_row _ _ _ (by decide)]; exact hfr.2.1
    · rw [zup_row _ _ _ (by decide)]; exact hfr.2.2.2.1
    · rw [zup_row _ _ _ (by decide)]; exact hfr.2.2.2.2
    · rw [zup_row _ _ _ (by decide)]; exact hz0
  -- the program: what compares
  have ccmp : ∀ (m0 mem : zF) (L : zC) (Q : Int → zF → Prop) (d : Nat), CE m0 mem p tb n r s2 L → L.length ≤ 1600 → (tCod tb n s2 ≠ 10060 → tCod tb n s2 ≠ 10062 → tCod tb n s2 ≠ 10061 → ∀ mem', CEF m0 mem' p 1 (tPlc tb n s2) → ((0 : Int) = 0 ∨ (0 : Int) = 1) ∧ Q 0 mem') → (∀ m : Int, (tCod tb n s2 = 10060 ∧ m = 38) ∨ (tCod tb n s2 = 10062 ∧ m = 39) ∨ (tCod tb n s2 = 10061 ∧ m = 40) → ∀ mem', CE m0 mem' p tb n r (tNxt tb n s2) L → Ci X d 43 [(2, 3), (0, op)] rf mem' (fun r14 mem15 => Cv X d 77 [(2, ((p + 9 : Nat) : Int)), (0, 24 - m)] rf mem15 (fun mem16 => (r14 = 0 ∨ r14 = 1) ∧ Q r14 mem16))) → Ci X (d + 1) 57 [(2, 3), (0, op)] rf mem Q := by
    intro m0 mem L Q d h hL kf kk
    have S61 : ∀ m : Int, (tCod tb n s2 = 10060 ∧ m = 38) ∨ (tCod tb n s2 = 10062 ∧ m = 39) ∨ (tCod tb n s2 = 10061 ∧ m = 40) → L_parser_readCompared_61 X d rf Q mem p op (24 - m) := by
      intro m hm
      have hsn2 : s2 < n := by
        have := tCod_rng hb hs2'.1
        omega
      exact s_parser_readCompared_61 hz.1 hz.2.1 hz.2.2.1 (h.next hz hsn2 (by omega) (kk m hm))
    refine s_parser_readCompared hz.1 hz.2.1 hz.2.2.1 (h.isSign hz (by decide) (fun e => ⟨by decide, fun q => absurd q (by decide), fun _ => ?_⟩) (fun e1 => ⟨by decide, fun _ => ?_, fun q => absurd rfl q⟩))
    · exact s_parser_readCompared_36 hz.1 hz.2.1 hz.2.2.1 ⟨by decide, fun _ => S61 38 (by omega), fun q => absurd q (by decide)⟩
    refine h.isSign hz (by decide) (fun e => ⟨by decide, fun q => absurd q (by decide), fun _ => ?_⟩) (fun e2 => ⟨by decide, fun _ => ?_, fun q => absurd rfl q⟩)
    · exact s_parser_readCompared_36 hz.1 hz.2.1 hz.2.2.1 ⟨by decide, fun _ => S61 39 (by omega), fun q => absurd q (by decide)⟩
    refine s_parser_readCompared_36 hz.1 hz.2.1 hz.2.2.1 ⟨by decide, fun q => absurd rfl q, fun _ => h.isSign hz (by decide) (fun e => ⟨by decide, fun _ => S61 40 (by omega), fun q => absurd q (by decide)⟩) (fun e3 => ⟨by decide, fun q => absurd rfl q, fun _ => ?_⟩)⟩
    exact h.refuse hz hL (fun m2 h2 => kf (by omega) (by omega) (by omega) m2 h2)
  by_cases hcm : tCod tb n s2 = 10060 ∨ tCod tb n s2 = 10062 ∨ tCod tb n s2 = 10061
  · obtain ⟨m, hm⟩ : ∃ m : Int, (tCod tb n s2 = 10060 ∧ m = 38) ∨ (tCod tb n s2 = 10062 ∧ m = 39) ∨ (tCod tb n s2 = 10061 ∧ m = 40) := by
      rcases hcm with e | e | e
      · exact ⟨38, Or.inl ⟨e, rfl⟩⟩
      · exact ⟨39, Or.inr (Or.inl ⟨e, rfl⟩)⟩
      · exact ⟨40, Or.inr (Or.inr ⟨e, rfl⟩)⟩
    have hsn2 : s2 < n := by
      have := tCod_rng hb hs2'.1
      omega
    have hnx2 := tNxt_rng (tb := tb) hsn2
    have cmid : ∀ (m0 mem : zF) (L : zC) (Q : Int → zF → Prop) (D : Nat), CE m0 mem p tb n r s L → (L.length : Int) ≤ s → 8 * (7 - op) + 9 ≤ (D : Int) → (∀ (mem' : zF) (d : Nat), CE m0 mem' p tb n r (tNxt tb n s2) (L ++ C1) → 8 * (7 - op) + 7 ≤ (d : Int) → Ci X d 43 [(2, 3), (0, op)] rf mem' (fun r14 mem15 => Cv X d 77 [(2, ((p + 9 : Nat) : Int)), (0, 24 - m)] rf mem15 (fun mem16 => (r14 = 0 ∨ r14 = 1) ∧ (inI r14) ∧ ((r14 = 0 → Q 0 mem16) ∧ (¬ r14 = 0 → Q 1 mem16))))) → Ci X D 55 [(2, 3), (0, op)] rf mem Q := by
      intro m0 mem L Q D h hL hD kk
      obtain ⟨d, rfl⟩ : ∃ d, D = d + 2 := ⟨D - 2, by omega⟩
      refine cbeg m0 mem L Q (d + 1) h (hco m0 mem L _ h hL (fun m2 h2 => ⟨by decide, fun q => absurd q (by decide), fun _ => ccmp m0 m2 (L ++ C1) _ d h2 ?_ (fun q1 q2 q3 => absurd hcm (by omega)) (fun m1 hm1 m3 h3 => ?_)⟩) (d + 1) (by omega))
      · rw [List.length_append]; omega
      · have e : m1 = m := by omega
        rw [e]
        exact kk m3 d h3 (by omega)
    rcases ihS (tNxt tb n s2) (by omega) hnx2.2 with ⟨k, pc, hk, hpc, hcf, hrf⟩ | ⟨s4, C2, hs4, hC2, hco2, hro2, hty2, hec2⟩
    · refine Or.inl ⟨k, pc, hk, hpc, ?_, ?_⟩
      · intro m0 mem L Q h hL kk D hD
        refine cmid m0 mem L Q D h hL hD (fun m3 d h3 hd => hcf m0 m3 _ _ h3 ?_ (fun m4 h4 => h4.add hz (fun m5 h5 => ⟨Or.inl rfl, by decide, fun _ => kk m5 h5, fun q => absurd rfl q⟩)) d hd)
        rw [List.length_append]; omega
      · intro m0 b E A B f fr mem d Q h hd kk
        exact rmid m0 b E A B f fr mem d Q h hd (fun q1 q2 q3 => absurd hcm (by omega)) (fun m1 _ m3 fr3 h3 _ _ _ => hrf m0 b _ [] (m1 :: B) f fr3 m3 d Q h3 hd kk)
    · refine Or.inr ⟨s4, C1 ++ (C2 ++ [(m, 0)]), ⟨by omega, hs4.2⟩, ?_, ?_, ?_, ?_, by omega⟩
      · rw [List.length_append, List.length_append]
        simp only [List.length_cons, List.length_nil]
        omega
      · intro m0 mem L Q h hL kk D hD
        refine cmid m0 mem L Q D h hL hD (fun m3 d h3 hd => hco2 m0 m3 _ _ h3 ?_ (fun m4 h4 => h4.add hz (m, 0) (zcm_op (by omega)) ?_ (fun m5 h5 => ⟨Or.inr rfl, by decide, fun q => absurd q (by decide), fun _ => kk m5 ?_⟩)) d hd)
        · rw [List.length_append]; omega
        · rw [List.length_append, List.length_append]; omega
        · rw [List.append_assoc, List.append_assoc] at h5
          exact h5
      · intro m0 b E A B f fr mem d Q h hd kk
        refine rmid m0 b E A B f fr mem d Q h hd (fun q1 q2 q3 => absurd hcm (by omega)) (fun m1 hm1 m3 fr3 h3 hfr3 e1 ez => hro2 m0 b _ [] (m1 :: B) f fr3 m3 d Q h3 hd (fun m4 E' A' fr' h4 hfr he => ?_))
        have em : m1 = m := by omega
        subst em
        obtain ⟨e, hE, ⟨b1, b2, b3, b4, b5, b6, b7, b8, b9⟩, hk, hc⟩ := h
        obtain ⟨hE2, ⟨c1, c2, c3, c4, c5, c6, c7, c8, c9⟩, hk2, hc1⟩ := h4
        have f4 : fr' 4 f = fr 4 f := hfr.2.2.2.2.trans hfr3.2.2.2
        have hno : nots [m1] = 0 := by
          show (if m1 = 43 then 1 else 0) + 0 = (0 : Int)
          rw [if_neg (by omega)]
          rfl
        refine kk m4 E' (A' ++ [m1]) fr' ⟨?_, ⟨b1, b2, b3, by rw [f4]; exact b4, by rw [f4]; exact b5, b6, ?_, ?_, ?_⟩, hk2, by rw [hfr.2.1]; exact ez, Or.inr ⟨by rw [hfr.2.2.1]; exact e1, hec2.2⟩, by rw [hc1.2]; decide⟩ (hfr3.trans hfr.t) ?_
        · rw [List.append_assoc, nots_app, hno, Int.add_zero]
          exact hE2
        · rw [List.length_append]
          simp only [List.length_cons, List.length_nil] at c7 ⊢
          omega
        · intro a ha
          rcases List.mem_append.mp ha with x | x
          · have := c8 a x
            exact ⟨this.1, by omega⟩
          · rcases List.mem_cons.mp x with y | y
            · rw [y]
              refine ⟨by omega, ?_⟩
              have : m1 = 38 ∨ m1 = 39 ∨ m1 = 40 := by omega
              rcases this with z | z | z <;> rw [z] <;> decide
            · cases y
        · rw [List.length_append]
          simp only [List.length_cons, List.length_nil]
          omega
        · rw [zz_app, ← List.append_assoc, he, e]
          show E ++ C1 ++ [] ++ C2 ++ [(m1, 0)] = E ++ [] ++ (C1 ++ (C2 ++ [(m1, 0)]))
          simp only [List.append_nil, List.append_assoc]
      · intro st hst
        rw [tck_app _ C1 (hty st (by omega)), tck_app [(m, 0)] C2 (hty2 (false :: st) (by simp only [List.length_cons]; omega))]
        exact tck_one (ztc_cp (by omega) st)
  · refine Or.inl ⟨1, tPlc tb n s2, by decide, tPlc_I hs2' hn.2, ?_, ?_⟩
    · intro m0 mem L Q h hL kk D hD
      obtain ⟨d, rfl⟩ : ∃ d, D = d + 2 := ⟨D - 2, by omega⟩
      refine cbeg m0 mem L Q (d + 1) h (hco m0 mem L _ h hL (fun m2 h2 => ⟨by decide, fun q => absurd q (by decide), fun _ => ccmp m0 m2 (L ++ C1) _ d h2 ?_ (fun _ _ _ m3 h3 => ⟨Or.inl rfl, by decide, fun _ => kk m3 h3, fun q => absurd rfl q⟩) (fun m1 hm1 => absurd hcm (by omega))⟩) (d + 1) (by omega))
      rw [List.length_append]; omega
    · intro m0 b E A B f fr mem d Q h hd kk
      exact rmid m0 b E A B f fr mem d Q h hd (fun _ _ _ => kk) (fun m1 hm1 => absurd hcm (by omega))
end TESTS
