/-! BOTH, TEST; all that is read -/
section TESTS2
variable {X : zX} {rf rg : zF} {p : Nat} {tb : Nat → Int} {n r : Int}
theorem n_BothR (hz : ZX rf p tb n) (hg : zall rg zRK = true) {op s : Int} (ho : 0 ≤ op ∧ op ≤ 7) (hs : 0 ≤ s ∧ s ≤ n) (ih : ∀ s1, s < s1 → s1 ≤ n → NFact X rf rg p tb n r op s1 ∧ NBothR X rf rg p tb n r op s1) : NBothR X rf rg p tb n r op s := by
  have hb := hz.2.2.2.2.2.2
  have hn := hz.2.2.2.2.2.1
  by_cases hm : tCod tb n s = 20022
  · have hsn : s < n := by
      have := tCod_rng hb hs.1
      omega
    have hnx := tNxt_rng (tb := tb) hsn
    have cpre : ∀ (m0 mem : zF) (L : zC) (Q : Int → zF → Prop) (D : Nat) (x3 : Int), CE m0 mem p tb n r s L → (L.length : Int) ≤ s → 0 ≤ x3 → x3 ≤ s → (∀ mem', CE m0 mem' p tb n r (tNxt tb n s) L → Ci X D 55 [(2, 3), (0, op)] rf mem' (fun r11 mem12 => Cv X D 77 [(2, ((p + 9 : Nat) : Int)), (0, (-17))] rf mem12 (fun mem13 => L_parser_readBoth_8 X D rf Q mem13 p op r11 (x3 + 1)))) → L_parser_readBoth_8 X D rf Q mem p op 1 x3 := by
      intro m0 mem L Q D x3 h hL h0 h3 kk
      refine s_parser_readBoth_8 hz.1 hz.2.1 hz.2.2.1 ⟨by decide, fun q => absurd q (by decide), fun _ => ⟨by omega, fun q => absurd q (by omega), fun _ => ?_⟩⟩
      rw [h.1.c]
      exact ⟨tCod_I hb hs.1, fun q => absurd hm q, fun _ => h.next hz hsn (by omega) kk⟩
    have rpre : ∀ (m0 : zF) (b : Int) (E : zC) (A B : List Int) (f : Nat) (fr mem : zF) (d : Nat) (Q : zF → Prop), RSy tb n r 1 2 2 1 op s (cT1 tb n s) m0 mem b E A B f fr → 5 ≤ d → (∀ mem', RS0y tb n r 3 5 2 op (tNxt tb n s) cT m0 mem' b (E ++ zz A) [] (41 :: B) f (zup (zup fr 1 f 0) 2 f 1) → L_m_reads_43 X d rg Q mem' 1) → L_m_reads_43 X d rg Q mem 1 := by
      intro m0 b E A B f fr mem d Q ⟨hE, ⟨b1, b2, b3, b4, b5, b6, b7, b8, b9⟩, hk, hc⟩ hd kk
      have z4 : ∀ sl, sl ≠ 1 → sl ≠ 2 → (zup (zup fr 1 f 0) 2 f 1) sl = fr sl := fun sl x y => by rw [zup_row _ _ _ y, zup_row _ _ _ x]
      refine g_andor (A := A) (B := B) (m := 41) (lv := 2) hg hb hn hd hE hs (by omega) hc.1 hc.2.1 (by omega) b8 b3 b4 b5 (by omega) (by omega) (fun mem' h' => kk mem' ⟨rfl, ?_, ⟨b1, b2, ?_, ?_, ?_, ?_, ?_, ?_, by simp only [List.length_nil]; omega⟩, ?_, ?_, ?_, zup_at _ _ _ _⟩)
      · have e : op + nots A - nots A = op + nots [] := by show _ = op + 0; omega
        rw [e] at h'
        exact h'
      · intro x hx
        rcases List.mem_cons.mp hx with e | e
        · omega
        · exact b3 x e
      · rw [z4 4 (by decide) (by decide)]
        simp only [List.length_cons]; omega
      · right
        show rk 41 < 5
        decide
      · simp only [List.length_cons]; omega
      · rw [List.length_append, zz_len]
        simp only [List.length_cons, List.length_nil]
        omega
      · intro a ha
        cases ha
      · rw [z4 0 (by decide) (by decide)]; exact hk
      · rw [z4 0 (by decide) (by decide)]; exact hc.1
      · rw [zup_row _ _ _ (by decide), zup_at]
    rcases (ih (tNxt tb n s) (by omega) hnx.2).1 with ⟨k, pc, hk, hpc, hcf, hrf⟩ | ⟨s2, C1, hs2, hC1, hco, hro, hty, hec⟩
    · refine Or.inl ⟨k, pc, hk, hpc, ?_, ?_⟩
      · intro m0 mem L Q h hL kk D x3 hD h0 h3
        exact cpre m0 mem L Q D x3 h hL h0 h3 (fun mem' h' => hcf m0 mem' L _ h' (by omega) (fun m2 hF => hF.add hz (fun m3 hF3 => s_parser_readBoth_8 hz.1 hz.2.1 hz.2.2.1 ⟨by decide, fun _ => ⟨Or.inl rfl, kk m3 hF3⟩, fun q => absurd rfl q⟩)) D hD)
      · intro m0 b E A B f fr mem d Q h hd kk
        exact rpre m0 b E A B f fr mem d Q h hd (fun mem' h' => hrf m0 b _ [] (41 :: B) f _ mem' d Q h' hd kk)
    · have cmid : ∀ (m0 mem : zF) (L : zC) (Q : Int → zF → Prop) (D : Nat) (x3 : Int), CE m0 mem p tb n r s L → (L.length : Int) ≤ s → 8 * (7 - op) + 9 ≤ (D : Int) → 0 ≤ x3 → x3 ≤ s → (∀ mem', CE m0 mem' p tb n r s2 (L ++ C1 ++ [(41, 0)]) → L_parser_readBoth_8 X D rf Q mem' p op 1 (x3 + 1)) → L_parser_readBoth_8 X D rf Q mem p op 1 x3 := by
        intro m0 mem L Q D x3 h hL hD h0 h3 kk
        refine cpre m0 mem L Q D x3 h hL h0 h3 (fun mem' h' => hco m0 mem' L _ h' (by omega) (fun m2 hF => hF.add hz (41, 0) rfl ?_ kk) D hD)
        rw [List.length_append]
        omega
      have rmid : ∀ (m0 : zF) (b : Int) (E : zC) (A B : List Int) (f : Nat) (fr mem : zF) (d : Nat) (Q : zF → Prop), RSy tb n r 1 2 2 1 op s (cT1 tb n s) m0 mem b E A B f fr → 5 ≤ d → (∀ (mem' : zF) (E' : zC) (A' : List Int) (fr' : zF), RSy tb n r 1 2 2 1 op s2 (cT1 tb n s2) m0 mem' b E' (A' ++ [41]) B f fr' → FRt fr fr' f → E' ++ zz A' = E ++ zz A ++ C1 → L_m_reads_43 X d rg Q mem' 1) → L_m_reads_43 X d rg Q mem 1 := by
        intro m0 b E A B f fr mem d Q h hd kk
        have h0 := h
        obtain ⟨hE, ⟨b1, b2, b3, b4, b5, b6, b7, b8, b9⟩, hkk, hc⟩ := h0
        refine rpre m0 b E A B f fr mem d Q h hd (fun mem' h' => hro m0 b _ [] (41 :: B) f _ mem' d Q h' hd (fun m2 E' A' fr' h2' hfr he => ?_))
        obtain ⟨hE2, ⟨c1, c2, c3, c4, c5, c6, c7, c8, c9⟩, hk2, hc2⟩ := h2'
        have hfr2 : FRt fr fr' f := by
          refine ⟨fun sl g hg => ?_, ?_, ?_, ?_⟩
          · rw [hfr.1 sl g hg, zup_ne _ _ _ _ (by omega), zup_ne _ _ _ _ (by omega)]
          · rw [hfr.2.1, zup_row _ _ _ (by decide), zup_row _ _ _ (by decide)]
          · rw [hfr.2.2.1, zup_row _ _ _ (by decide), zup_row _ _ _ (by decide)]
          · rw [hfr.2.2.2, zup_row _ _ _ (by decide), zup_row _ _ _ (by decide)]
        have hno : nots [41] = 0 := rfl
        refine kk m2 E' A' fr' ⟨?_, ⟨c1, c2, b3, ?_, ?_, b6, ?_, ?_, ?_⟩, hk2, hc2⟩ hfr2 ?_
        · rw [List.append_assoc, nots_app, hno, Int.add_zero]
          exact hE2
        · rw [hfr2.2.2.2]; exact b4
        · rw [hfr2.2.2.2]; exact b5
        · rw [List.length_append]
          simp only [List.length_cons, List.length_nil] at c7 ⊢
          omega
        · intro a ha
          rcases List.mem_append.mp ha with x | x
          · have := c8 a x
            exact ⟨this.1, by omega⟩
          · rcases List.mem_cons.mp x with y | y
            · rw [y]; exact ⟨by decide, by decide⟩
            · cases y
        · rw [List.length_append]
          simp only [List.length_cons, List.length_nil]
          omega
        · rw [he]
          show E ++ zz A ++ [] ++ C1 = E ++ zz A ++ C1
          rw [List.append_nil]
      rcases (ih s2 (by omega) hs2.2).2 with ⟨k, pc, hk, hpc, hcf, hrf⟩ | ⟨s3, C2, hs3, hC2, hco2, hro2, hty2, hec2⟩
      · refine Or.inl ⟨k, pc, hk, hpc, ?_, ?_⟩
        · intro m0 mem L Q h hL kk D x3 hD h0 h3
          refine cmid m0 mem L Q D x3 h hL hD h0 h3 (fun mem' h' => hcf m0 mem' _ Q h' ?_ kk D (x3 + 1) hD (by omega) (by omega))
          rw [List.length_append, List.length_append]
          simp only [List.length_cons, List.length_nil]
          omega
        · intro m0 b E A B f fr mem d Q h hd kk
          exact rmid m0 b E A B f fr mem d Q h hd (fun mem' E' A' fr' h' hfr he => hrf m0 b E' (A' ++ [41]) B f fr' mem' d Q h' hd kk)
      · refine Or.inr ⟨s3, C1 ++ (41, 0) :: C2, ⟨by omega, hs3.2⟩, ?_, ?_, ?_, ?_, hec2⟩
        · rw [List.length_append]
          simp only [List.length_cons]
          omega
        · intro m0 mem L Q h hL kk D x3 hD h0 h3
          refine cmid m0 mem L Q D x3 h hL hD h0 h3 (fun mem' h' => hco2 m0 mem' _ Q h' ?_ (fun m3 h3' => kk m3 ?_) D (x3 + 1) hD (by omega) (by omega))
          · rw [List.length_append, List.length_append]
            simp only [List.length_cons, List.length_nil]
            omega
          · have e : L ++ C1 ++ [(41, 0)] ++ C2 = L ++ (C1 ++ (41, 0) :: C2) := by simp
            rw [e] at h3'
            exact h3'
        · intro m0 b E A B f fr mem d Q h hd kk
          refine rmid m0 b E A B f fr mem d Q h hd (fun mem' E' A' fr' h' hfr he => hro2 m0 b E' (A' ++ [41]) B f fr' mem' d Q h' hd (fun m3 E3 A3 fr3 h3 hfr3 he3 => kk m3 E3 A3 fr3 h3 (hfr.trans hfr3) ?_))
          rw [he3, zz_app, ← List.append_assoc E', he]
          show E ++ zz A ++ C1 ++ [(41, 0)] ++ C2 = _
          simp
        · intro st hst
          have t1 := hty (true :: st) (by simp only [List.length_cons]; omega)
          have t2 := tck_app ((41, 0) :: C2) C1 t1
          have t3 := tck_app C2 [(41, 0)] (tck_one (ztc_lg (r := r) (m := 41) (by decide) st))
          have t3 : tck r ((41, 0) :: C2) (true :: true :: st) = tck r C2 (true :: st) := t3
          rw [t2, t3]
          exact hty2 st hst
  · refine Or.inr ⟨s, [], ⟨by omega, hs.2⟩, by show (0 : Int) ≤ _; omega, ?_, ?_, fun st _ => rfl, hm⟩
    · intro m0 mem L Q h hL kk D x3 hD h0 h3
      have kq := kk mem (by rw [List.append_nil]; exact h)
      refine s_parser_readBoth_8 hz.1 hz.2.1 hz.2.2.1 ⟨by decide, fun q => absurd q (by decide), fun _ => ⟨by omega, fun _ => ⟨Or.inr rfl, kq⟩, fun _ => ?_⟩⟩
      rw [h.1.c]
      exact ⟨tCod_I hb hs.1, fun _ => ⟨Or.inr rfl, kq⟩, fun q => absurd q hm⟩
    · intro m0 b E A B f fr mem d Q h hd kk
      exact kk mem E A fr h FRt.rfl (by rw [List.append_nil])
theorem n_Both (hz : ZX rf p tb n) (hg : zall rg zRK = true) {op s : Int} (ho : 0 ≤ op ∧ op ≤ 7) (hs : 0 ≤ s ∧ s ≤ n) (h0 : NFact X rf rg p tb n r op s) (ih : ∀ s1, s < s1 → s1 ≤ n → NBothR X rf rg p tb n r op s1) : NBoth X rf rg p tb n r op s := by
  have hb := hz.2.2.2.2.2.2
  have hn := hz.2.2.2.2.2.1
  have rpre : ∀ (m0 : zF) (b : Int) (E : zC) (A B : List Int) (f : Nat) (fr mem : zF), RS0y tb n r 2 2 1 op s cT m0 mem b E A B f fr → RS0y tb n r 3 5 2 op s cT m0 mem b E A B f fr := by
    intro m0 b E A B f fr mem ⟨e, hE, ⟨b1, b2, b3, b4, b5, b6, b7, b8, b9⟩, hk, hc⟩
    refine ⟨e, hE, ⟨b1, b2, b3, b4, ?_, by omega, b7, ?_, by rw [e]; simp only [List.length_nil]; omega⟩, hk, hc⟩
    · rcases b5 with x | x
      · exact Or.inl x
      · exact Or.inr (by omega)
    · rw [e]
      intro a ha
      cases ha
  rcases h0 with ⟨k, pc, hk, hpc, hcf, hrf⟩ | ⟨s2, C1, hs2, hC1, hco, hro, hty, hec⟩
  · refine Or.inl ⟨k, pc, hk, hpc, ?_, ?_⟩
    · intro m0 mem L Q h hL kk D hD
      obtain ⟨d, rfl⟩ : ∃ d, D = d + 1 := ⟨D - 1, by omega⟩
      refine s_parser_readBoth hz.1 hz.2.1 hz.2.2.1 (hcf m0 mem L _ h hL (fun m2 hF => ?_) d (by omega))
      exact s_parser_readBoth_8 hz.1 hz.2.1 hz.2.2.1 ⟨by decide, fun _ => ⟨Or.inl rfl, kk m2 hF⟩, fun q => absurd rfl q⟩
    · intro m0 b E A B f fr mem d Q h hd kk
      exact hrf m0 b E A B f fr mem d Q (rpre m0 b E A B f fr mem h) hd kk
  · have cmid : ∀ (m0 mem : zF) (L : zC) (Q : Int → zF → Prop) (D : Nat), CE m0 mem p tb n r s L → (L.length : Int) ≤ s → 8 * (7 - op) + 10 ≤ (D : Int) → (∀ (mem' : zF) (d : Nat), 8 * (7 - op) + 9 ≤ (d : Int) → CE m0 mem' p tb n r s2 (L ++ C1) → L_parser_readBoth_8 X d rf Q mem' p op 1 0) → Ci X D 54 [(2, 3), (0, op)] rf mem Q := by
      intro m0 mem L Q D h hL hD kk
      obtain ⟨d, rfl⟩ : ∃ d, D = d + 1 := ⟨D - 1, by omega⟩
      exact s_parser_readBoth hz.1 hz.2.1 hz.2.2.1 (hco m0 mem L _ h hL (fun m2 hF => kk m2 d (by omega) hF) d (by omega))
    have rmid : ∀ (m0 : zF) (b : Int) (E : zC) (A B : List Int) (f : Nat) (fr mem : zF) (d : Nat) (Q : zF → Prop), RS0y tb n r 2 2 1 op s cT m0 mem b E A B f fr → 5 ≤ d → (∀ (mem' : zF) (E' : zC) (A' : List Int) (fr' : zF), RSy tb n r 1 2 2 1 op s2 (cT1 tb n s2) m0 mem' b E' A' B f fr' → FRt fr fr' f → E' ++ zz A' = E ++ zz A ++ C1 → L_m_reads_43 X d rg Q mem' 1) → L_m_reads_43 X d rg Q mem 1 := by
      intro m0 b E A B f fr mem d Q h hd kk
      have h1 := h
      obtain ⟨e, hE, ⟨b1, b2, b3, b4, b5, b6, b7, b8, b9⟩, hkk, hc⟩ := h1
      refine hro m0 b E A B f fr mem d Q (rpre m0 b E A B f fr mem h) hd (fun m2 E' A' fr' h2' hfr he => kk m2 E' A' fr' ?_ hfr he)
      obtain ⟨hE2, ⟨c1, c2, c3, c4, c5, c6, c7, c8, c9⟩, hk2, hc2⟩ := h2'
      refine ⟨hE2, ⟨c1, c2, c3, c4, ?_, b6, c7, ?_, by omega⟩, hk2, hc2⟩
      · rw [hfr.2.2.2]; exact b5
      · intro a ha
        have := c8 a ha
        exact ⟨this.1, by omega⟩
    rcases ih s2 (by omega) hs2.2 with ⟨k, pc, hk, hpc, hcf, hrf⟩ | ⟨s3, C2, hs3, hC2, hco2, hro2, hty2, hec2⟩
    · refine Or.inl ⟨k, pc, hk, hpc, ?_, ?_⟩
      · intro m0 mem L Q h hL kk D hD
        refine cmid m0 mem L Q D h hL hD (fun mem' d hd h' => hcf m0 mem' _ Q h' ?_ kk d 0 hd (by omega) (by omega))
        rw [List.length_append]
        omega
      · intro m0 b E A B f fr mem d Q h hd kk
        exact rmid m0 b E A B f fr mem d Q h hd (fun mem' E' A' fr' h' hfr he => hrf m0 b E' A' B f fr' mem' d Q h' hd kk)
    · refine Or.inr ⟨s3, C1 ++ C2, ⟨by omega, hs3.2⟩, ?_, ?_, ?_, ?_, ⟨by omega, hec2⟩⟩
      · rw [List.length_append]
        omega
      · intro m0 mem L Q h hL kk D hD
        refine cmid m0 mem L Q D h hL hD (fun mem' d hd h' => hco2 m0 mem' _ Q h' ?_ (fun m3 h3' => kk m3 ?_) d 0 hd (by omega) (by omega))
        · rw [List.length_append]
          omega
        · rw [List.append_assoc] at h3'
          exact h3'
      · intro m0 b E A B f fr mem d Q h hd kk
        refine rmid m0 b E A B f fr mem d Q h hd (fun mem' E' A' fr' h' hfr he => hro2 m0 b E' A' B f fr' mem' d Q h' hd (fun m3 E3 A3 fr3 h3 hfr3 he3 => kk m3 E3 A3 fr3 h3 (hfr.trans hfr3) ?_))
        rw [he3, he]
        simp only [List.append_assoc]
      · intro st hst
        have t1 := hty st (by omega)
        rw [tck_app C2 C1 t1]
        exact hty2 st hst
theorem n_TestR (hz : ZX rf p tb n) (hg : zall rg zRK = true) {op s : Int} (ho : 0 ≤ op ∧ op ≤ 7) (hs : 0 ≤ s ∧ s ≤ n) (ih : ∀ s1, s < s1 → s1 ≤ n → NBoth X rf rg p tb n r op s1 ∧ NTestR X rf rg p tb n r op s1) : NTestR X rf rg p tb n r op s := by
  have hb := hz.2.2.2.2.2.2
  have hn := hz.2.2.2.2.2.1
  intro h00
  by_cases hm : tCod tb n s = 20021
  · have hsn : s < n := by
      have := tCod_rng hb hs.1
      omega
    have hnx := tNxt_rng (tb := tb) hsn
    have cpre : ∀ (m0 mem : zF) (L : zC) (Q : Int → zF → Prop) (D : Nat) (x3 : Int), CE m0 mem p tb n r s L → (L.length : Int) ≤ s → 0 ≤ x3 → x3 ≤ s → (∀ mem', CE m0 mem' p tb n r (tNxt tb n s) L → Ci X D 54 [(2, 3), (0, op)] rf mem' (fun r11 mem12 => Cv X D 77 [(2, ((p + 9 : Nat) : Int)), (0, (-18))] rf mem12 (fun mem13 => L_parser_readTest_8 X D rf Q mem13 p op r11 (x3 + 1)))) → L_parser_readTest_8 X D rf Q mem p op 1 x3 := by
      intro m0 mem L Q D x3 h hL h0 h3 kk
      refine s_parser_readTest_8 hz.1 hz.2.1 hz.2.2.1 ⟨by decide, fun q => absurd q (by decide), fun _ => ⟨by omega, fun q => absurd q (by omega), fun _ => ?_⟩⟩
      rw [h.1.c]
      exact ⟨tCod_I hb hs.1, fun q => absurd hm q, fun _ => h.next hz hsn (by omega) kk⟩
    have rpre : ∀ (m0 : zF) (b : Int) (E : zC) (A B : List Int) (f : Nat) (fr mem : zF) (d : Nat) (Q : zF → Prop), RSy tb n r 1 1 1 0 op s (cT1 tb n s) m0 mem b E A B f fr → 5 ≤ d → (∀ mem', RS0y tb n r 2 2 1 op (tNxt tb n s) cT m0 mem' b (E ++ zz A) [] (42 :: B) f (zup (zup fr 1 f 0) 2 f 1) → L_m_reads_43 X d rg Q mem' 1) → L_m_reads_43 X d rg Q mem 1 := by
      intro m0 b E A B f fr mem d Q ⟨hE, ⟨b1, b2, b3, b4, b5, b6, b7, b8, b9⟩, hk, hc⟩ hd kk
      have z4 : ∀ sl, sl ≠ 1 → sl ≠ 2 → (zup (zup fr 1 f 0) 2 f 1) sl = fr sl := fun sl x y => by rw [zup_row _ _ _ y, zup_row _ _ _ x]
      refine g_andor (A := A) (B := B) (m := 42) (lv := 1) hg hb hn hd hE hs (by omega) hc.1 hc.2.1 (by omega) b8 b3 b4 b5 (by omega) (by omega) (fun mem' h' => kk mem' ⟨rfl, ?_, ⟨b1, b2, ?_, ?_, ?_, ?_, ?_, ?_, by simp only [List.length_nil]; omega⟩, ?_, ?_, ?_, zup_at _ _ _ _⟩)
      · have e : op + nots A - nots A = op + nots [] := by show _ = op + 0; omega
        rw [e] at h'
        exact h'
      · intro x hx
        rcases List.mem_cons.mp hx with e | e
        · omega
        · exact b3 x e
      · rw [z4 4 (by decide) (by decide)]
        simp only [List.length_cons]; omega
      · right
        show rk 42 < 2
        decide
      · simp only [List.length_cons]; omega
      · rw [List.length_append, zz_len]
        simp only [List.length_cons, List.length_nil]
        omega
      · intro a ha
        cases ha
      · rw [z4 0 (by decide) (by decide)]; exact hk
      · rw [z4 0 (by decide) (by decide)]; exact hc.1
      · rw [zup_row _ _ _ (by decide), zup_at]
    rcases (ih (tNxt tb n s) (by omega) hnx.2).1 with ⟨k, pc, hk, hpc, hcf, hrf⟩ | ⟨s2, C1, hs2, hC1, hco, hro, hty, hec⟩
    · refine Or.inl ⟨k, pc, hk, hpc, ?_, ?_⟩
      · intro m0 mem L Q h hL kk D x3 hD h0 h3
        exact cpre m0 mem L Q D x3 h hL h0 h3 (fun mem' h' => hcf m0 mem' L _ h' (by omega) (fun m2 hF => hF.add hz (fun m3 hF3 => s_parser_readTest_8 hz.1 hz.2.1 hz.2.2.1 ⟨by decide, fun _ => ⟨Or.inl rfl, kk m3 hF3⟩, fun q => absurd rfl q⟩)) D hD)
      · intro m0 b E A B f fr mem d Q h hd kk
        exact rpre m0 b E A B f fr mem d Q h hd (fun mem' h' => hrf m0 b _ [] (42 :: B) f _ mem' d Q h' hd kk)
    · have cmid : ∀ (m0 mem : zF) (L : zC) (Q : Int → zF → Prop) (D : Nat) (x3 : Int), CE m0 mem p tb n r s L → (L.length : Int) ≤ s → 8 * (7 - op) + 10 ≤ (D : Int) → 0 ≤ x3 → x3 ≤ s → (∀ mem', CE m0 mem' p tb n r s2 (L ++ C1 ++ [(42, 0)]) → L_parser_readTest_8 X D rf Q mem' p op 1 (x3 + 1)) → L_parser_readTest_8 X D rf Q mem p op 1 x3 := by
        intro m0 mem L Q D x3 h hL hD h0 h3 kk
        refine cpre m0 mem L Q D x3 h hL h0 h3 (fun mem' h' => hco m0 mem' L _ h' (by omega) (fun m2 hF => hF.add hz (42, 0) rfl ?_ kk) D hD)
        rw [List.length_append]
        omega
      have rmid : ∀ (m0 : zF) (b : Int) (E : zC) (A B : List Int) (f : Nat) (fr mem : zF) (d : Nat) (Q : zF → Prop), RSy tb n r 1 1 1 0 op s (cT1 tb n s) m0 mem b E A B f fr → 5 ≤ d → (∀ (mem' : zF) (E' : zC) (A' : List Int) (fr' : zF), RSy tb n r 1 1 1 0 op s2 (cT1 tb n s2) m0 mem' b E' (A' ++ [42]) B f fr' → FRt fr fr' f → E' ++ zz A' = E ++ zz A ++ C1 → L_m_reads_43 X d rg Q mem' 1) → L_m_reads_43 X d rg Q mem 1 := by
        intro m0 b E A B f fr mem d Q h hd kk
        have h0 := h
        obtain ⟨hE, ⟨b1, b2, b3, b4, b5, b6, b7, b8, b9⟩, hkk, hc⟩ := h0
        refine rpre m0 b E A B f fr mem d Q h hd (fun mem' h' => hro m0 b _ [] (42 :: B) f _ mem' d Q h' hd (fun m2 E' A' fr' h2' hfr he => ?_))
        obtain ⟨hE2, ⟨c1, c2, c3, c4, c5, c6, c7, c8, c9⟩, hk2, hc2⟩ := h2'
        have hfr2 : FRt fr fr' f := by
          refine ⟨fun sl g hg => ?_, ?_, ?_, ?_⟩
          · rw [hfr.1 sl g hg, zup_ne _ _ _ _ (by omega), zup_ne _ _ _ _ (by omega)]
          · rw [hfr.2.1, zup_row _ _ _ (by decide), zup_row _ _ _ (by decide)]
          · rw [hfr.2.2.1, zup_row _ _ _ (by decide), zup_row _ _ _ (by decide)]
          · rw [hfr.2.2.2, zup_row _ _ _ (by decide), zup_row _ _ _ (by decide)]
        have hno : nots [42] = 0 := rfl
        refine kk m2 E' A' fr' ⟨?_, ⟨c1, c2, b3, ?_, ?_, b6, ?_, ?_, ?_⟩, hk2, hc2⟩ hfr2 ?_
        · rw [List.append_assoc, nots_app, hno, Int.add_zero]
          exact hE2
        · rw [hfr2.2.2.2]; exact b4
        · rw [hfr2.2.2.2]; exact b5
        · rw [List.length_append]
          simp only [List.length_cons, List.length_nil] at c7 ⊢
          omega
        · intro a ha
          rcases List.mem_append.mp ha with x | x
          · have := c8 a x
            exact ⟨this.1, by omega⟩
          · rcases List.mem_cons.mp x with y | y
            · rw [y]; exact ⟨by decide, by decide⟩
            · cases y
        · rw [List.length_append]
          simp only [List.length_cons, List.length_nil]
          omega
        · rw [he]
          show E ++ zz A ++ [] ++ C1 = E ++ zz A ++ C1
          rw [List.append_nil]
      rcases (ih s2 (by omega) hs2.2).2 hec.2 with ⟨k, pc, hk, hpc, hcf, hrf⟩ | ⟨s3, C2, hs3, hC2, hco2, hro2, hty2, hec2⟩
      · refine Or.inl ⟨k, pc, hk, hpc, ?_, ?_⟩
        · intro m0 mem L Q h hL kk D x3 hD h0 h3
          refine cmid m0 mem L Q D x3 h hL hD h0 h3 (fun mem' h' => hcf m0 mem' _ Q h' ?_ kk D (x3 + 1) hD (by omega) (by omega))
          rw [List.length_append, List.length_append]
          simp only [List.length_cons, List.length_nil]
          omega
        · intro m0 b E A B f fr mem d Q h hd kk
          exact rmid m0 b E A B f fr mem d Q h hd (fun mem' E' A' fr' h' hfr he => hrf m0 b E' (A' ++ [42]) B f fr' mem' d Q h' hd kk)
      · refine Or.inr ⟨s3, C1 ++ (42, 0) :: C2, ⟨by omega, hs3.2⟩, ?_, ?_, ?_, ?_, hec2⟩
        · rw [List.length_append]
          simp only [List.length_cons]
          omega
        · intro m0 mem L Q h hL kk D x3 hD h0 h3
          refine cmid m0 mem L Q D x3 h hL hD h0 h3 (fun mem' h' => hco2 m0 mem' _ Q h' ?_ (fun m3 h3' => kk m3 ?_) D (x3 + 1) hD (by omega) (by omega))
          · rw [List.length_append, List.length_append]
            simp only [List.length_cons, List.length_nil]
            omega
          · have e : L ++ C1 ++ [(42, 0)] ++ C2 = L ++ (C1 ++ (42, 0) :: C2) := by simp
            rw [e] at h3'
            exact h3'
        · intro m0 b E A B f fr mem d Q h hd kk
          refine rmid m0 b E A B f fr mem d Q h hd (fun mem' E' A' fr' h' hfr he => hro2 m0 b E' (A' ++ [42]) B f fr' mem' d Q h' hd (fun m3 E3 A3 fr3 h3 hfr3 he3 => kk m3 E3 A3 fr3 h3 (hfr.trans hfr3) ?_))
          rw [he3, zz_app, ← List.append_assoc E', he]
          show E ++ zz A ++ C1 ++ [(42, 0)] ++ C2 = _
          simp
        · intro st hst
          have t1 := hty (true :: st) (by simp only [List.length_cons]; omega)
          have t2 := tck_app ((42, 0) :: C2) C1 t1
          have t3 := tck_app C2 [(42, 0)] (tck_one (ztc_lg (r := r) (m := 42) (by decide) st))
          have t3 : tck r ((42, 0) :: C2) (true :: true :: st) = tck r C2 (true :: st) := t3
          rw [t2, t3]
          exact hty2 st hst
  · refine Or.inr ⟨s, [], ⟨by omega, hs.2⟩, by show (0 : Int) ≤ _; omega, ?_, ?_, fun st _ => rfl, ⟨h00, hm⟩⟩
    · intro m0 mem L Q h hL kk D x3 hD h0 h3
      have kq := kk mem (by rw [List.append_nil]; exact h)
      refine s_parser_readTest_8 hz.1 hz.2.1 hz.2.2.1 ⟨by decide, fun q => absurd q (by decide), fun _ => ⟨by omega, fun _ => ⟨Or.inr rfl, kq⟩, fun _ => ?_⟩⟩
      rw [h.1.c]
      exact ⟨tCod_I hb hs.1, fun _ => ⟨Or.inr rfl, kq⟩, fun q => absurd q hm⟩
    · intro m0 b E A B f fr mem d Q h hd kk
      exact kk mem E A fr h FRt.rfl (by rw [List.append_nil])
theorem n_Test (hz : ZX rf p tb n) (hg : zall rg zRK = true) {op s : Int} (ho : 0 ≤ op ∧ op ≤ 7) (hs : 0 ≤ s ∧ s ≤ n) (h0 : NBoth X rf rg p tb n r op s) (ih : ∀ s1, s < s1 → s1 ≤ n → NTestR X rf rg p tb n r op s1) : NTest X rf rg p tb n r op s := by
  have hb := hz.2.2.2.2.2.2
  have hn := hz.2.2.2.2.2.1
  have rpre : ∀ (m0 : zF) (b : Int) (E : zC) (A B : List Int) (f : Nat) (fr mem : zF), RS0y tb n r 1 1 0 op s cT m0 mem b E A B f fr → RS0y tb n r 2 2 1 op s cT m0 mem b E A B f fr := by
    intro m0 b E A B f fr mem ⟨e, hE, ⟨b1, b2, b3, b4, b5, b6, b7, b8, b9⟩, hk, hc⟩
    refine ⟨e, hE, ⟨b1, b2, b3, b4, ?_, by omega, b7, ?_, by rw [e]; simp only [List.length_nil]; omega⟩, hk, hc⟩
    · rcases b5 with x | x
      · exact Or.inl x
      · exact Or.inr (by omega)
    · rw [e]
      intro a ha
      cases ha
  rcases h0 with ⟨k, pc, hk, hpc, hcf, hrf⟩ | ⟨s2, C1, hs2, hC1, hco, hro, hty, hec⟩
  · refine Or.inl ⟨k, pc, hk, hpc, ?_, ?_⟩
    · intro m0 mem L Q h hL kk D hD
      obtain ⟨d, rfl⟩ : ∃ d, D = d + 1 := ⟨D - 1, by omega⟩
      refine s_parser_readTest hz.1 hz.2.1 hz.2.2.1 (hcf m0 mem L _ h hL (fun m2 hF => ?_) d (by omega))
      exact s_parser_readTest_8 hz.1 hz.2.1 hz.2.2.1 ⟨by decide, fun _ => ⟨Or.inl rfl, kk m2 hF⟩, fun q => absurd rfl q⟩
    · intro m0 b E A B f fr mem d Q h hd kk
      exact hrf m0 b E A B f fr mem d Q (rpre m0 b E A B f fr mem h) hd kk
  · have cmid : ∀ (m0 mem : zF) (L : zC) (Q : Int → zF → Prop) (D : Nat), CE m0 mem p tb n r s L → (L.length : Int) ≤ s → 8 * (7 - op) + 11 ≤ (D : Int) → (∀ (mem' : zF) (d : Nat), 8 * (7 - op) + 10 ≤ (d : Int) → CE m0 mem' p tb n r s2 (L ++ C1) → L_parser_readTest_8 X d rf Q mem' p op 1 0) → Ci X D 53 [(2, 3), (0, op)] rf mem Q := by
      intro m0 mem L Q D h hL hD kk
      obtain ⟨d, rfl⟩ : ∃ d, D = d + 1 := ⟨D - 1, by omega⟩
      exact s_parser_readTest hz.1 hz.2.1 hz.2.2.1 (hco m0 mem L _ h hL (fun m2 hF => kk m2 d (by omega) hF) d (by omega))
    have rmid : ∀ (m0 : zF) (b : Int) (E : zC) (A B : List Int) (f : Nat) (fr mem : zF) (d : Nat) (Q : zF → Prop), RS0y tb n r 1 1 0 op s cT m0 mem b E A B f fr → 5 ≤ d → (∀ (mem' : zF) (E' : zC) (A' : List Int) (fr' : zF), RSy tb n r 1 1 1 0 op s2 (cT1 tb n s2) m0 mem' b E' A' B f fr' → FRt fr fr' f → E' ++ zz A' = E ++ zz A ++ C1 → L_m_reads_43 X d rg Q mem' 1) → L_m_reads_43 X d rg Q mem 1 := by
      intro m0 b E A B f fr mem d Q h hd kk
      have h1 := h
      obtain ⟨e, hE, ⟨b1, b2, b3, b4, b5, b6, b7, b8, b9⟩, hkk, hc⟩ := h1
      refine hro m0 b E A B f fr mem d Q (rpre m0 b E A B f fr mem h) hd (fun m2 E' A' fr' h2' hfr he => kk m2 E' A' fr' ?_ hfr he)
      obtain ⟨hE2, ⟨c1, c2, c3, c4, c5, c6, c7, c8, c9⟩, hk2, hc2⟩ := h2'
      refine ⟨hE2, ⟨c1, c2, c3, c4, ?_, b6, c7, ?_, by omega⟩, hk2, hc2⟩
      · rw [hfr.2.2.2]; exact b5
      · intro a ha
        have := c8 a ha
        exact ⟨this.1, by omega⟩
    rcases ih s2 (by omega) hs2.2 hec.2 with ⟨k, pc, hk, hpc, hcf, hrf⟩ | ⟨s3, C2, hs3, hC2, hco2, hro2, hty2, hec2⟩
    · refine Or.inl ⟨k, pc, hk, hpc, ?_, ?_⟩
      · intro m0 mem L Q h hL kk D hD
        refine cmid m0 mem L Q D h hL hD (fun mem' d hd h' => hcf m0 mem' _ Q h' ?_ kk d 0 hd (by omega) (by omega))
        rw [List.length_append]
        omega
      · intro m0 b E A B f fr mem d Q h hd kk
        exact rmid m0 b E A B f fr mem d Q h hd (fun mem' E' A' fr' h' hfr he => hrf m0 b E' A' B f fr' mem' d Q h' hd kk)
    · refine Or.inr ⟨s3, C1 ++ C2, ⟨by omega, hs3.2⟩, ?_, ?_, ?_, ?_, ⟨by omega, hec2⟩⟩
      · rw [List.length_append]
        omega
      · intro m0 mem L Q h hL kk D hD
        refine cmid m0 mem L Q D h hL hD (fun mem' d hd h' => hco2 m0 mem' _ Q h' ?_ (fun m3 h3' => kk m3 ?_) d 0 hd (by omega) (by omega))
        · rw [List.length_append]
          omega
        · rw [List.append_assoc] at h3'
          exact h3'
      · intro m0 b E A B f fr mem d Q h hd kk
        refine rmid m0 b E A B f fr mem d Q h hd (fun mem' E' A' fr' h' hfr he => hro2 m0 b E' A' B f fr' mem' d Q h' hd (fun m3 E3 A3 fr3 h3 hfr3 he3 => kk m3 E3 A3 fr3 h3 (hfr.trans hfr3) ?_))
        rw [he3, he]
        simp only [List.append_assoc]
      · intro st hst
        have t1 := hty st (by omega)
        rw [tck_app C2 C1 t1]
        exact hty2 st hst
/-- all that can be read at a place -/
def NAll (X : zX) (rf rg : zF) (p : Nat) (tb : Nat → Int) (n r op s : Int) : Prop := NPart X rf rg p tb n r op s ∧ NProd X rf rg p tb n r op s ∧ NProdR X rf rg p tb n r op s ∧ NSum X rf rg p tb n r op s ∧ NSumR X rf rg p tb n r op s ∧ NFact X rf rg p tb n r op s ∧ NBoth X rf rg p tb n r op s ∧ NBothR X rf rg p tb n r op s ∧ NTest X rf rg p tb n r op s ∧ NTestR X rf rg p tb n r op s
theorem n_all (hz : ZX rf p tb n) (hg : zall rg zRK = true) (hr : 0 ≤ r ∧ r ≤ 2) : ∀ (m : Nat) (s : Int), 0 ≤ s → s ≤ n → n - s ≤ m → ∀ op : Int, 0 ≤ op → op ≤ 7 → NAll X rf rg p tb n r op s := by
  have step : ∀ s : Int, 0 ≤ s → s ≤ n → (∀ s1, s < s1 → s1 ≤ n → ∀ op : Int, 0 ≤ op → op ≤ 7 → NAll X rf rg p tb n r op s1) → ∀ op : Int, 0 ≤ op → op ≤ 7 → NAll X rf rg p tb n r op s := by
    intro s h0 hs ih op o0 o7
    have ho : 0 ≤ op ∧ op ≤ 7 := ⟨o0, o7⟩
    have hs' : 0 ≤ s ∧ s ≤ n := ⟨h0, hs⟩
    have a1 := n_Part (X := X) hz hg hr ho hs' (fun s1 x y z => (ih s1 x y (op + 1) (by omega) (by omega)).2.2.2.1) (fun s1 x y z => (ih s1 x y (op + 1) (by omega) (by omega)).2.2.2.2.2.2.2.2.1)
    have a2 := n_Prod hz hg ho hs' a1 (fun s1 x y => (ih s1 x y op o0 o7).2.2.1)
    have a3 := n_ProdR (X := X) (r := r) hz hg ho hs' (fun s1 x y => ⟨(ih s1 x y op o0 o7).1, (ih s1 x y op o0 o7).2.2.1⟩)
    have a4 := n_Sum hz hg ho hs' a2 (fun s1 x y => (ih s1 x y op o0 o7).2.2.2.2.1)
    have a5 := n_SumR (X := X) (r := r) hz hg ho hs' (fun s1 x y => ⟨(ih s1 x y op o0 o7).2.1, (ih s1 x y op o0 o7).2.2.2.2.1⟩)
    have a6 := n_Fact hz hg ho hs' a4 (fun s1 x y => (ih s1 x y op o0 o7).2.2.2.1) (fun s1 x y z => (ih s1 x y (op + 1) (by omega) (by omega)).2.2.2.2.2.2.2.2.1) (fun s1 x y z => (ih s1 x y (op + 1) (by omega) (by omega)).2.2.2.2.2.1)
    have a7 := n_Both hz hg ho hs' a6 (fun s1 x y => (ih s1 x y op o0 o7).2.2.2.2.2.2.2.1)
    have a8 := n_BothR (X := X) (r := r) hz hg ho hs' (fun s1 x y => ⟨(ih s1 x y op o0 o7).2.2.2.2.2.1, (ih s1 x y op o0 o7).2.2.2.2.2.2.2.1⟩)
    have a9 := n_Test hz hg ho hs' a7 (fun s1 x y => (ih s1 x y op o0 o7).2.2.2.2.2.2.2.2.2)
    have a10 := n_TestR (X := X) (r := r) hz hg ho hs' (fun s1 x y => ⟨(ih s1 x y op o0 o7).2.2.2.2.2.2.1, (ih s1 x y op o0 o7).2.2.2.2.2.2.2.2.2⟩)
    exact ⟨a1, a2, a3, a4, a5, a6, a7, a8, a9, a10⟩
  intro m
  induction m with
  | zero =>
    intro s h0 hs hm op o0 o7
    exact step s h0 hs (fun s1 x y => by omega) op o0 o7
  | succ m ih =>
    intro s h0 hs hm op o0 o7
    exact step s h0 hs (fun s1 x y => ih s1 (by omega) y (by omega)) op o0 o7
end TESTS2
