/-! PRODUCT and SUM -/
def crPart (X : zX) (rf : zF) (op : Int) : zF → (Int → zF → Prop) → Prop := fun mem Q => ∀ D : Nat, 8 * (7 - op) + 5 ≤ (D : Int) → Ci X D 47 [(2, 3), (0, op)] rf mem Q
def crProd (X : zX) (rf : zF) (op : Int) : zF → (Int → zF → Prop) → Prop := fun mem Q => ∀ D : Nat, 8 * (7 - op) + 6 ≤ (D : Int) → Ci X D 45 [(2, 3), (0, op)] rf mem Q
def crSum (X : zX) (rf : zF) (op : Int) : zF → (Int → zF → Prop) → Prop := fun mem Q => ∀ D : Nat, 8 * (7 - op) + 7 ≤ (D : Int) → Ci X D 43 [(2, 3), (0, op)] rf mem Q
def crProdR (X : zX) (rf : zF) (p : Nat) (op s : Int) : zF → (Int → zF → Prop) → Prop := fun mem Q => ∀ (D : Nat) (x3 : Int), 8 * (7 - op) + 5 ≤ (D : Int) → 0 ≤ x3 → x3 ≤ s → L_parser_readProduct_8 X D rf Q mem p op 1 x3
def crSumR (X : zX) (rf : zF) (p : Nat) (op s : Int) : zF → (Int → zF → Prop) → Prop := fun mem Q => ∀ (D : Nat) (x3 : Int), 8 * (7 - op) + 6 ≤ (D : Int) → 0 ≤ x3 → x3 ≤ s → L_parser_readSum_8 X D rf Q mem p op 1 x3
def NPart (X : zX) (rf rg : zF) (p : Nat) (tb : Nat → Int) (n r op s : Int) : Prop := NT X rg p tb n r (crPart X rf op) (RS0 tb n r 7 5 op s (cS tb n s)) (fun s' => RSx tb n r 1 7 5 op s' cS1) FRs (TyS r 5 op false) (fun s' => s < s') s
def NProd (X : zX) (rf rg : zF) (p : Nat) (tb : Nat → Int) (n r op s : Int) : Prop := NT X rg p tb n r (crProd X rf op) (RS0 tb n r 6 4 op s (cS tb n s)) (fun s' => RSx tb n r 1 6 4 op s' cS1) FRs (TyS r 4 op false) (fun s' => s < s' ∧ nml tb n s') s
def NSum (X : zX) (rf rg : zF) (p : Nat) (tb : Nat → Int) (n r op s : Int) : Prop := NT X rg p tb n r (crSum X rf op) (RS0 tb n r 5 3 op s (cS tb n s)) (fun s' => RSx tb n r 1 5 3 op s' cS1) FRs (TyS r 3 op false) (fun s' => s < s' ∧ nar tb n s') s
def NProdR (X : zX) (rf rg : zF) (p : Nat) (tb : Nat → Int) (n r op s : Int) : Prop := NT X rg p tb n r (crProdR X rf p op s) (RSx tb n r 1 6 4 op s cS1) (fun s' => RSx tb n r 1 6 4 op s' cS1) FRs (TyR r 4 op false) (fun s' => nml tb n s') s
def NSumR (X : zX) (rf rg : zF) (p : Nat) (tb : Nat → Int) (n r op s : Int) : Prop := nml tb n s → NT X rg p tb n r (crSumR X rf p op s) (RSx tb n r 1 5 3 op s cS1) (fun s' => RSx tb n r 1 5 3 op s' cS1) FRs (TyR r 3 op false) (fun s' => nar tb n s') s
theorem rk_le (a : Int) : rk a ≤ 6 := by
  unfold rk
  split
  · decide
  · split
    · decide
    · split
      · decide
      · split
        · decide
        · split <;> decide
theorem ztc_ar {r m : Int} (hm : 31 ≤ m ∧ m ≤ 37) (st : List Bool) : ztc r m 0 (false :: false :: st) = some (false :: st) := by
  unfold ztc
  rw [if_neg (by omega), if_neg (by omega), if_neg (by omega), if_neg (by omega), if_neg (by omega), if_pos hm]
theorem zcm_op {m : Int} (hm : 31 ≤ m) : zcm m 0 = 24 - m := by
  unfold zcm
  rw [if_neg (by omega), if_neg (by omega), if_neg (by omega)]
section CCODE
variable {X : zX} {rf rg m0 mem : zF} {p D : Nat} {tb : Nat → Int} {n r s : Int} {L : zC}
theorem CE.pcode {Q : Int → zF → Prop} (hz : ZX rf p tb n) (h : CE m0 mem p tb n r s L) (hD : 1 ≤ D) (k0 : nml tb n s → Q 0 mem) (k1 : ∀ m : Int, (tCod tb n s = 10042 ∧ m = 33) ∨ (tCod tb n s = 10047 ∧ m = 34) ∨ (tCod tb n s = 10037 ∧ m = 35) → Q (24 - m) mem) : Ci X D 46 [(2, 3)] rf mem Q := by
  obtain ⟨d, rfl⟩ : ∃ d, D = d + 1 := ⟨D - 1, by omega⟩
  refine s_parser_productCode hz.1 hz.2.1 hz.2.2.1 (h.isSign hz (by decide) (fun e => ⟨by decide, fun q => absurd q (by decide), fun _ => k1 33 (by omega)⟩) (fun e1 => ⟨by decide, fun _ => ?_, fun q => absurd rfl q⟩))
  refine h.isSign hz (by decide) (fun e => ⟨by decide, fun q => absurd q (by decide), fun _ => k1 34 (by omega)⟩) (fun e2 => ⟨by decide, fun _ => ?_, fun q => absurd rfl q⟩)
  exact h.isSign hz (by decide) (fun e => ⟨by decide, fun q => absurd q (by decide), fun _ => k1 35 (by omega)⟩) (fun e3 => ⟨by decide, fun _ => k0 ⟨by omega, by omega, by omega⟩, fun q => absurd rfl q⟩)
theorem CE.scode {Q : Int → zF → Prop} (hz : ZX rf p tb n) (h : CE m0 mem p tb n r s L) (hD : 1 ≤ D) (k0 : tCod tb n s ≠ 10043 ∧ tCod tb n s ≠ 10045 → Q 0 mem) (k1 : ∀ m : Int, (tCod tb n s = 10043 ∧ m = 31) ∨ (tCod tb n s = 10045 ∧ m = 32) → Q (24 - m) mem) : Ci X D 44 [(2, 3)] rf mem Q := by
  obtain ⟨d, rfl⟩ : ∃ d, D = d + 1 := ⟨D - 1, by omega⟩
  refine s_parser_sumCode hz.1 hz.2.1 hz.2.2.1 (h.isSign hz (by decide) (fun e => ⟨by decide, fun q => absurd q (by decide), fun _ => k1 31 (by omega)⟩) (fun e1 => ⟨by decide, fun _ => ?_, fun q => absurd rfl q⟩))
  exact h.isSign hz (by decide) (fun e => ⟨by decide, fun q => absurd q (by decide), fun _ => k1 32 (by omega)⟩) (fun e3 => ⟨by decide, fun _ => k0 ⟨by omega, by omega⟩, fun q => absurd rfl q⟩)
end CCODE
section SUMS
variable {X : zX} {rf rg : zF} {p : Nat} {tb : Nat → Int} {n r : Int}
theorem n_ProdR (hz : ZX rf p tb n) (hg : zall rg zRK = true) {op s : Int} (ho : 0 ≤ op ∧ op ≤ 7) (hs : 0 ≤ s ∧ s ≤ n) (ih : ∀ s1, s < s1 → s1 ≤ n → NPart X rf rg p tb n r op s1 ∧ NProdR X rf rg p tb n r op s1) : NProdR X rf rg p tb n r op s := by
  have hb := hz.2.2.2.2.2.2
  have hn := hz.2.2.2.2.2.1
  by_cases hm : nml tb n s
  · refine Or.inr ⟨s, [], ⟨by omega, hs.2⟩, by show (0 : Int) ≤ _; omega, ?_, ?_, fun st _ => rfl, hm⟩
    · intro m0 mem L Q h hL kk D x3 hD h0 h3
      have kq := kk mem (by rw [List.append_nil]; exact h)
      refine s_parser_readProduct_8 hz.1 hz.2.1 hz.2.2.1 ⟨by decide, fun q => absurd q (by decide), fun _ => ⟨by omega, fun _ => ⟨Or.inr rfl, kq⟩, fun _ => ?_⟩⟩
      refine h.pcode hz (by omega) (fun _ => ⟨by decide, fun _ => ⟨Or.inr rfl, kq⟩, fun q => absurd rfl q⟩) (fun m hmm => ?_)
      unfold nml at hm
      omega
    · intro m0 b E A B f fr mem d Q h hd kk
      exact kk mem E A fr h FRs.rfl (by rw [List.append_nil])
  · obtain ⟨m, hm⟩ : ∃ m : Int, (tCod tb n s = 10042 ∧ m = 33) ∨ (tCod tb n s = 10047 ∧ m = 34) ∨ (tCod tb n s = 10037 ∧ m = 35) := by
      unfold nml at hm
      by_cases c1 : tCod tb n s = 10042
      · exact ⟨33, by omega⟩
      · by_cases c2 : tCod tb n s = 10047
        · exact ⟨34, by omega⟩
        · exact ⟨35, by omega⟩
    have hsn : s < n := by
      have := tCod_rng hb hs.1
      omega
    have hnx := tNxt_rng (tb := tb) hsn
    have hrk : rk m = 6 := by
      have : m = 33 ∨ m = 34 ∨ m = 35 := by omega
      rcases this with x | x | x <;> rw [x] <;> decide
    have cpre : ∀ (m0 mem : zF) (L : zC) (Q : Int → zF → Prop) (D : Nat) (x3 : Int), CE m0 mem p tb n r s L → (L.length : Int) ≤ s → 8 * (7 - op) + 5 ≤ (D : Int) → 0 ≤ x3 → x3 ≤ s → (∀ mem', CE m0 mem' p tb n r (tNxt tb n s) L → Ci X D 47 [(2, 3), (0, op)] rf mem' (fun r11 mem12 => Cv X D 77 [(2, ((p + 9 : Nat) : Int)), (0, 24 - m)] rf mem12 (fun mem13 => L_parser_readProduct_8 X D rf Q mem13 p op r11 (x3 + 1)))) → L_parser_readProduct_8 X D rf Q mem p op 1 x3 := by
      intro m0 mem L Q D x3 h hL hD h0 h3 kk
      refine s_parser_readProduct_8 hz.1 hz.2.1 hz.2.2.1 ⟨by decide, fun q => absurd q (by decide), fun _ => ⟨by omega, fun q => absurd q (by omega), fun _ => ?_⟩⟩
      refine h.pcode hz (by omega) (fun q => absurd q ?_) (fun m1 hm1 => ⟨by omega, fun q => absurd q (by omega), fun _ => ?_⟩)
      · first | omega | (unfold nml; omega)
      refine h.pcode hz (by omega) (fun q => absurd q ?_) (fun m2 hm2 => ?_)
      · first | omega | (unfold nml; omega)
      have e2 : m2 = m := by omega
      rw [e2]
      exact h.next hz hsn (by omega) kk
    have rpre : ∀ (m0 : zF) (b : Int) (E : zC) (A B : List Int) (f : Nat) (fr mem : zF) (d : Nat) (Q : zF → Prop), RSx tb n r 1 6 4 op s cS1 m0 mem b E A B f fr → 5 ≤ d → (∀ mem', RS0 tb n r 7 5 op (tNxt tb n s) (cS tb n (tNxt tb n s)) m0 mem' b (E ++ zz A) [] (m :: B) f fr → L_m_reads_43 X d rg Q mem' 1) → L_m_reads_43 X d rg Q mem 1 := by
      intro m0 b E A B f fr mem d Q ⟨hE, ⟨b1, b2, b3, b4, b5, b6, b7, b8, b9⟩, hk, hph, h2⟩ hd kk
      refine g_arith (A := A) (B := B) (m := m) hg hb hn hd hE hs (by omega) hk hph (by omega) (by rw [hrk]; exact b8) b3 b4 (by rw [hrk]; exact b5) (by omega) (by omega) (fun mem' h' => kk mem' ⟨rfl, ?_, ⟨b1, b2, ?_, ?_, ?_, ?_, ?_, ?_, by simp only [List.length_nil]; omega⟩, hk, hph, by rw [h2]; decide, Or.inr (Or.inl h2)⟩)
      · have e : op + nots A - nots A = op + nots [] := by show _ = op + 0; omega
        rw [e] at h'
        exact h'
      · intro x hx
        rcases List.mem_cons.mp hx with e | e
        · omega
        · exact b3 x e
      · simp only [List.length_cons]; omega
      · right
        show rk m < 7
        omega
      · simp only [List.length_cons]; omega
      · rw [List.length_append, zz_len]
        simp only [List.length_cons, List.length_nil]
        omega
      · intro a ha
        cases ha
    rcases (ih (tNxt tb n s) (by omega) hnx.2).1 with ⟨k, pc, hk, hpc, hcf, hrf⟩ | ⟨s2, C1, hs2, hC1, hco, hro, hty, hec⟩
    · refine Or.inl ⟨k, pc, hk, hpc, ?_, ?_⟩
      · intro m0 mem L Q h hL kk D x3 hD h0 h3
        exact cpre m0 mem L Q D x3 h hL hD h0 h3 (fun mem' h' => hcf m0 mem' L _ h' (by omega) (fun m2 hF => hF.add hz (fun m3 hF3 => s_parser_readProduct_8 hz.1 hz.2.1 hz.2.2.1 ⟨by decide, fun _ => ⟨Or.inl rfl, kk m3 hF3⟩, fun q => absurd rfl q⟩)) D hD)
      · intro m0 b E A B f fr mem d Q h hd kk
        exact rpre m0 b E A B f fr mem d Q h hd (fun mem' h' => hrf m0 b _ [] (m :: B) f fr mem' d Q h' hd kk)
    · -- what follows
      have cmid : ∀ (m0 mem : zF) (L : zC) (Q : Int → zF → Prop) (D : Nat) (x3 : Int), CE m0 mem p tb n r s L → (L.length : Int) ≤ s → 8 * (7 - op) + 5 ≤ (D : Int) → 0 ≤ x3 → x3 ≤ s → (∀ mem', CE m0 mem' p tb n r s2 (L ++ C1 ++ [(m, 0)]) → L_parser_readProduct_8 X D rf Q mem' p op 1 (x3 + 1)) → L_parser_readProduct_8 X D rf Q mem p op 1 x3 := by
        intro m0 mem L Q D x3 h hL hD h0 h3 kk
        refine cpre m0 mem L Q D x3 h hL hD h0 h3 (fun mem' h' => hco m0 mem' L _ h' (by omega) (fun m2 hF => hF.add hz (m, 0) (zcm_op (by omega)) ?_ kk) D hD)
        rw [List.length_append]
        omega
      have rmid : ∀ (m0 : zF) (b : Int) (E : zC) (A B : List Int) (f : Nat) (fr mem : zF) (d : Nat) (Q : zF → Prop), RSx tb n r 1 6 4 op s cS1 m0 mem b E A B f fr → 5 ≤ d → (∀ (mem' : zF) (E' : zC) (A' : List Int) (fr' : zF), RSx tb n r 1 6 4 op s2 cS1 m0 mem' b E' (A' ++ [m]) B f fr' → FRs fr fr' f → E' ++ zz A' = E ++ zz A ++ C1 → L_m_reads_43 X d rg Q mem' 1) → L_m_reads_43 X d rg Q mem 1 := by
        intro m0 b E A B f fr mem d Q h hd kk
        have h0 := h
        obtain ⟨hE, ⟨b1, b2, b3, b4, b5, b6, b7, b8, b9⟩, hkk, hph, h2⟩ := h0
        refine rpre m0 b E A B f fr mem d Q h hd (fun mem' h' => hro m0 b _ [] (m :: B) f fr mem' d Q h' hd (fun m2 E' A' fr' h2' hfr he => ?_))
        obtain ⟨hE2, ⟨c1, c2, c3, c4, c5, c6, c7, c8, c9⟩, hk2, hph2, hz2⟩ := h2'
        have hno : nots [m] = 0 := by
          show (if m = 43 then 1 else 0) + 0 = (0 : Int)
          rw [if_neg (by omega)]
          rfl
        refine kk m2 E' A' fr' ⟨?_, ⟨c1, c2, b3, ?_, ?_, b6, ?_, ?_, ?_⟩, hk2, hph2, hz2⟩ hfr ?_
        · rw [List.append_assoc, nots_app, hno, Int.add_zero]
          exact hE2
        · rw [hfr.2.2.2.2]; exact b4
        · rw [hfr.2.2.2.2]; exact b5
        · rw [List.length_append]
          simp only [List.length_cons, List.length_nil] at c7 ⊢
          omega
        · intro a ha
          rcases List.mem_append.mp ha with x | x
          · have := c8 a x
            exact ⟨this.1, by omega⟩
          · rcases List.mem_cons.mp x with y | y
            · rw [y]; exact ⟨by omega, by omega⟩
            · cases y
        · rw [List.length_append]
          simp only [List.length_cons, List.length_nil]
          omega
        · rw [he]
          show E ++ zz A ++ [] ++ C1 = E ++ zz A ++ C1
          rw [List.append_nil]
      rcases (ih s2 (by omega) hs2.2).2 with ⟨k, pc, hk, hpc, hcf, hrf⟩ | ⟨s3, C2, hs3, hC2, hco2, hro2, hty2, hec2⟩
      · refine Or.inl ⟨k, pc, hk, hpc, ?_, ?_⟩
        · intro m0 mem L Q h hL kk D x3 hD h0 h3
          refine cmid m0 mem L Q D x3 h hL hD h0 h3 (fun mem' h' => hcf m0 mem' _ Q h' ?_ kk D (x3 + 1) hD (by omega) (by omega))
          rw [List.length_append, List.length_append]
          simp only [List.length_cons, List.length_nil]
          omega
        · intro m0 b E A B f fr mem d Q h hd kk
          exact rmid m0 b E A B f fr mem d Q h hd (fun mem' E' A' fr' h' hfr he => hrf m0 b E' (A' ++ [m]) B f fr' mem' d Q h' hd kk)
      · refine Or.inr ⟨s3, C1 ++ (m, 0) :: C2, ⟨by omega, hs3.2⟩, ?_, ?_, ?_, ?_, hec2⟩
        · rw [List.length_append]
          simp only [List.length_cons]
          omega
        · intro m0 mem L Q h hL kk D x3 hD h0 h3
          refine cmid m0 mem L Q D x3 h hL hD h0 h3 (fun mem' h' => hco2 m0 mem' _ Q h' ?_ (fun m3 h3' => kk m3 ?_) D (x3 + 1) hD (by omega) (by omega))
          · rw [List.length_append, List.length_append]
            simp only [List.length_cons, List.length_nil]
            omega
          · have e : L ++ C1 ++ [(m, 0)] ++ C2 = L ++ (C1 ++ (m, 0) :: C2) := by simp
            rw [e] at h3'
            exact h3'
        · intro m0 b E A B f fr mem d Q h hd kk
          refine rmid m0 b E A B f fr mem d Q h hd (fun mem' E' A' fr' h' hfr he => hro2 m0 b E' (A' ++ [m]) B f fr' mem' d Q h' hd (fun m3 E3 A3 fr3 h3 hfr3 he3 => kk m3 E3 A3 fr3 h3 (hfr.trans hfr3) ?_))
          rw [he3, zz_app, ← List.append_assoc E', he]
          show E ++ zz A ++ C1 ++ [(m, 0)] ++ C2 = _
          simp
        · intro st hst
          have t1 := hty (false :: st) (by simp only [List.length_cons]; omega)
          have t2 := tck_app ((m, 0) :: C2) C1 t1
          have t3 := tck_app C2 [(m, 0)] (tck_one (ztc_ar (r := r) (m := m) (by omega) st))
          have t3 : tck r ((m, 0) :: C2) (false :: false :: st) = tck r C2 (false :: st) := t3
          rw [t2, t3]
          exact hty2 st hst
theorem n_Prod (hz : ZX rf p tb n) (hg : zall rg zRK = true) {op s : Int} (ho : 0 ≤ op ∧ op ≤ 7) (hs : 0 ≤ s ∧ s ≤ n) (h0 : NPart X rf rg p tb n r op s) (ih : ∀ s1, s < s1 → s1 ≤ n → NProdR X rf rg p tb n r op s1) : NProd X rf rg p tb n r op s := by
  have hb := hz.2.2.2.2.2.2
  have hn := hz.2.2.2.2.2.1
  have rpre : ∀ (m0 : zF) (b : Int) (E : zC) (A B : List Int) (f : Nat) (fr mem : zF), RS0 tb n r 6 4 op s (cS tb n s) m0 mem b E A B f fr → RS0 tb n r 7 5 op s (cS tb n s) m0 mem b E A B f fr := by
    intro m0 b E A B f fr mem ⟨e, hE, ⟨b1, b2, b3, b4, b5, b6, b7, b8, b9⟩, hk, hc⟩
    refine ⟨e, hE, ⟨b1, b2, b3, b4, ?_, by omega, b7, ?_, by rw [e]; simp only [List.length_nil]; omega⟩, hk, hc⟩
    · rcases b5 with x | x
      · exact Or.inl x
      · exact Or.inr (by omega)
    · rw [e]
      intro a ha
      cases ha
  rcases h0 with ⟨k, pc, hk, hpc, hcf, hrf⟩ | ⟨s2, C1, hs2, hC1, hco, hro, hty, hec⟩
  · refine Or.inl ⟨k, pc, hk, hpc, ?_, ?_⟩
    · intro m0 mem L Q h hL kk D hD
      obtain ⟨d, rfl⟩ : ∃ d, D = d + 1 := ⟨D - 1, by omega⟩
      refine s_parser_readProduct hz.1 hz.2.1 hz.2.2.1 (hcf m0 mem L _ h hL (fun m2 hF => ?_) d (by omega))
      exact s_parser_readProduct_8 hz.1 hz.2.1 hz.2.2.1 ⟨by decide, fun _ => ⟨Or.inl rfl, kk m2 hF⟩, fun q => absurd rfl q⟩
    · intro m0 b E A B f fr mem d Q h hd kk
      exact hrf m0 b E A B f fr mem d Q (rpre m0 b E A B f fr mem h) hd kk
  · have cmid : ∀ (m0 mem : zF) (L : zC) (Q : Int → zF → Prop) (D : Nat), CE m0 mem p tb n r s L → (L.length : Int) ≤ s → 8 * (7 - op) + 6 ≤ (D : Int) → (∀ (mem' : zF) (d : Nat), 8 * (7 - op) + 5 ≤ (d : Int) → CE m0 mem' p tb n r s2 (L ++ C1) → L_parser_readProduct_8 X d rf Q mem' p op 1 0) → Ci X D 45 [(2, 3), (0, op)] rf mem Q := by
      intro m0 mem L Q D h hL hD kk
      obtain ⟨d, rfl⟩ : ∃ d, D = d + 1 := ⟨D - 1, by omega⟩
      exact s_parser_readProduct hz.1 hz.2.1 hz.2.2.1 (hco m0 mem L _ h hL (fun m2 hF => kk m2 d (by omega) hF) d (by omega))
    have rmid : ∀ (m0 : zF) (b : Int) (E : zC) (A B : List Int) (f : Nat) (fr mem : zF) (d : Nat) (Q : zF → Prop), RS0 tb n r 6 4 op s (cS tb n s) m0 mem b E A B f fr → 5 ≤ d → (∀ (mem' : zF) (E' : zC) (A' : List Int) (fr' : zF), RSx tb n r 1 6 4 op s2 cS1 m0 mem' b E' A' B f fr' → FRs fr fr' f → E' ++ zz A' = E ++ zz A ++ C1 → L_m_reads_43 X d rg Q mem' 1) → L_m_reads_43 X d rg Q mem 1 := by
      intro m0 b E A B f fr mem d Q h hd kk
      have h1 := h
      obtain ⟨e, hE, ⟨b1, b2, b3, b4, b5, b6, b7, b8, b9⟩, hkk, hc⟩ := h1
      refine hro m0 b E A B f fr mem d Q (rpre m0 b E A B f fr mem h) hd (fun m2 E' A' fr' h2' hfr he => kk m2 E' A' fr' ?_ hfr he)
      obtain ⟨hE2, ⟨c1, c2, c3, c4, c5, c6, c7, c8, c9⟩, hk2, hph2, hz2⟩ := h2'
      refine ⟨hE2, ⟨c1, c2, c3, c4, ?_, b6, c7, ?_, by omega⟩, hk2, hph2, hz2⟩
      · rw [hfr.2.2.2.2]; exact b5
      · intro a ha
        have := c8 a ha
        exact ⟨this.1, by omega⟩
    rcases ih s2 (by omega) hs2.2 with ⟨k, pc, hk, hpc, hcf, hrf⟩ | ⟨s3, C2, hs3, hC2, hco2, hro2, hty2, hec2⟩
    · refine Or.inl ⟨k, pc, hk, hpc, ?_, ?_⟩
      · intro m0 mem L Q h hL kk D hD
        refine cmid m0 mem L Q D h hL hD (fun mem' d hd h' => hcf m0 mem' _ Q h' ?_ kk d 0 hd (by omega) (by omega))
        rw [List.length_append]
        omega
      · intro m0 b E A B f fr mem d Q h hd kk
        exact rmid m0 b E A B f fr mem d Q h hd (fun mem' E' A' fr' h' hfr he => hrf m0 b E' A' B f fr' mem' d Q h' hd kk)
    · refine Or.inr ⟨s3, C1 ++ C2, ⟨by omega, hs3.2⟩, ?_, ?_, ?_, ?_, ⟨by omega, hec2⟩⟩
      · rw [List.length_append]
        omega
      · intro m0 mem L Q h hL kk D hD
        refine cmid m0 mem L Q D h hL hD (fun mem' d hd h' => hco2 m0 mem' _ Q h' ?_ (fun m3 h3' => kk m3 ?_) d 0 hd (by omega) (by omega))
        · rw [List.length_append]
          omega
        · rw [List.append_assoc] at h3'
          exact h3'
      · intro m0 b E A B f fr mem d Q h hd kk
        refine rmid m0 b E A B f fr mem d Q h hd (fun mem' E' A' fr' h' hfr he => hro2 m0 b E' A' B f fr' mem' d Q h' hd (fun m3 E3 A3 fr3 h3 hfr3 he3 => kk m3 E3 A3 fr3 h3 (hfr.trans hfr3) ?_))
        rw [he3, he]
        simp only [List.append_assoc]
      · intro st hst
        have t1 := hty st (by omega)
        rw [tck_app C2 C1 t1]
        exact hty2 st hst
theorem n_SumR (hz : ZX rf p tb n) (hg : zall rg zRK = true) {op s : Int} (ho : 0 ≤ op ∧ op ≤ 7) (hs : 0 ≤ s ∧ s ≤ n) (ih : ∀ s1, s < s1 → s1 ≤ n → NProd X rf rg p tb n r op s1 ∧ NSumR X rf rg p tb n r op s1) : NSumR X rf rg p tb n r op s := by
  have hb := hz.2.2.2.2.2.2
  have hn := hz.2.2.2.2.2.1
  intro h00
  by_cases hm : tCod tb n s ≠ 10043 ∧ tCod tb n s ≠ 10045
  · refine Or.inr ⟨s, [], ⟨by omega, hs.2⟩, by show (0 : Int) ≤ _; omega, ?_, ?_, fun st _ => rfl, ⟨hm.1, hm.2, h00.1, h00.2.1, h00.2.2⟩⟩
    · intro m0 mem L Q h hL kk D x3 hD h0 h3
      have kq := kk mem (by rw [List.append_nil]; exact h)
      refine s_parser_readSum_8 hz.1 hz.2.1 hz.2.2.1 ⟨by decide, fun q => absurd q (by decide), fun _ => ⟨by omega, fun _ => ⟨Or.inr rfl, kq⟩, fun _ => ?_⟩⟩
      refine h.scode hz (by omega) (fun _ => ⟨by decide, fun _ => ⟨Or.inr rfl, kq⟩, fun q => absurd rfl q⟩) (fun m hmm => ?_)
      unfold nml at hm
      omega
    · intro m0 b E A B f fr mem d Q h hd kk
      exact kk mem E A fr h FRs.rfl (by rw [List.append_nil])
  · obtain ⟨m, hm⟩ : ∃ m : Int, (tCod tb n s = 10043 ∧ m = 31) ∨ (tCod tb n s = 10045 ∧ m = 32) := by
      by_cases c1 : tCod tb n s = 10043
      · exact ⟨31, by omega⟩
      · exact ⟨32, by omega⟩
    have hsn : s < n := by
      have := tCod_rng hb hs.1
      omega
    have hnx := tNxt_rng (tb := tb) hsn
    have hrk : rk m = 5 := by
      have : m = 31 ∨ m = 32 := by omega
      rcases this with x | x <;> rw [x] <;> decide
    have cpre : ∀ (m0 mem : zF) (L : zC) (Q : Int → zF → Prop) (D : Nat) (x3 : Int), CE m0 mem p tb n r s L → (L.length : Int) ≤ s → 8 * (7 - op) + 6 ≤ (D : Int) → 0 ≤ x3 → x3 ≤ s → (∀ mem', CE m0 mem' p tb n r (tNxt tb n s) L → Ci X D 45 [(2, 3), (0, op)] rf mem' (fun r11 mem12 => Cv X D 77 [(2, ((p + 9 : Nat) : Int)), (0, 24 - m)] rf mem12 (fun mem13 => L_parser_readSum_8 X D rf Q mem13 p op r11 (x3 + 1)))) → L_parser_readSum_8 X D rf Q mem p op 1 x3 := by
      intro m0 mem L Q D x3 h hL hD h0 h3 kk
      refine s_parser_readSum_8 hz.1 hz.2.1 hz.2.2.1 ⟨by decide, fun q => absurd q (by decide), fun _ => ⟨by omega, fun q => absurd q (by omega), fun _ => ?_⟩⟩
      refine h.scode hz (by omega) (fun q => absurd q ?_) (fun m1 hm1 => ⟨by omega, fun q => absurd q (by omega), fun _ => ?_⟩)
      · first | omega | (unfold nml; omega)
      refine h.scode hz (by omega) (fun q => absurd q ?_) (fun m2 hm2 => ?_)
      · first | omega | (unfold nml; omega)
      have e2 : m2 = m := by omega
      rw [e2]
      exact h.next hz hsn (by omega) kk
    have rpre : ∀ (m0 : zF) (b : Int) (E : zC) (A B : List Int) (f : Nat) (fr mem : zF) (d : Nat) (Q : zF → Prop), RSx tb n r 1 5 3 op s cS1 m0 mem b E A B f fr → 5 ≤ d → (∀ mem', RS0 tb n r 6 4 op (tNxt tb n s) (cS tb n (tNxt tb n s)) m0 mem' b (E ++ zz A) [] (m :: B) f fr → L_m_reads_43 X d rg Q mem' 1) → L_m_reads_43 X d rg Q mem 1 := by
      intro m0 b E A B f fr mem d Q ⟨hE, ⟨b1, b2, b3, b4, b5, b6, b7, b8, b9⟩, hk, hph, h2⟩ hd kk
      refine g_arith (A := A) (B := B) (m := m) hg hb hn hd hE hs (by omega) hk hph (by omega) (by rw [hrk]; exact b8) b3 b4 (by rw [hrk]; exact b5) (by omega) (by omega) (fun mem' h' => kk mem' ⟨rfl, ?_, ⟨b1, b2, ?_, ?_, ?_, ?_, ?_, ?_, by simp only [List.length_nil]; omega⟩, hk, hph, by rw [h2]; decide, Or.inr (Or.inl h2)⟩)
      · have e : op + nots A - nots A = op + nots [] := by show _ = op + 0; omega
        rw [e] at h'
        exact h'
      · intro x hx
        rcases List.mem_cons.mp hx with e | e
        · omega
        · exact b3 x e
      · simp only [List.length_cons]; omega
      · right
        show rk m < 6
        omega
      · simp only [List.length_cons]; omega
      · rw [List.length_append, zz_len]
        simp only [List.length_cons, List.length_nil]
        omega
      · intro a ha
        cases ha
    rcases (ih (tNxt tb n s) (by omega) hnx.2).1 with ⟨k, pc, hk, hpc, hcf, hrf⟩ | ⟨s2, C1, hs2, hC1, hco, hro, hty, hec⟩
    · refine Or.inl ⟨k, pc, hk, hpc, ?_, ?_⟩
      · intro m0 mem L Q h hL kk D x3 hD h0 h3
        exact cpre m0 mem L Q D x3 h hL hD h0 h3 (fun mem' h' => hcf m0 mem' L _ h' (by omega) (fun m2 hF => hF.add hz (fun m3 hF3 => s_parser_readSum_8 hz.1 hz.2.1 hz.2.2.1 ⟨by decide, fun _ => ⟨Or.inl rfl, kk m3 hF3⟩, fun q => absurd rfl q⟩)) D hD)
      · intro m0 b E A B f fr mem d Q h hd kk
        exact rpre m0 b E A B f fr mem d Q h hd (fun mem' h' => hrf m0 b _ [] (m :: B) f fr mem' d Q h' hd kk)
    · -- what follows
      have cmid : ∀ (m0 mem : zF) (L : zC) (Q : Int → zF → Prop) (D : Nat) (x3 : Int), CE m0 mem p tb n r s L → (L.length : Int) ≤ s → 8 * (7 - op) + 6 ≤ (D : Int) → 0 ≤ x3 → x3 ≤ s → (∀ mem', CE m0 mem' p tb n r s2 (L ++ C1 ++ [(m, 0)]) → L_parser_readSum_8 X D rf Q mem' p op 1 (x3 + 1)) → L_parser_readSum_8 X D rf Q mem p op 1 x3 := by
        intro m0 mem L Q D x3 h hL hD h0 h3 kk
        refine cpre m0 mem L Q D x3 h hL hD h0 h3 (fun mem' h' => hco m0 mem' L _ h' (by omega) (fun m2 hF => hF.add hz (m, 0) (zcm_op (by omega)) ?_ kk) D hD)
        rw [List.length_append]
        omega
      have rmid : ∀ (m0 : zF) (b : Int) (E : zC) (A B : List Int) (f : Nat) (fr mem : zF) (d : Nat) (Q : zF → Prop), RSx tb n r 1 5 3 op s cS1 m0 mem b E A B f fr → 5 ≤ d → (∀ (mem' : zF) (E' : zC) (A' : List Int) (fr' : zF), RSx tb n r 1 5 3 op s2 cS1 m0 mem' b E' (A' ++ [m]) B f fr' → FRs fr fr' f → E' ++ zz A' = E ++ zz A ++ C1 → L_m_reads_43 X d rg Q mem' 1) → L_m_reads_43 X d rg Q mem 1 := by
        intro m0 b E A B f fr mem d Q h hd kk
        have h0 := h
        obtain ⟨hE, ⟨b1, b2, b3, b4, b5, b6, b7, b8, b9⟩, hkk, hph, h2⟩ := h0
        refine rpre m0 b E A B f fr mem d Q h hd (fun mem' h' => hro m0 b _ [] (m :: B) f fr mem' d Q h' hd (fun m2 E' A' fr' h2' hfr he => ?_))
        obtain ⟨hE2, ⟨c1, c2, c3, c4, c5, c6, c7, c8, c9⟩, hk2, hph2, hz2⟩ := h2'
        have hno : nots [m] = 0 := by
          show (if m = 43 then 1 else 0) + 0 = (0 : Int)
          rw [if_neg (by omega)]
          rfl
        refine kk m2 E' A' fr' ⟨?_, ⟨c1, c2, b3, ?_, ?_, b6, ?_, ?_, ?_⟩, hk2, hph2, hz2⟩ hfr ?_
        · rw [List.append_assoc, nots_app, hno, Int.add_zero]
          exact hE2
        · rw [hfr.2.2.2.2]; exact b4
        · rw [hfr.2.2.2.2]; exact b5
        · rw [List.length_append]
          simp only [List.length_cons, List.length_nil] at c7 ⊢
          omega
        · intro a ha
          rcases List.mem_append.mp ha with x | x
          · have := c8 a x
            exact ⟨this.1, by omega⟩
          · rcases List.mem_cons.mp x with y | y
            · rw [y]; exact ⟨by omega, by omega⟩
            · cases y
        · rw [List.length_append]
          simp only [List.length_cons, List.length_nil]
          omega
        · rw [he]
          show E ++ zz A ++ [] ++ C1 = E ++ zz A ++ C1
          rw [List.append_nil]
      rcases (ih s2 (by omega) hs2.2).2 hec.2 with ⟨k, pc, hk, hpc, hcf, hrf⟩ | ⟨s3, C2, hs3, hC2, hco2, hro2, hty2, hec2⟩
      · refine Or.inl ⟨k, pc, hk, hpc, ?_, ?_⟩
        · intro m0 mem L Q h hL kk D x3 hD h0 h3
          refine cmid m0 mem L Q D x3 h hL hD h0 h3 (fun mem' h' => hcf m0 mem' _ Q h' ?_ kk D (x3 + 1) hD (by omega) (by omega))
          rw [List.length_append, List.length_append]
          simp only [List.length_cons, List.length_nil]
          omega
        · intro m0 b E A B f fr mem d Q h hd kk
          exact rmid m0 b E A B f fr mem d Q h hd (fun mem' E' A' fr' h' hfr he => hrf m0 b E' (A' ++ [m]) B f fr' mem' d Q h' hd kk)
      · refine Or.inr ⟨s3, C1 ++ (m, 0) :: C2, ⟨by omega, hs3.2⟩, ?_, ?_, ?_, ?_, hec2⟩
        · rw [List.length_append]
          simp only [List.length_cons]
          omega
        · intro m0 mem L Q h hL kk D x3 hD h0 h3
          refine cmid m0 mem L Q D x3 h hL hD h0 h3 (fun mem' h' => hco2 m0 mem' _ Q h' ?_ (fun m3 h3' => kk m3 ?_) D (x3 + 1) hD (by omega) (by omega))
          · rw [List.length_append, List.length_append]
            simp only [List.length_cons, List.length_nil]
            omega
          · have e : L ++ C1 ++ [(m, 0)] ++ C2 = L ++ (C1 ++ (m, 0) :: C2) := by simp
            rw [e] at h3'
            exact h3'
        · intro m0 b E A B f fr mem d Q h hd kk
          refine rmid m0 b E A B f fr mem d Q h hd (fun mem' E' A' fr' h' hfr he => hro2 m0 b E' (A' ++ [m]) B f fr' mem' d Q h' hd (fun m3 E3 A3 fr3 h3 hfr3 he3 => kk m3 E3 A3 fr3 h3 (hfr.trans hfr3) ?_))
          rw [he3, zz_app, ← List.append_assoc E', he]
          show E ++ zz A ++ C1 ++ [(m, 0)] ++ C2 = _
          simp
        · intro st hst
          have t1 := hty (false :: st) (by simp only [List.length_cons]; omega)
          have t2 := tck_app ((m, 0) :: C2) C1 t1
          have t3 := tck_app C2 [(m, 0)] (tck_one (ztc_ar (r := r) (m := m) (by omega) st))
          have t3 : tck r ((m, 0) :: C2) (false :: false :: st) = tck r C2 (false :: st) := t3
          rw [t2, t3]
          exact hty2 st hst
theorem n_Sum (hz : ZX rf p tb n) (hg : zall rg zRK = true) {op s : Int} (ho : 0 ≤ op ∧ op ≤ 7) (hs : 0 ≤ s ∧ s ≤ n) (h0 : NProd X rf rg p tb n r op s) (ih : ∀ s1, s < s1 → s1 ≤ n → NSumR X rf rg p tb n r op s1) : NSum X rf rg p tb n r op s := by
  have hb := hz.2.2.2.2.2.2
  have hn := hz.2.2.2.2.2.1
  have rpre : ∀ (m0 : zF) (b : Int) (E : zC) (A B : List Int) (f : Nat) (fr mem : zF), RS0 tb n r 5 3 op s (cS tb n s) m0 mem b E A B f fr → RS0 tb n r 6 4 op s (cS tb n s) m0 mem b E A B f fr := by
    intro m0 b E A B f fr mem ⟨e, hE, ⟨b1, b2, b3, b4, b5, b6, b7, b8, b9⟩, hk, hc⟩
    refine ⟨e, hE, ⟨b1, b2, b3, b4, ?_, by omega, b7, ?_, by rw [e]; simp only [List.length_nil]; omega⟩, hk, hc⟩
    · rcases b5 with x | x
      · exact Or.inl x
      · exact Or.inr (by omega)
    · rw [e]
      intro a ha
      cases ha
  rcases h0 with ⟨k, pc, hk, hpc, hcf, hrf⟩ | ⟨s2, C1, hs2, hC1, hco, hro, hty, hec⟩
  · refine Or.inl ⟨k, pc, hk, hpc, ?_, ?_⟩
    · intro m0 mem L Q h hL kk D hD
      obtain ⟨d, rfl⟩ : ∃ d, D = d + 1 := ⟨D - 1, by omega⟩
      refine s_parser_readSum hz.1 hz.2.1 hz.2.2.1 (hcf m0 mem L _ h hL (fun m2 hF => ?_) d (by omega))
      exact s_parser_readSum_8 hz.1 hz.2.1 hz.2.2.1 ⟨by decide, fun _ => ⟨Or.inl rfl, kk m2 hF⟩, fun q => absurd rfl q⟩
    · intro m0 b E A B f fr mem d Q h hd kk
      exact hrf m0 b E A B f fr mem d Q (rpre m0 b E A B f fr mem h) hd kk
  · have cmid : ∀ (m0 mem : zF) (L : zC) (Q : Int → zF → Prop) (D : Nat), CE m0 mem p tb n r s L → (L.length : Int) ≤ s → 8 * (7 - op) + 7 ≤ (D : Int) → (∀ (mem' : zF) (d : Nat), 8 * (7 - op) + 6 ≤ (d : Int) → CE m0 mem' p tb n r s2 (L ++ C1) → L_parser_readSum_8 X d rf Q mem' p op 1 0) → Ci X D 43 [(2, 3), (0, op)] rf mem Q := by
      intro m0 mem L Q D h hL hD kk
      obtain ⟨d, rfl⟩ : ∃ d, D = d + 1 := ⟨D - 1, by omega⟩
      exact s_parser_readSum hz.1 hz.2.1 hz.2.2.1 (hco m0 mem L _ h hL (fun m2 hF => kk m2 d (by omega) hF) d (by omega))
    have rmid : ∀ (m0 : zF) (b : Int) (E : zC) (A B : List Int) (f : Nat) (fr mem : zF) (d : Nat) (Q : zF → Prop), RS0 tb n r 5 3 op s (cS tb n s) m0 mem b E A B f fr → 5 ≤ d → (∀ (mem' : zF) (E' : zC) (A' : List Int) (fr' : zF), RSx tb n r 1 5 3 op s2 cS1 m0 mem' b E' A' B f fr' → FRs fr fr' f → E' ++ zz A' = E ++ zz A ++ C1 → L_m_reads_43 X d rg Q mem' 1) → L_m_reads_43 X d rg Q mem 1 := by
      intro m0 b E A B f fr mem d Q h hd kk
      have h1 := h
      obtain ⟨e, hE, ⟨b1, b2, b3, b4, b5, b6, b7, b8, b9⟩, hkk, hc⟩ := h1
      refine hro m0 b E A B f fr mem d Q (rpre m0 b E A B f fr mem h) hd (fun m2 E' A' fr' h2' hfr he => kk m2 E' A' fr' ?_ hfr he)
      obtain ⟨hE2, ⟨c1, c2, c3, c4, c5, c6, c7, c8, c9⟩, hk2, hph2, hz2⟩ := h2'
      refine ⟨hE2, ⟨c1, c2, c3, c4, ?_, b6, c7, ?_, by omega⟩, hk2, hph2, hz2⟩
      · rw [hfr.2.2.2.2]; exact b5
      · intro a ha
        have := c8 a ha
        exact ⟨this.1, by omega⟩
    rcases ih s2 (by omega) hs2.2 hec.2 with ⟨k, pc, hk, hpc, hcf, hrf⟩ | ⟨s3, C2, hs3, hC2, hco2, hro2, hty2, hec2⟩
    · refine Or.inl ⟨k, pc, hk, hpc, ?_, ?_⟩
      · intro m0 mem L Q h hL kk D hD
        refine cmid m0 mem L Q D h hL hD (fun mem' d hd h' => hcf m0 mem' _ Q h' ?_ kk d 0 hd (by omega) (by omega))
        rw [List.length_append]
        omega
      · intro m0 b E A B f fr mem d Q h hd kk
        exact rmid m0 b E A B f fr mem d Q h hd (fun mem' E' A' fr' h' hfr he => hrf m0 b E' A' B f fr' mem' d Q h' hd kk)
    · refine Or.inr ⟨s3, C1 ++ C2, ⟨by omega, hs3.2⟩, ?_, ?_, ?_, ?_, ⟨by omega, hec2⟩⟩
      · rw [List.length_append]
        omega
      · intro m0 mem L Q h hL kk D hD
        refine cmid m0 mem L Q D h hL hD (fun mem' d hd h' => hco2 m0 mem' _ Q h' ?_ (fun m3 h3' => kk m3 ?_) d 0 hd (by omega) (by omega))
        · rw [List.length_append]
          omega
        · rw [List.append_assoc] at h3'
          exact h3'
      · intro m0 b E A B f fr mem d Q h hd kk
        refine rmid m0 b E A B f fr mem d Q h hd (fun mem' E' A' fr' h' hfr he => hro2 m0 b E' A' B f fr' mem' d Q h' hd (fun m3 E3 A3 fr3 h3 hfr3 he3 => kk m3 E3 A3 fr3 h3 (hfr.trans hfr3) ?_))
        rw [he3, he]
        simp only [List.append_assoc]
      · intro st hst
        have t1 := hty st (by omega)
        rw [tck_app C2 C1 t1]
        exact hty2 st hst
end SUMS
