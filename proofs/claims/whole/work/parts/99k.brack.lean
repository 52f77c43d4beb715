/-! what stands in brackets -/
def crTest (X : zX) (rf : zF) (op : Int) : zF → (Int → zF → Prop) → Prop := fun mem Q => ∀ D : Nat, 8 * (7 - op) + 11 ≤ (D : Int) → Ci X D 53 [(2, 3), (0, op)] rf mem Q
def NTest (X : zX) (rf rg : zF) (p : Nat) (tb : Nat → Int) (n r op s : Int) : Prop := NT X rg p tb n r (crTest X rf op) (RS0 tb n r 1 0 op s cT) (fun s' => RSx tb n r 1 1 0 op s' (cT1 tb n s')) FRt (TyS r 0 op true) (fun s' => s < s' ∧ tCod tb n s' ≠ 20022 ∧ tCod tb n s' ≠ 20021) s
def RI (tb : Nat → Int) (n r kd op s : Int) (m0 mem : zF) (b : Int) (E : zC) (B : List Int) (f : Nat) (fr : zF) : Prop := RE m0 mem tb n b r s E B (f + 1) op fr 0 ∧ ((f : Int) + 1 ≤ op ∧ op ≤ 7) ∧ (∀ x ∈ B, 31 ≤ x ∧ x ≤ 43) ∧ fr 4 (f + 1) = (B.length : Int) ∧ (B.length : Int) ≤ 5 * op ∧ (E.length : Int) + B.length ≤ s ∧ fr 0 (f + 1) = kd ∧ fr 1 (f + 1) = 0 ∧ inI (fr 2 (f + 1)) ∧ (zts kd → fr 2 (f + 1) = 1)
def NI (X : zX) (rf rg : zF) (p : Nat) (tb : Nat → Int) (n r kd op : Int) (cr : zF → (Int → zF → Prop) → Prop) (ex : zF → Nat → zC) (ty : zC → Prop) (s : Int) : Prop :=
  (∃ k pc : Int, (1 ≤ k ∧ k ≤ 6) ∧ inI pc ∧ CFl p tb n r cr s k pc ∧ ∀ (m0 : zF) (b : Int) (E : zC) (B : List Int) (f : Nat) (fr mem : zF) (d : Nat) (Q : zF → Prop), RI tb n r kd op s m0 mem b E B f fr → 5 ≤ d → (∀ mem', REF m0 mem' b k pc → Q mem') → L_m_reads_43 X d rg Q mem 1) ∨
  (∃ (s' : Int) (C : zC), (s < s' ∧ s' ≤ n) ∧ (C.length : Int) + 1 ≤ s' - s ∧ COk p tb n r cr s s' C ∧ (∀ (m0 : zF) (b : Int) (E : zC) (B : List Int) (f : Nat) (fr mem : zF) (d : Nat) (Q : zF → Prop), RI tb n r kd op s m0 mem b E B f fr → 5 ≤ d → (∀ mem' fr', RE m0 mem' tb n b r s' (E ++ C ++ ex fr f) B f (op - 1) fr' 1 → (∀ sl g, g ≤ f → fr' sl g = fr sl g) → L_m_reads_43 X d rg Q mem' 1) → L_m_reads_43 X d rg Q mem 1) ∧ ty C)
def crParen (X : zX) (rf : zF) (op : Int) : zF → (Int → zF → Prop) → Prop := fun mem Q => ∀ D : Nat, 8 * (7 - op) + 7 ≤ (D : Int) → Ci X D 43 [(2, 3), (0, op)] rf mem (fun r mem => inI r ∧ ((r = 0 → Q 0 mem) ∧ (¬ r = 0 → Ci X D 36 [(2, 3), (0, 41)] rf mem (fun r mem => inI r ∧ ((r = 0 → Q 0 mem) ∧ (¬ r = 0 → Q 1 mem))))))
def crTail (X : zX) (rf : zF) (op : Int) : zF → (Int → zF → Prop) → Prop := fun mem Q => ∀ D : Nat, 8 * (7 - op) + 7 ≤ (D : Int) → Ci X D 43 [(2, 3), (0, op)] rf mem (fun r mem => inI r ∧ ((r = 0 → Q 0 mem) ∧ (¬ r = 0 → Ci X D 36 [(2, 3), (0, 44)] rf mem (fun r mem => inI r ∧ ((r = 0 → Q 0 mem) ∧ (¬ r = 0 → Ci X D 43 [(2, 3), (0, op)] rf mem (fun r mem => inI r ∧ ((r = 0 → Q 0 mem) ∧ (¬ r = 0 → Ci X D 36 [(2, 3), (0, 41)] rf mem (fun r mem => inI r ∧ ((r = 0 → Q 0 mem) ∧ (¬ r = 0 → Q 1 mem))))))))))))
def crIff (X : zX) (rf : zF) (op : Int) : zF → (Int → zF → Prop) → Prop := fun mem Q => ∀ D : Nat, 8 * (7 - op) + 11 ≤ (D : Int) → Ci X D 53 [(2, 3), (0, op)] rf mem (fun r mem => inI r ∧ ((r = 0 → Q 0 mem) ∧ (¬ r = 0 → Ci X D 36 [(2, 3), (0, 44)] rf mem (fun r mem => inI r ∧ ((r = 0 → Q 0 mem) ∧ (¬ r = 0 → Ci X D 43 [(2, 3), (0, op)] rf mem (fun r mem => inI r ∧ ((r = 0 → Q 0 mem) ∧ (¬ r = 0 → Ci X D 36 [(2, 3), (0, 44)] rf mem (fun r mem => inI r ∧ ((r = 0 → Q 0 mem) ∧ (¬ r = 0 → Ci X D 43 [(2, 3), (0, op)] rf mem (fun r mem => inI r ∧ ((r = 0 → Q 0 mem) ∧ (¬ r = 0 → Ci X D 36 [(2, 3), (0, 41)] rf mem (fun r mem => inI r ∧ ((r = 0 → Q 0 mem) ∧ (¬ r = 0 → Q 1 mem))))))))))))))))))
def ex0 (_ : zF) (_ : Nat) : zC := []
def ex1 (fr : zF) (f : Nat) : zC := [(fr 3 (f + 1), 0)]
section BRACK
variable {X : zX} {rf rg : zF} {p : Nat} {tb : Nat → Int} {n r : Int}
theorem RI.sum {kd op s : Int} {m0 mem : zF} {b : Int} {E : zC} {B : List Int} {f : Nat} {fr : zF} (h : RI tb n r kd op s m0 mem b E B f fr) (hk : kd = 2 ∨ kd = 3 ∨ kd = 4) : RS0 tb n r 5 3 op s (cS tb n s) m0 mem b E [] B (f + 1) fr := by
  obtain ⟨h1, h2, h3, h4, h5, h6, h7, h8, h9, h10⟩ := h
  refine ⟨rfl, ?_, ⟨by omega, by omega, h3, by omega, Or.inl h4.symm, by omega, ?_, ?_, ?_⟩, by omega, by omega, h9, Or.inl ?_⟩
  · have e : op + nots [] = op := by show op + 0 = op; omega
    rw [e]
    exact h1
  · simp only [List.length_nil]; omega
  · intro a ha
    cases ha
  · simp only [List.length_nil]; omega
  · rw [h7]
    unfold zts
    omega
theorem RI.test {kd op s : Int} {m0 mem : zF} {b : Int} {E : zC} {B : List Int} {f : Nat} {fr : zF} (h : RI tb n r kd op s m0 mem b E B f fr) (hk : kd = 5 ∨ kd = 6) : RS0 tb n r 1 0 op s cT m0 mem b E [] B (f + 1) fr := by
  obtain ⟨h1, h2, h3, h4, h5, h6, h7, h8, h9, h10⟩ := h
  have hz : zts kd := by unfold zts; omega
  refine ⟨rfl, ?_, ⟨by omega, by omega, h3, by omega, Or.inl h4.symm, by omega, ?_, ?_, ?_⟩, by omega, by rw [h7]; exact hz, h8, h10 hz⟩
  · have e : op + nots [] = op := by show op + 0 = op; omega
    rw [e]
    exact h1
  · simp only [List.length_nil]; omega
  · intro a ha
    cases ha
  · simp only [List.length_nil]; omega
theorem rk_pos {a : Int} {lv : Int} (h : lv ≤ rk a) (hl : 1 ≤ lv) : 1 ≤ rk a := by omega
/-- ( SUM ) -/
theorem n_paren (hz : ZX rf p tb n) (hg : zall rg zRK = true) {op s : Int} (ho : 1 ≤ op ∧ op ≤ 7) (hs : 0 ≤ s ∧ s ≤ n) (h0 : NSum X rf rg p tb n r op s) : NI X rf rg p tb n r 2 op (crParen X rf op) ex0 (TyS r 3 op false) s := by
  have hb := hz.2.2.2.2.2.2
  have hn := hz.2.2.2.2.2.1
  rcases h0 with ⟨k, pc, hk, hpc, hcf, hrf⟩ | ⟨s2, C1, hs2, hC1, hco, hro, hty, hec⟩
  · refine Or.inl ⟨k, pc, hk, hpc, ?_, ?_⟩
    · intro m0 mem L Q h hL kk D hD
      exact hcf m0 mem L _ h hL (fun m2 hF => ⟨by decide, fun _ => kk m2 hF, fun q => absurd rfl q⟩) D hD
    · intro m0 b E B f fr mem d Q h hd kk
      exact hrf m0 b E [] B (f + 1) fr mem d Q (h.sum (Or.inl rfl)) hd kk
  · have hs2' : 0 ≤ s2 ∧ s2 ≤ n := by omega
    have rmid : ∀ (m0 : zF) (b : Int) (E : zC) (B : List Int) (f : Nat) (fr mem : zF) (d : Nat) (Q : zF → Prop), RI tb n r 2 op s m0 mem b E B f fr → 5 ≤ d → (tCod tb n s2 ≠ 10041 → ∀ mem', REF m0 mem' b 1 (tPlc tb n s2) → Q mem') → (tCod tb n s2 = 10041 → ∀ mem' fr', RE m0 mem' tb n b r (tNxt tb n s2) (E ++ C1 ++ ex0 fr f) B f (op - 1) fr' 1 → (∀ sl g, g ≤ f → fr' sl g = fr sl g) → L_m_reads_43 X d rg Q mem' 1) → L_m_reads_43 X d rg Q mem 1 := by
      intro m0 b E B f fr mem d Q h hd kf kk
      refine hro m0 b E [] B (f + 1) fr mem d Q (h.sum (Or.inl rfl)) hd (fun m2 E' A' fr' h2' hfr he => ?_)
      obtain ⟨hE2, ⟨c1, c2, c3, c4, c5, c6, c7, c8, c9⟩, hk2, hph2, hz2⟩ := h2'
      obtain ⟨i1, i2, i3, i4, i5, i6, i7, i8, i9, i10⟩ := h
      have k2 : fr' 0 (f + 1) = 2 := by rw [hfr.2.1]; exact i7
      have lenE : (E'.length : Int) + A'.length = E.length + C1.length := by
        have := congrArg List.length he
        simp only [List.length_append, zz_len, List.length_nil] at this
        omega
      refine g_close (A := A') (B := B) hg hb hn hd hE2 hs2' (by omega) (Or.inl k2) (fun _ => Or.inl ⟨by rw [k2]; unfold zts; omega, hph2, hec.2⟩) (fun a ha => ⟨(c8 a ha).1, by have := (c8 a ha).2; omega⟩) i3 (by rw [hfr.2.2.2.2]; exact i4) c7 (by omega) (fun e mem' => kf (fun c => e (by rw [if_neg (by omega)]; exact c)) mem') (fun e mem' fr3 h3 a1 a2 a3 => ?_)
      · rw [if_neg (by omega)] at e
        rw [if_neg (by omega), List.append_nil, he] at h3
        have eo : op + nots A' - nots A' - 1 = op - 1 := by omega
        rw [eo] at h3
        refine kk e mem' fr3 ?_ (fun sl g hg => ?_)
        · show RE m0 mem' tb n b r (tNxt tb n s2) (E ++ C1 ++ []) B f (op - 1) fr3 1
          rw [List.append_nil]
          have e2 : E ++ zz [] ++ C1 = E ++ C1 := by
            show E ++ [] ++ C1 = E ++ C1
            rw [List.append_nil]
          rw [e2] at h3
          exact h3
        · rw [if_neg (by omega)] at a3
          by_cases x : g < f
          · rw [a1 sl g x]; exact hfr.1 sl g (by omega)
          · have : g = f := by omega
            rw [this]
            by_cases y : sl = 1
            · rw [y, a3]; exact hfr.1 1 f (by omega)
            · rw [a2 sl y]; exact hfr.1 sl f (by omega)
    by_cases hcl : tCod tb n s2 = 10041
    · have hsn : s2 < n := by
        have := tCod_rng hb hs2'.1
        omega
      have hnx := tNxt_rng (tb := tb) hsn
      refine Or.inr ⟨tNxt tb n s2, C1, ⟨by omega, hnx.2⟩, by omega, ?_, ?_, hty⟩
      · intro m0 mem L Q h hL kk D hD
        refine hco m0 mem L _ h hL (fun m2 h2 => ⟨by decide, fun q => absurd q (by decide), fun _ => h2.sign hz ?_ (by omega) (by decide) (fun _ m3 h3 => ⟨by decide, fun q => absurd q (by decide), fun _ => kk m3 h3⟩) (fun e => absurd hcl e)⟩) D hD
        rw [List.length_append]; omega
      · intro m0 b E B f fr mem d Q h hd kk
        exact rmid m0 b E B f fr mem d Q h hd (fun e => absurd hcl e) (fun _ => kk)
    · refine Or.inl ⟨1, tPlc tb n s2, by decide, tPlc_I hs2' hn.2, ?_, ?_⟩
      · intro m0 mem L Q h hL kk D hD
        refine hco m0 mem L _ h hL (fun m2 h2 => ⟨by decide, fun q => absurd q (by decide), fun _ => h2.sign hz ?_ (by omega) (by decide) (fun e => absurd e hcl) (fun _ m3 h3 => ⟨by decide, fun _ => kk m3 h3, fun q => absurd rfl q⟩)⟩) D hD
        rw [List.length_append]; omega
      · intro m0 b E B f fr mem d Q h hd kk
        exact rmid m0 b E B f fr mem d Q h hd (fun _ => kk) (fun e => absurd e hcl)
def TyT (r kB op : Int) (C : zC) : Prop := ∀ st : List Bool, (st.length : Int) ≤ 5 * op + kB → tck r C st = some (false :: false :: st)
/-- SUM , SUM ) -/
theorem n_tail (hz : ZX rf p tb n) (hg : zall rg zRK = true) {op s : Int} (ho : 1 ≤ op ∧ op ≤ 7) (hs : 0 ≤ s ∧ s ≤ n) (h0 : NSum X rf rg p tb n r op s) (ih : ∀ s1, s < s1 → s1 ≤ n → NSum X rf rg p tb n r op s1) : NI X rf rg p tb n r 3 op (crTail X rf op) ex1 (TyT r 2 op) s := by
  have hb := hz.2.2.2.2.2.2
  have hn := hz.2.2.2.2.2.1
  rcases h0 with ⟨k, pc, hk, hpc, hcf, hrf⟩ | ⟨s2, C1, hs2, hC1, hco, hro, hty, hec⟩
  · refine Or.inl ⟨k, pc, hk, hpc, ?_, ?_⟩
    · intro m0 mem L Q h hL kk D hD
      exact hcf m0 mem L _ h hL (fun m2 hF => ⟨by decide, fun _ => kk m2 hF, fun q => absurd rfl q⟩) D hD
    · intro m0 b E B f fr mem d Q h hd kk
      exact hrf m0 b E [] B (f + 1) fr mem d Q (h.sum (Or.inr (Or.inl rfl))) hd kk
  have hs2' : 0 ≤ s2 ∧ s2 ≤ n := by omega
  -- the comma
  have rmid : ∀ (m0 : zF) (b : Int) (E : zC) (B : List Int) (f : Nat) (fr mem : zF) (d : Nat) (Q : zF → Prop), RI tb n r 3 op s m0 mem b E B f fr → 5 ≤ d → (tCod tb n s2 ≠ 10044 → ∀ mem', REF m0 mem' b 1 (tPlc tb n s2) → Q mem') → (tCod tb n s2 = 10044 → ∀ mem' fr', RI tb n r 4 op (tNxt tb n s2) m0 mem' b (E ++ C1) B f fr' → fr' 3 (f + 1) = fr 3 (f + 1) → (∀ sl g, g ≤ f → fr' sl g = fr sl g) → L_m_reads_43 X d rg Q mem' 1) → L_m_reads_43 X d rg Q mem 1 := by
    intro m0 b E B f fr mem d Q h hd kf kk
    refine hro m0 b E [] B (f + 1) fr mem d Q (h.sum (Or.inr (Or.inl rfl))) hd (fun m2 E' A' fr' h2' hfr he => ?_)
    obtain ⟨hE2, ⟨c1, c2, c3, c4, c5, c6, c7, c8, c9⟩, hk2, hph2, hz2⟩ := h2'
    obtain ⟨i1, i2, i3, i4, i5, i6, i7, i8, i9, i10⟩ := h
    have k2 : fr' 0 (f + 1) = 3 := by rw [hfr.2.1]; exact i7
    have e2 : E' ++ zz A' = E ++ C1 := by
      rw [he]
      show E ++ [] ++ C1 = E ++ C1
      rw [List.append_nil]
    have lenE : (E'.length : Int) + A'.length = E.length + C1.length := by
      have := congrArg List.length e2
      simp only [List.length_append, zz_len] at this
      omega
    refine g_comma (A := A') (B := B) hg hb hn hd hE2 hs2' (by omega) (Or.inl k2) (fun _ => Or.inl ⟨by rw [k2]; unfold zts; omega, hph2, hec.2⟩) (fun a ha => ⟨(c8 a ha).1, by have := (c8 a ha).2; omega⟩) i3 (by rw [hfr.2.2.2.2]; exact i4) (by omega) (by omega) kf (fun e mem' h3 => ?_)
    have hsn : s2 < n := by
      have := tCod_rng hb hs2'.1
      omega
    have hnx := tNxt_rng (tb := tb) hsn
    rw [if_pos k2, e2] at h3
    have eo : op + nots A' - nots A' = op := by omega
    rw [eo] at h3
    refine kk e mem' _ ⟨h3, by omega, i3, ?_, i5, ?_, ?_, zup_at _ _ _ _, ?_, ?_⟩ ?_ (fun sl g hg => ?_)
    · rw [zup_row _ _ _ (by decide), zup_row _ _ _ (by decide), hfr.2.2.2.2]; exact i4
    · rw [List.length_append]; omega
    · rw [zup_row _ _ _ (by decide), zup_at]
    · rw [zup_row _ _ _ (by decide), zup_row _ _ _ (by decide), hz2]; decide
    · intro q
      unfold zts at q
      omega
    · rw [zup_row _ _ _ (by decide), zup_row _ _ _ (by decide), hfr.2.2.2.1]
    · rw [zup_ne _ _ _ _ (by omega), zup_ne _ _ _ _ (by omega)]
      exact hfr.1 sl g (by omega)
  by_cases hcm : tCod tb n s2 = 10044
  · have hsn : s2 < n := by
      have := tCod_rng hb hs2'.1
      omega
    have hnx := tNxt_rng (tb := tb) hsn
    have cmid : ∀ (m0 mem : zF) (L : zC) (Q : Int → zF → Prop) (D : Nat), CE m0 mem p tb n r s L → (L.length : Int) ≤ s → 8 * (7 - op) + 7 ≤ (D : Int) → (∀ mem', CE m0 mem' p tb n r (tNxt tb n s2) (L ++ C1) → Ci X D 43 [(2, 3), (0, op)] rf mem' (fun r mem => inI r ∧ ((r = 0 → Q 0 mem) ∧ (¬ r = 0 → Ci X D 36 [(2, 3), (0, 41)] rf mem (fun r mem => inI r ∧ ((r = 0 → Q 0 mem) ∧ (¬ r = 0 → Q 1 mem))))))) → Ci X D 43 [(2, 3), (0, op)] rf mem (fun r mem => inI r ∧ ((r = 0 → Q 0 mem) ∧ (¬ r = 0 → Ci X D 36 [(2, 3), (0, 44)] rf mem (fun r mem => inI r ∧ ((r = 0 → Q 0 mem) ∧ (¬ r = 0 → Ci X D 43 [(2, 3), (0, op)] rf mem (fun r mem => inI r ∧ ((r = 0 → Q 0 mem) ∧ (¬ r = 0 → Ci X D 36 [(2, 3), (0, 41)] rf mem (fun r mem => inI r ∧ ((r = 0 → Q 0 mem) ∧ (¬ r = 0 → Q 1 mem)))))))))))) := by
      intro m0 mem L Q D h hL hD kk
      refine hco m0 mem L _ h hL (fun m2 h2 => ⟨by decide, fun q => absurd q (by decide), fun _ => h2.sign hz ?_ (by omega) (by decide) (fun _ m3 h3 => ⟨by decide, fun q => absurd q (by decide), fun _ => kk m3 h3⟩) (fun e => absurd hcm e)⟩) D hD
      rw [List.length_append]; omega
    rcases ih (tNxt tb n s2) (by omega) hnx.2 with ⟨k, pc, hk, hpc, hcf, hrf⟩ | ⟨s4, C2, hs4, hC2, hco2, hro2, hty2, hec2⟩
    · refine Or.inl ⟨k, pc, hk, hpc, ?_, ?_⟩
      · intro m0 mem L Q h hL kk D hD
        refine cmid m0 mem L Q D h hL hD (fun m3 h3 => hcf m0 m3 _ _ h3 ?_ (fun m4 hF => ⟨by decide, fun _ => kk m4 hF, fun q => absurd rfl q⟩) D hD)
        rw [List.length_append]; omega
      · intro m0 b E B f fr mem d Q h hd kk
        exact rmid m0 b E B f fr mem d Q h hd (fun e => absurd hcm e) (fun _ m3 fr3 h3 _ _ => hrf m0 b _ [] B (f + 1) fr3 m3 d Q (h3.sum (Or.inr (Or.inr rfl))) hd kk)
    have hs4' : 0 ≤ s4 ∧ s4 ≤ n := by omega
    have rend : ∀ (m0 : zF) (b : Int) (E : zC) (B : List Int) (f : Nat) (fr mem : zF) (d : Nat) (Q : zF → Prop), RI tb n r 3 op s m0 mem b E B f fr → 5 ≤ d → (tCod tb n s4 ≠ 10041 → ∀ mem', REF m0 mem' b 1 (tPlc tb n s4) → Q mem') → (tCod tb n s4 = 10041 → ∀ mem' fr', RE m0 mem' tb n b r (tNxt tb n s4) (E ++ (C1 ++ C2) ++ ex1 fr f) B f (op - 1) fr' 1 → (∀ sl g, g ≤ f → fr' sl g = fr sl g) → L_m_reads_43 X d rg Q mem' 1) → L_m_reads_43 X d rg Q mem 1 := by
      intro m0 b E B f fr mem d Q h hd kf kk
      refine rmid m0 b E B f fr mem d Q h hd (fun e => absurd hcm e) (fun _ m3 fr3 h3 e3 a3 => ?_)
      refine hro2 m0 b (E ++ C1) [] B (f + 1) fr3 m3 d Q (h3.sum (Or.inr (Or.inr rfl))) hd (fun m2 E' A' fr' h2' hfr he => ?_)
      obtain ⟨hE2, ⟨c1, c2, c3, c4, c5, c6, c7, c8, c9⟩, hk2, hph2, hz2⟩ := h2'
      obtain ⟨i1, i2, i3, i4, i5, i6, i7, i8, i9, i10⟩ := h3
      obtain ⟨j1, j2, j3, j4, j5, j6, j7, j8, j9, j10⟩ := h
      have k2 : fr' 0 (f + 1) = 4 := by rw [hfr.2.1]; exact i7
      have e2 : E' ++ zz A' = E ++ C1 ++ C2 := by
        rw [he]
        show E ++ C1 ++ [] ++ C2 = E ++ C1 ++ C2
        rw [List.append_nil]
      have lenE : (E'.length : Int) + A'.length = E.length + C1.length + C2.length := by
        have := congrArg List.length e2
        simp only [List.length_append, zz_len] at this
        omega
      refine g_close (A := A') (B := B) hg hb hn hd hE2 hs4' (by omega) (Or.inr (Or.inl k2)) (fun _ => Or.inl ⟨by rw [k2]; unfold zts; omega, hph2, hec2.2⟩) (fun a ha => ⟨(c8 a ha).1, by have := (c8 a ha).2; omega⟩) i3 (by rw [hfr.2.2.2.2]; exact i4) c7 (by omega) (fun e mem' => kf (fun c => e (by rw [if_neg (by omega)]; exact c)) mem') (fun e mem' fr5 h5 a1 a2 a4 => ?_)
      rw [if_neg (by omega)] at e
      rw [if_pos k2, e2, hfr.2.2.2.1, e3] at h5
      have eo : op + nots A' - nots A' - 1 = op - 1 := by omega
      rw [eo] at h5
      refine kk e mem' fr5 ?_ (fun sl g hg => ?_)
      · rw [← List.append_assoc]
        exact h5
      · rw [if_neg (by omega)] at a4
        rw [← a3 sl g hg]
        by_cases x : g < f
        · rw [a1 sl g x]; exact hfr.1 sl g (by omega)
        · have : g = f := by omega
          rw [this]
          by_cases y : sl = 1
          · rw [y, a4]; exact hfr.1 1 f (by omega)
          · rw [a2 sl y]; exact hfr.1 sl f (by omega)
    by_cases hcl : tCod tb n s4 = 10041
    · have hsn4 : s4 < n := by
        have := tCod_rng hb hs4'.1
        omega
      have hnx4 := tNxt_rng (tb := tb) hsn4
      refine Or.inr ⟨tNxt tb n s4, C1 ++ C2, ⟨by omega, hnx4.2⟩, by rw [List.length_append]; omega, ?_, ?_, ?_⟩
      · intro m0 mem L Q h hL kk D hD
        refine cmid m0 mem L Q D h hL hD (fun m3 h3 => hco2 m0 m3 _ _ h3 ?_ (fun m4 h4 => ⟨by decide, fun q => absurd q (by decide), fun _ => h4.sign hz ?_ (by omega) (by decide) (fun _ m5 h5 => ⟨by decide, fun q => absurd q (by decide), fun _ => kk m5 ?_⟩) (fun e => absurd hcl e)⟩) D hD)
        · rw [List.length_append]; omega
        · rw [List.length_append, List.length_append]; omega
        · rw [List.append_assoc] at h5
          exact h5
      · intro m0 b E B f fr mem d Q h hd kk
        exact rend m0 b E B f fr mem d Q h hd (fun e => absurd hcl e) (fun _ => kk)
      · intro st hst
        have t1 := hty st (by omega)
        rw [tck_app C2 C1 t1]
        exact hty2 (false :: st) (by simp only [List.length_cons]; omega)
    · refine Or.inl ⟨1, tPlc tb n s4, by decide, tPlc_I hs4' hn.2, ?_, ?_⟩
      · intro m0 mem L Q h hL kk D hD
        refine cmid m0 mem L Q D h hL hD (fun m3 h3 => hco2 m0 m3 _ _ h3 ?_ (fun m4 h4 => ⟨by decide, fun q => absurd q (by decide), fun _ => h4.sign hz ?_ (by omega) (by decide) (fun e => absurd e hcl) (fun _ m5 h5 => ⟨by decide, fun _ => kk m5 h5, fun q => absurd rfl q⟩)⟩) D hD)
        · rw [List.length_append]; omega
        · rw [List.length_append, List.length_append]; omega
      · intro m0 b E B f fr mem d Q h hd kk
        exact rend m0 b E B f fr mem d Q h hd (fun _ => kk) (fun e => absurd e hcl)
  · refine Or.inl ⟨1, tPlc tb n s2, by decide, tPlc_I hs2' hn.2, ?_, ?_⟩
    · intro m0 mem L Q h hL kk D hD
      refine hco m0 mem L _ h hL (fun m2 h2 => ⟨by decide, fun q => absurd q (by decide), fun _ => h2.sign hz ?_ (by omega) (by decide) (fun e => absurd e hcm) (fun _ m3 h3 => ⟨by decide, fun _ => kk m3 h3, fun q => absurd rfl q⟩)⟩) D hD
      rw [List.length_append]; omega
    · intro m0 b E B f fr mem d Q h hd kk
      exact rmid m0 b E B f fr mem d Q h hd (fun _ => kk) (fun e => absurd e hcm)
/-- TEST , SUM , SUM ) -/
theorem n_iff (hz : ZX rf p tb n) (hg : zall rg zRK = true) {op s : Int} (ho : 1 ≤ op ∧ op ≤ 7) (hs : 0 ≤ s ∧ s ≤ n) (h0 : NTest X rf rg p tb n r op s) (ih : ∀ s1, s < s1 → s1 ≤ n → NI X rf rg p tb n r 3 op (crTail X rf op) ex1 (TyT r 2 op) s1) : NI X rf rg p tb n r 6 op (crIff X rf op) ex1 (fun C => ∀ st : List Bool, (st.length : Int) ≤ 5 * op → tck r C st = some (false :: false :: true :: st)) s := by
  have hb := hz.2.2.2.2.2.2
  have hn := hz.2.2.2.2.2.1
  rcases h0 with ⟨k, pc, hk, hpc, hcf, hrf⟩ | ⟨s2, C1, hs2, hC1, hco, hro, hty, hec⟩
  · refine Or.inl ⟨k, pc, hk, hpc, ?_, ?_⟩
    · intro m0 mem L Q h hL kk D hD
      exact hcf m0 mem L _ h hL (fun m2 hF => ⟨by decide, fun _ => kk m2 hF, fun q => absurd rfl q⟩) D hD
    · intro m0 b E B f fr mem d Q h hd kk
      exact hrf m0 b E [] B (f + 1) fr mem d Q (h.test (Or.inr rfl)) hd kk
  have hs2' : 0 ≤ s2 ∧ s2 ≤ n := by omega
  have rmid : ∀ (m0 : zF) (b : Int) (E : zC) (B : List Int) (f : Nat) (fr mem : zF) (d : Nat) (Q : zF → Prop), RI tb n r 6 op s m0 mem b E B f fr → 5 ≤ d → (tCod tb n s2 ≠ 10044 → ∀ mem', REF m0 mem' b 1 (tPlc tb n s2) → Q mem') → (tCod tb n s2 = 10044 → ∀ mem' fr', RI tb n r 3 op (tNxt tb n s2) m0 mem' b (E ++ C1) B f fr' → fr' 3 (f + 1) = fr 3 (f + 1) → (∀ sl g, g ≤ f → fr' sl g = fr sl g) → L_m_reads_43 X d rg Q mem' 1) → L_m_reads_43 X d rg Q mem 1 := by
    intro m0 b E B f fr mem d Q h hd kf kk
    refine hro m0 b E [] B (f + 1) fr mem d Q (h.test (Or.inr rfl)) hd (fun m2 E' A' fr' h2' hfr he => ?_)
    obtain ⟨hE2, ⟨c1, c2, c3, c4, c5, c6, c7, c8, c9⟩, hk2, hc1⟩ := h2'
    obtain ⟨i1, i2, i3, i4, i5, i6, i7, i8, i9, i10⟩ := h
    have k2 : fr' 0 (f + 1) = 6 := by rw [hfr.2.1]; exact i7
    have e2 : E' ++ zz A' = E ++ C1 := by
      rw [he]
      show E ++ [] ++ C1 = E ++ C1
      rw [List.append_nil]
    have lenE : (E'.length : Int) + A'.length = E.length + C1.length := by
      have := congrArg List.length e2
      simp only [List.length_append, zz_len] at this
      omega
    refine g_comma (A := A') (B := B) hg hb hn hd hE2 hs2' (by omega) (Or.inr k2) (fun _ => Or.inr ⟨hc1.1, hc1.2.1, hec.2.1, hec.2.2⟩) (fun a ha => ⟨(c8 a ha).1, by have := (c8 a ha).2; omega⟩) i3 (by rw [hfr.2.2.2]; exact i4) (by omega) (by omega) kf (fun e mem' h3 => ?_)
    have hsn : s2 < n := by
      have := tCod_rng hb hs2'.1
      omega
    have hnx := tNxt_rng (tb := tb) hsn
    rw [if_neg (by omega), e2] at h3
    have eo : op + nots A' - nots A' = op := by omega
    rw [eo] at h3
    refine kk e mem' _ ⟨h3, by omega, i3, ?_, i5, ?_, ?_, zup_at _ _ _ _, ?_, ?_⟩ ?_ (fun sl g hg => ?_)
    · rw [zup_row _ _ _ (by decide), zup_row _ _ _ (by decide), hfr.2.2.2]; exact i4
    · rw [List.length_append]; omega
    · rw [zup_row _ _ _ (by decide), zup_at]
    · rw [zup_row _ _ _ (by decide), zup_row _ _ _ (by decide)]; exact hc1.2.2
    · intro q
      unfold zts at q
      omega
    · rw [zup_row _ _ _ (by decide), zup_row _ _ _ (by decide), hfr.2.2.1]
    · rw [zup_ne _ _ _ _ (by omega), zup_ne _ _ _ _ (by omega)]
      exact hfr.1 sl g (by omega)
  by_cases hcm : tCod tb n s2 = 10044
  · have hsn : s2 < n := by
      have := tCod_rng hb hs2'.1
      omega
    have hnx := tNxt_rng (tb := tb) hsn
    rcases ih (tNxt tb n s2) (by omega) hnx.2 with ⟨k, pc, hk, hpc, hcf, hrf⟩ | ⟨s4, C2, hs4, hC2, hco2, hro2, hty2⟩
    · refine Or.inl ⟨k, pc, hk, hpc, ?_, ?_⟩
      · intro m0 mem L Q h hL kk D hD
        refine hco m0 mem L _ h hL (fun m2 h2 => ⟨by decide, fun q => absurd q (by decide), fun _ => h2.sign hz ?_ (by omega) (by decide) (fun _ m3 h3 => ⟨by decide, fun q => absurd q (by decide), fun _ => hcf m0 m3 _ Q h3 ?_ kk D (by omega)⟩) (fun e => absurd hcm e)⟩) D hD
        · rw [List.length_append]; omega
        · rw [List.length_append]; omega
      · intro m0 b E B f fr mem d Q h hd kk
        exact rmid m0 b E B f fr mem d Q h hd (fun e => absurd hcm e) (fun _ m3 fr3 h3 _ _ => hrf m0 b _ B f fr3 m3 d Q h3 hd kk)
    · refine Or.inr ⟨s4, C1 ++ C2, ⟨by omega, hs4.2⟩, by rw [List.length_append]; omega, ?_, ?_, ?_⟩
      · intro m0 mem L Q h hL kk D hD
        refine hco m0 mem L _ h hL (fun m2 h2 => ⟨by decide, fun q => absurd q (by decide), fun _ => h2.sign hz ?_ (by omega) (by decide) (fun _ m3 h3 => ⟨by decide, fun q => absurd q (by decide), fun _ => hco2 m0 m3 _ Q h3 ?_ (fun m4 h4 => kk m4 ?_) D (by omega)⟩) (fun e => absurd hcm e)⟩) D hD
        · rw [List.length_append]; omega
        · rw [List.length_append]; omega
        · rw [List.append_assoc] at h4
          exact h4
      · intro m0 b E B f fr mem d Q h hd kk
        refine rmid m0 b E B f fr mem d Q h hd (fun e => absurd hcm e) (fun _ m3 fr3 h3 e3 a3 => hro2 m0 b _ B f fr3 m3 d Q h3 hd (fun m4 fr4 h4 a4 => kk m4 fr4 ?_ (fun sl g hg => (a4 sl g hg).trans (a3 sl g hg))))
        have : ex1 fr3 f = ex1 fr f := by unfold ex1; rw [e3]
        rw [this, List.append_assoc E] at h4
        exact h4
      · intro st hst
        have t1 := hty st (by omega)
        rw [tck_app C2 C1 t1]
        exact hty2 (true :: st) (by simp only [List.length_cons]; omega)
  · refine Or.inl ⟨1, tPlc tb n s2, by decide, tPlc_I hs2' hn.2, ?_, ?_⟩
    · intro m0 mem L Q h hL kk D hD
      refine hco m0 mem L _ h hL (fun m2 h2 => ⟨by decide, fun q => absurd q (by decide), fun _ => h2.sign hz ?_ (by omega) (by decide) (fun e => absurd e hcm) (fun _ m3 h3 => ⟨by decide, fun _ => kk m3 h3, fun q => absurd rfl q⟩)⟩) D hD
      rw [List.length_append]; omega
    · intro m0 b E B f fr mem d Q h hd kk
      exact rmid m0 b E B f fr mem d Q h hd (fun _ => kk) (fun e => absurd e hcm)
end BRACK
