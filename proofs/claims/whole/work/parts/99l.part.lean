/-! PART -/
section CPART
variable {X : zX} {rf rg m0 mem : zF} {p D : Nat} {tb : Nat → Int} {n r s : Int} {L : zC}
theorem CE.qcode {Q : Int → zF → Prop} (hz : ZX rf p tb n) (hr : 0 ≤ r ∧ r ≤ 2) (h : CE m0 mem p tb n r s L) (kk : Q (- qsort (tCod tb n s) r) mem) : Ci X D 52 [(2, 3)] rf mem Q := by
  have hI := tCod_I hz.2.2.2.2.2.2 (h.sr hz).1
  have hrI : inI r := by omega
  refine s_parser_qualityCode hz.1 hz.2.1 hz.2.2.1 ?_
  rw [h.1.c, h.2.2.1.1]
  unfold qsort at kk
  generalize tCod tb n s = c at kk hI ⊢
  refine ⟨hI, fun e => ⟨hrI, fun q => ?_, fun q => ?_⟩, fun e => ?_, fun e => ?_, fun e => ?_, fun e => ?_, fun e => ?_, fun e => ?_, fun e => ?_, fun e => ?_, fun e => ⟨hrI, fun q => ?_, fun q => ?_⟩, fun e => ⟨hrI, fun q => ?_, fun q => ?_⟩, fun e => ?_⟩
  · rwa [if_neg (by omega), if_neg (by omega), if_neg (by omega), if_neg (by omega), if_neg (by omega), if_neg (by omega)] at kk
  · rwa [if_neg (by omega), if_neg (by omega), if_neg (by omega), if_neg (by omega), if_pos (by omega)] at kk
  · rwa [if_neg (by omega), if_neg (by omega), if_neg (by omega), if_neg (by omega), if_neg (by omega), if_neg (by omega)] at kk
  · rwa [if_pos (by omega)] at kk
  · rwa [if_neg (by omega), if_pos (by omega)] at kk
  · rwa [if_neg (by omega), if_neg (by omega), if_neg (by omega), if_neg (by omega), if_neg (by omega), if_neg (by omega)] at kk
  · rwa [if_neg (by omega), if_neg (by omega), if_neg (by omega), if_neg (by omega), if_neg (by omega), if_neg (by omega)] at kk
  · rwa [if_neg (by omega), if_neg (by omega), if_neg (by omega), if_neg (by omega), if_neg (by omega), if_neg (by omega)] at kk
  · rwa [if_neg (by omega), if_neg (by omega), if_neg (by omega), if_neg (by omega), if_neg (by omega), if_neg (by omega)] at kk
  · rwa [if_neg (by omega), if_neg (by omega), if_pos (by omega)] at kk
  · rwa [if_neg (by omega), if_neg (by omega), if_neg (by omega), if_neg (by omega), if_neg (by omega), if_neg (by omega)] at kk
  · rwa [if_neg (by omega), if_neg (by omega), if_neg (by omega), if_pos (by omega)] at kk
  · rwa [if_neg (by omega), if_neg (by omega), if_neg (by omega), if_neg (by omega), if_neg (by omega), if_neg (by omega)] at kk
  · rwa [if_neg (by omega), if_neg (by omega), if_neg (by omega), if_neg (by omega), if_neg (by omega), if_pos (by omega)] at kk
  · rwa [if_neg (by omega), if_neg (by omega), if_neg (by omega), if_neg (by omega), if_neg (by omega), if_neg (by omega)] at kk
theorem qsort_rng (c r : Int) : 0 ≤ qsort c r ∧ qsort c r ≤ 6 ∧ (qsort c r ≠ 0 → (20009 ≤ c ∧ c ≤ 20019) ∧ (qsort c r ≤ 3 ∨ qsort c r = r + 4)) := by
  unfold qsort
  split
  · omega
  · split
    · omega
    · split
      · omega
      · split
        · omega
        · split
          · omega
          · split <;> omega
theorem CE.quality {Q : Int → zF → Prop} (hz : ZX rf p tb n) (hr : 0 ≤ r ∧ r ≤ 2) (h : CE m0 mem p tb n r s L) (hl : (L.length : Int) ≤ s) (hD : 1 ≤ D) (kf : qsort (tCod tb n s) r = 0 → ∀ mem', CEF m0 mem' p 1 (tPlc tb n s) → Q 0 mem') (kq : qsort (tCod tb n s) r ≠ 0 → ∀ mem', CE m0 mem' p tb n r (tNxt tb n s) (L ++ [(qsort (tCod tb n s) r, 0)]) → Q 1 mem') : Ci X D 51 [(2, 3)] rf mem Q := by
  obtain ⟨d, rfl⟩ : ∃ d, D = d + 1 := ⟨D - 1, by omega⟩
  have hs := h.sr hz
  have hn := hz.2.2.2.2.2.1
  have hq := qsort_rng (tCod tb n s) r
  have hrg := tCod_rng hz.2.2.2.2.2.2 hs.1
  refine s_parser_readQuality hz.1 hz.2.1 hz.2.2.1 (h.qcode hz hr ⟨by omega, fun q => ?_, fun q => ?_⟩)
  · have q1 : qsort (tCod tb n s) r ≠ 0 := by omega
    have q2 := hq.2.2 q1
    refine h.add hz (qsort (tCod tb n s) r, 0) ?_ (by omega) (fun m2 h2 => h2.next hz (by omega) (by omega) (kq q1))
    show zcm (qsort (tCod tb n s) r) 0 = - qsort (tCod tb n s) r
    unfold zcm
    rw [if_neg q1, if_pos (by omega)]
  · exact h.refuse hz (by omega) (fun m2 h2 => ⟨Or.inl rfl, kf (by omega) m2 h2⟩)
end CPART
section PART
variable {X : zX} {rf rg : zF} {p : Nat} {tb : Nat → Int} {n r : Int}
theorem ztc_num {r v : Int} {st : List Bool} (hv : 0 ≤ v ∧ v < 10000) (hl : st.length < 60) : ztc r 0 v st = some (false :: st) := by
  unfold ztc
  rw [if_pos rfl, if_pos ⟨hv.1, hv.2, hl⟩]
theorem ztc_qu {r v : Int} {st : List Bool} (hv : 1 ≤ v ∧ v ≤ 6) (h2 : v ≤ 3 ∨ v = r + 4) (hl : st.length < 60) : ztc r v 0 st = some (false :: st) := by
  unfold ztc
  rw [if_neg (by omega), if_pos hv, if_pos ⟨h2, hl⟩]
theorem ztc_ch {r : Int} {st : List Bool} : ztc r 44 0 (false :: false :: true :: st) = some (false :: st) := by
  unfold ztc
  rw [if_neg (by decide), if_neg (by decide), if_neg (by decide), if_neg (by decide), if_pos rfl]
theorem n_Part (hz : ZX rf p tb n) (hg : zall rg zRK = true) (hr : 0 ≤ r ∧ r ≤ 2) {op s : Int} (ho : 0 ≤ op ∧ op ≤ 7) (hs : 0 ≤ s ∧ s ≤ n) (ihS : ∀ s1, s < s1 → s1 ≤ n → op < 7 → NSum X rf rg p tb n r (op + 1) s1) (ihT : ∀ s1, s < s1 → s1 ≤ n → op < 7 → NTest X rf rg p tb n r (op + 1) s1) : NPart X rf rg p tb n r op s := by
  have hb := hz.2.2.2.2.2.2
  have hn := hz.2.2.2.2.2.1
  have hrg := tCod_rng hb hs.1
  -- the reference comes to the operand
  have rpre : ∀ (m0 : zF) (b : Int) (E : zC) (A B : List Int) (f : Nat) (fr mem : zF) (d : Nat) (Q : zF → Prop), RS0 tb n r 7 5 op s (cS tb n s) m0 mem b E A B f fr → 4 ≤ d → tCod tb n s ≠ -1 → (∀ mem', A = [] → (f : Int) ≤ op → (∀ x ∈ B, 31 ≤ x ∧ x ≤ 43) → (B.length : Int) ≤ 5 * op + 5 → (E.length : Int) + B.length ≤ s → RE m0 mem' tb n b r s E B f op (zup fr 2 f 0) 0 → L_m_operand_171 X d rg (fun r m => (r = 0 ∨ r = 1) ∧ ((1 ≤ m 261 8 ∧ m 261 8 ≤ 6 ∧ Q (zup m 261 49 r)) ∨ (m 261 8 = 0 ∧ L_m_reads_43 X (d + 1) rg Q (zup m 261 49 r) 1))) mem') → L_m_reads_43 X (d + 1) rg Q mem 1 := by
    intro m0 b E A B f fr mem d Q ⟨e, hE, ⟨b1, b2, b3, b4, b5, b6, b7, b8, b9⟩, hk, hc⟩ hd hcb kk
    subst e
    have e0 : op + nots [] = op := by show op + 0 = op; omega
    rw [e0] at hE
    refine rd_op hg hE.2.2.2.2.2.1.2.2 (o_pre hg hb hn hd hE hs (by omega) hk hcb hc (fun mem' h' => kk mem' rfl b1 b3 b6 ?_ h'))
    simp only [List.length_nil] at b7
    omega
  have rpost : ∀ (m0 : zF) (b : Int) (E C : zC) (A B : List Int) (f : Nat) (fr fr' mem mem' : zF) (s' : Int), RS0 tb n r 7 5 op s (cS tb n s) m0 mem b E A B f fr → (C.length : Int) ≤ s' - s → RE m0 mem' tb n b r s' (E ++ C) B f op fr' 1 → (∀ sl g, g ≤ f → fr' sl g = (zup fr 2 f 0) sl g) → RSx tb n r 1 7 5 op s' cS1 m0 mem' b (E ++ C) [] B f fr' ∧ FRs fr fr' f := by
    intro m0 b E C A B f fr fr' mem mem' s' ⟨e, hE, ⟨b1, b2, b3, b4, b5, b6, b7, b8, b9⟩, hk, hc⟩ hl h' hfr
    subst e
    have e0 : op + nots [] = op := by show op + 0 = op; omega
    have g : ∀ sl, sl ≠ 2 → fr' sl f = fr sl f := fun sl hsl => by rw [hfr sl f (Nat.le_refl _), zup_row _ _ _ hsl]
    refine ⟨⟨?_, ⟨b1, b2, b3, by rw [g 4 (by decide)]; exact b4, ?_, b6, ?_, ?_, ?_⟩, by rw [g 0 (by decide)]; exact hk, by rw [g 1 (by decide)]; exact hc.1, by rw [hfr 2 f (Nat.le_refl _), zup_at]⟩, fun sl g1 hg => ?_, g 0 (by decide), g 1 (by decide), g 3 (by decide), g 4 (by decide)⟩
    · rw [e0]; exact h'
    · rw [g 4 (by decide)]; exact b5
    · rw [List.length_append]
      simp only [List.length_nil] at b7 ⊢
      omega
    · intro a ha
      cases ha
    · simp only [List.length_nil]; omega
    · rw [hfr sl g1 (by omega), zup_ne _ _ _ _ (by omega)]
  -- how the program's call begins
  have cbeg : ∀ (m0 mem : zF) (L : zC) (Q : Int → zF → Prop) (d : Nat), CE m0 mem p tb n r s L → (L.length : Int) ≤ s → ¬ (0 ≤ tCod tb n s ∧ tCod tb n s < 10000) → tCod tb n s ≠ 10040 → (tCod tb n s = 20020 → Ci X d 50 [(2, 3), (0, op)] rf mem (fun r7 mem8 => (r7 = 0 ∨ r7 = 1) ∧ Q r7 mem8)) → (tCod tb n s = 20025 → Ci X d 49 [(2, 3), (0, (-12)), (0, op)] rf mem (fun r7 mem8 => (r7 = 0 ∨ r7 = 1) ∧ Q r7 mem8)) → (tCod tb n s = 20026 → Ci X d 49 [(2, 3), (0, (-13)), (0, op)] rf mem (fun r7 mem8 => (r7 = 0 ∨ r7 = 1) ∧ Q r7 mem8)) → (tCod tb n s ≠ 20020 ∧ tCod tb n s ≠ 20025 ∧ tCod tb n s ≠ 20026 → Ci X d 51 [(2, 3)] rf mem (fun r7 mem8 => (r7 = 0 ∨ r7 = 1) ∧ Q r7 mem8)) → Ci X (d + 1) 47 [(2, 3), (0, op)] rf mem Q := by
    intro m0 mem L Q d h hL n1 n2 k1 k2 k3 k4
    refine s_parser_readPart hz.1 hz.2.1 hz.2.2.1 (h.isNum hz (fun a c => absurd ⟨a, c⟩ n1) (fun _ => ⟨by decide, fun _ => h.isSign hz (by decide) (fun e => absurd e n2) (fun _ => ⟨by decide, fun _ => ?_, fun q => absurd rfl q⟩), fun q => absurd rfl q⟩))
    rw [h.1.c]
    exact ⟨tCod_I hb hs.1, k1, k2, k3, k4⟩
  by_cases hcb : tCod tb n s = -1
  · refine Or.inl ⟨1, tPlc tb n s, by decide, tPlc_I hs hn.2, ?_, ?_⟩
    · intro m0 mem L Q h hL kk D hD
      obtain ⟨d, rfl⟩ : ∃ d, D = d + 1 := ⟨D - 1, by omega⟩
      refine cbeg m0 mem L Q d h hL (by omega) (by omega) (fun e => absurd e (by omega)) (fun e => absurd e (by omega)) (fun e => absurd e (by omega)) (fun _ => h.quality hz hr hL (by omega) (fun _ m2 h2 => ⟨Or.inl rfl, kk m2 h2⟩) (fun q => ?_))
      have := (qsort_rng (tCod tb n s) r).2.2 q
      omega
    · intro m0 b E A B f fr mem d Q ⟨e, hE, _⟩ hd kk
      exact o_bad hg hb hn hd hE hs hcb kk
  by_cases hpn : tCod tb n s = 10040
  · -- a bracket
    have hsn : s < n := by omega
    have hnx := tNxt_rng (tb := tb) hsn
    have cop : ∀ (m0 mem : zF) (L : zC) (Q : Int → zF → Prop) (d : Nat), CE m0 mem p tb n r s L → (L.length : Int) ≤ s → 2 ≤ d → (op = 7 → ∀ mem', CEF m0 mem' p 5 (tPlc tb n s) → Q 0 mem') → (op < 7 → ∀ mem', CE m0 mem' p tb n r (tNxt tb n s) L → Ci X d 43 [(2, 3), (0, (op + 1))] rf mem' (fun r mem => inI r ∧ ((r = 0 → Q 0 mem) ∧ (¬ r = 0 → Ci X d 36 [(2, 3), (0, 41)] rf mem (fun r mem => inI r ∧ ((r = 0 → Q 0 mem) ∧ (¬ r = 0 → Q 1 mem))))))) → Ci X (d + 1) 47 [(2, 3), (0, op)] rf mem Q := by
      intro m0 mem L Q d h hL hd k5 kk
      refine s_parser_readPart hz.1 hz.2.1 hz.2.2.1 (h.isNum hz (fun a c => absurd c (by omega)) (fun _ => ⟨by decide, fun _ => h.isSign hz (by decide) (fun e => ⟨by decide, fun q => absurd q (by decide), fun _ => ?_⟩) (fun e => absurd hpn e), fun q => absurd rfl q⟩))
      exact h.opening hz (by omega) hd (by decide) ho (fun _ o6 m2 h2 => ⟨by decide, fun q => absurd q (by decide), fun _ => kk o6 m2 h2⟩) (fun _ o7 m2 h2 => ⟨by decide, fun _ => k5 o7 m2 h2, fun q => absurd rfl q⟩) (fun e => absurd hpn e)
    have rop : ∀ (m0 : zF) (b : Int) (E : zC) (A B : List Int) (f : Nat) (fr mem : zF) (d : Nat) (Q : zF → Prop), RS0 tb n r 7 5 op s (cS tb n s) m0 mem b E A B f fr → 5 ≤ d → (op = 7 → ∀ mem', REF m0 mem' b 5 (tPlc tb n s) → Q mem') → (op < 7 → ∀ mem' fr', RI tb n r 2 (op + 1) (tNxt tb n s) m0 mem' b E B f fr' → (∀ sl g, g ≤ f → fr' sl g = (zup fr 2 f 0) sl g) → L_m_reads_43 X d rg Q mem' 1) → L_m_reads_43 X d rg Q mem 1 := by
      intro m0 b E A B f fr mem d Q h hd k5 kk
      obtain ⟨d, rfl⟩ : ∃ e, d = e + 1 := ⟨d - 1, by omega⟩
      refine rpre m0 b E A B f fr mem d Q h (by omega) hcb (fun mem' eA b1 b3 b6 b7 h' => ?_)
      refine s_m_operand_171 hg (t_isSign hg hb hs h'.1 hcb (by decide) (fun _ => ⟨by decide, fun q => absurd q (by decide), fun _ => ?_⟩) (fun e => absurd hpn e))
      refine h'.opens hg hb hn (by omega) hs (by omega) ho (fun o7 => ⟨Or.inl rfl, Or.inl ?_⟩) (fun o6 m3 fr3 h3 a1 a2 a3 a4 a5 => ⟨Or.inl rfl, Or.inr ⟨h3.1.2.2.2, kk o6 _ fr3 ⟨h3.qq, by omega, b3, a5, by omega, by omega, a2, a3, by rw [a4]; decide, fun q => ?_⟩ a1⟩⟩)
      · rw [zflt_8]
        refine ⟨by decide, by decide, k5 o7 _ ?_⟩
        rw [tPlc_s hcb]
        exact (h'.flt hs hn.2).up49
      · unfold zts at q
        omega
    by_cases o7 : op = 7
    · refine Or.inl ⟨5, tPlc tb n s, by decide, tPlc_I hs hn.2, ?_, ?_⟩
      · intro m0 mem L Q h hL kk D hD
        obtain ⟨d, rfl⟩ : ∃ d, D = d + 1 := ⟨D - 1, by omega⟩
        exact cop m0 mem L Q d h hL (by omega) (fun _ => kk) (fun q => absurd q (by omega))
      · intro m0 b E A B f fr mem d Q h hd kk
        exact rop m0 b E A B f fr mem d Q h hd (fun _ => kk) (fun q => absurd q (by omega))
    · rcases n_paren hz hg (op := op + 1) (by omega) (by omega) (ihS (tNxt tb n s) (by omega) hnx.2 (by omega)) with ⟨k, pc, hk, hpc, hcf, hrf⟩ | ⟨s2, C1, hs2, hC1, hco, hro, hty⟩
      · refine Or.inl ⟨k, pc, hk, hpc, ?_, ?_⟩
        · intro m0 mem L Q h hL kk D hD
          obtain ⟨d, rfl⟩ : ∃ d, D = d + 1 := ⟨D - 1, by omega⟩
          exact cop m0 mem L Q d h hL (by omega) (fun q => absurd q o7) (fun _ m2 h2 => hcf m0 m2 L Q h2 (by omega) kk d (by omega))
        · intro m0 b E A B f fr mem d Q h hd kk
          exact rop m0 b E A B f fr mem d Q h hd (fun q => absurd q o7) (fun _ m2 fr2 h2 _ => hrf m0 b E B f fr2 m2 d Q h2 hd kk)
      · refine Or.inr ⟨s2, C1, ⟨by omega, hs2.2⟩, by omega, ?_, ?_, ?_, by omega⟩
        · intro m0 mem L Q h hL kk D hD
          obtain ⟨d, rfl⟩ : ∃ d, D = d + 1 := ⟨D - 1, by omega⟩
          exact cop m0 mem L Q d h hL (by omega) (fun q => absurd q o7) (fun _ m2 h2 => hco m0 m2 L Q h2 (by omega) kk d (by omega))
        · intro m0 b E A B f fr mem d Q h hd kk
          refine rop m0 b E A B f fr mem d Q h hd (fun q => absurd q o7) (fun _ m2 fr2 h2 a2 => hro m0 b E B f fr2 m2 d Q h2 hd (fun m3 fr3 h3 a3 => ?_))
          have e0 : op + 1 - 1 = op := by omega
          have h3 : RE m0 m3 tb n b r s2 (E ++ C1 ++ []) B f (op + 1 - 1) fr3 1 := h3
          rw [e0, List.append_nil] at h3
          have hp := rpost m0 b E C1 A B f fr fr3 mem m3 s2 h (by omega) h3 (fun sl g hg => (a3 sl g hg).trans (a2 sl g hg))
          refine kk m3 (E ++ C1) [] fr3 hp.1 hp.2 ?_
          rw [h.1]
          show E ++ C1 ++ [] = E ++ [] ++ C1
          rw [List.append_nil, List.append_nil]
        · intro st hst
          exact hty st (by omega)
  by_cases hmn : tCod tb n s = 20025 ∨ tCod tb n s = 20026 ∨ tCod tb n s = 20020
  · -- min max if
    have hsn : s < n := by omega
    have hnx := tNxt_rng (tb := tb) hsn
    have hs1 : 0 ≤ tNxt tb n s ∧ tNxt tb n s ≤ n := by omega
    obtain ⟨w, kd, hw⟩ : ∃ w kd : Int, (tCod tb n s = 20025 ∧ w = 36 ∧ kd = 3) ∨ (tCod tb n s = 20026 ∧ w = 37 ∧ kd = 3) ∨ (tCod tb n s = 20020 ∧ w = 44 ∧ kd = 6) := by
      rcases hmn with e | e | e
      · exact ⟨36, 3, Or.inl ⟨e, rfl, rfl⟩⟩
      · exact ⟨37, 3, Or.inr (Or.inl ⟨e, rfl, rfl⟩)⟩
      · exact ⟨44, 6, Or.inr (Or.inr ⟨e, rfl, rfl⟩)⟩
    -- the program: behind the word; crI is what stands in the brackets
    have cop : ∀ (m0 mem : zF) (L : zC) (Q : Int → zF → Prop) (D : Nat), CE m0 mem p tb n r s L → (L.length : Int) ≤ s → 8 * (7 - op) + 5 ≤ (D : Int) → (tCod tb n (tNxt tb n s) ≠ 10040 → ∀ mem', CEF m0 mem' p 1 (tPlc tb n (tNxt tb n s)) → Q 0 mem') → (tCod tb n (tNxt tb n s) = 10040 → op = 7 → ∀ mem', CEF m0 mem' p 5 (tPlc tb n (tNxt tb n s)) → Q 0 mem') → (tCod tb n (tNxt tb n s) = 10040 → op < 7 → ∀ (mem' : zF), CE m0 mem' p tb n r (tNxt tb n (tNxt tb n s)) L → (if kd = 3 then crTail X rf (op + 1) else crIff X rf (op + 1)) mem' (fun v m => ∀ d : Nat, Cv X d 77 [(2, ((p + 9 : Nat) : Int)), (0, 24 - w)] rf m (fun m2 => (v = 0 ∨ v = 1) ∧ Q v m2))) → Ci X D 47 [(2, 3), (0, op)] rf mem Q := by
      intro m0 mem L Q D h hL hD kf k5 kk
      obtain ⟨d, rfl⟩ : ∃ d, D = d + 2 := ⟨D - 2, by omega⟩
      have pairs : (kd = 3) → ∀ w1 : Int, w1 = 24 - w → Ci X (d + 1) 49 [(2, 3), (0, w1), (0, op)] rf mem (fun r7 mem8 => (r7 = 0 ∨ r7 = 1) ∧ Q r7 mem8) := by
        intro ek w1 ew
        refine s_parser_readPair hz.1 hz.2.1 hz.2.2.1 (h.next hz hsn hcb (fun m2 h2 => h2.opening hz (by omega) (by omega) (by decide) ho (fun e o6 m3 h3 => ⟨by decide, fun q => absurd q (by decide), fun _ => ?_⟩) (fun e o7 m3 h3 => ⟨by decide, fun _ => ?_, fun q => absurd rfl q⟩) (fun e m3 h3 => ⟨by decide, fun _ => ?_, fun q => absurd rfl q⟩)))
        · have h4 := kk e o6 m3 h3
          rw [if_pos ek] at h4
          have h5 := h4 d (by omega)
          have conv : ∀ (v : Int) (m : zF), (∀ d : Nat, Cv X d 77 [(2, ((p + 9 : Nat) : Int)), (0, 24 - w)] rf m (fun m2 => (v = 0 ∨ v = 1) ∧ Q v m2)) → L_parser_readPair_60 X d rf (fun r7 mem8 => (r7 = 0 ∨ r7 = 1) ∧ Q r7 mem8) m p w1 v := by
            intro v m hm
            refine s_parser_readPair_60 hz.1 hz.2.1 hz.2.2.1 ?_
            rw [ew]
            exact Cv.imp (hm d) (fun m2 hq => ⟨hq.1, hq⟩)
          refine Ci.imp h5 (fun v m hq => ⟨hq.1, fun z => conv 0 m (hq.2.1 z), fun z => Ci.imp (hq.2.2 z) (fun v m hq => ⟨hq.1, fun z => conv 0 m (hq.2.1 z), fun z => Ci.imp (hq.2.2 z) (fun v m hq => ⟨hq.1, fun z => conv 0 m (hq.2.1 z), fun z => Ci.imp (hq.2.2 z) (fun v m hq => ⟨hq.1, fun z => conv 0 m (hq.2.1 z), fun z => conv 1 m (hq.2.2 z)⟩)⟩)⟩)⟩)
        · exact s_parser_readPair_60 hz.1 hz.2.1 hz.2.2.1 (h3.add hz (fun m4 h4 => ⟨Or.inl rfl, Or.inl rfl, k5 e o7 m4 h4⟩))
        · exact s_parser_readPair_60 hz.1 hz.2.1 hz.2.2.1 (h3.add hz (fun m4 h4 => ⟨Or.inl rfl, Or.inl rfl, kf e m4 h4⟩))
      refine cbeg m0 mem L Q (d + 1) h hL (by omega) hpn (fun e => ?_) (fun e => pairs (by omega) _ (by omega)) (fun e => pairs (by omega) _ (by omega)) (fun e => absurd hmn (by omega))
      have ek : ¬ kd = 3 := by omega
      have ew : w = 44 := by omega
      refine s_parser_readChoice hz.1 hz.2.1 hz.2.2.1 (h.next hz hsn hcb (fun m2 h2 => h2.opening hz (by omega) (by omega) (by decide) ho (fun e o6 m3 h3 => ⟨by decide, fun q => absurd q (by decide), fun _ => ?_⟩) (fun e o7 m3 h3 => ⟨by decide, fun _ => ?_, fun q => absurd rfl q⟩) (fun e m3 h3 => ⟨by decide, fun _ => ?_, fun q => absurd rfl q⟩)))
      · have h4 := kk e o6 m3 h3
        rw [if_neg ek] at h4
        have h5 := h4 d (by omega)
        have conv : ∀ (v : Int) (m : zF), (∀ d : Nat, Cv X d 77 [(2, ((p + 9 : Nat) : Int)), (0, 24 - w)] rf m (fun m2 => (v = 0 ∨ v = 1) ∧ Q v m2)) → L_parser_readChoice_79 X d rf (fun r7 mem8 => (r7 = 0 ∨ r7 = 1) ∧ Q r7 mem8) m p v := by
          intro v m hm
          refine s_parser_readChoice_79 hz.1 hz.2.1 hz.2.2.1 ?_
          rw [ew] at hm
          exact Cv.imp (hm d) (fun m2 hq => ⟨hq.1, hq⟩)
        refine Ci.imp h5 (fun v m hq => ⟨hq.1, fun z => conv 0 m (hq.2.1 z), fun z => Ci.imp (hq.2.2 z) (fun v m hq => ⟨hq.1, fun z => conv 0 m (hq.2.1 z), fun z => Ci.imp (hq.2.2 z) (fun v m hq => ⟨hq.1, fun z => conv 0 m (hq.2.1 z), fun z => Ci.imp (hq.2.2 z) (fun v m hq => ⟨hq.1, fun z => conv 0 m (hq.2.1 z), fun z => Ci.imp (hq.2.2 z) (fun v m hq => ⟨hq.1, fun z => conv 0 m (hq.2.1 z), fun z => Ci.imp (hq.2.2 z) (fun v m hq => ⟨hq.1, fun z => conv 0 m (hq.2.1 z), fun z => conv 1 m (hq.2.2 z)⟩)⟩)⟩)⟩)⟩)⟩)
      · exact s_parser_readChoice_79 hz.1 hz.2.1 hz.2.2.1 (h3.add hz (fun m4 h4 => ⟨Or.inl rfl, Or.inl rfl, k5 e o7 m4 h4⟩))
      · exact s_parser_readChoice_79 hz.1 hz.2.1 hz.2.2.1 (h3.add hz (fun m4 h4 => ⟨Or.inl rfl, Or.inl rfl, kf e m4 h4⟩))
    have rop : ∀ (m0 : zF) (b : Int) (E : zC) (A B : List Int) (f : Nat) (fr mem : zF) (d : Nat) (Q : zF → Prop), RS0 tb n r 7 5 op s (cS tb n s) m0 mem b E A B f fr → 5 ≤ d → (tCod tb n (tNxt tb n s) ≠ 10040 → ∀ mem', REF m0 mem' b 1 (tPlc tb n (tNxt tb n s)) → Q mem') → (tCod tb n (tNxt tb n s) = 10040 → op = 7 → ∀ mem', REF m0 mem' b 5 (tPlc tb n (tNxt tb n s)) → Q mem') → (tCod tb n (tNxt tb n s) = 10040 → op < 7 → ∀ mem' fr', RI tb n r kd (op + 1) (tNxt tb n (tNxt tb n s)) m0 mem' b E B f fr' → fr' 3 (f + 1) = w → (∀ sl g, g ≤ f → fr' sl g = (zup fr 2 f 0) sl g) → L_m_reads_43 X d rg Q mem' 1) → L_m_reads_43 X d rg Q mem 1 := by
      intro m0 b E A B f fr mem d Q h hd kf k5 kk
      obtain ⟨d, rfl⟩ : ∃ e, d = e + 1 := ⟨d - 1, by omega⟩
      refine rpre m0 b E A B f fr mem d Q h (by omega) hcb (fun mem' eA b1 b3 b6 b7 h' => ?_)
      refine o_pair hg hb hn (by omega) h' ⟨hs.1, hsn⟩ (by omega) ho hw kf k5 (fun e o6 m3 fr3 h3 a1 a2 a3 a4 a5 a6 => kk e o6 m3 fr3 ⟨h3, by omega, b3, a6, by omega, ?_, a2, a3, by rw [a4]; decide, fun _ => a4⟩ a5 a1)
      have e2 : tNxt tb n s < n := by
        have := tCod_rng hb hs1.1
        omega
      have := tNxt_rng (tb := tb) e2
      omega
    by_cases hq : tCod tb n (tNxt tb n s) = 10040
    · by_cases o7 : op = 7
      · refine Or.inl ⟨5, tPlc tb n (tNxt tb n s), by decide, tPlc_I hs1 hn.2, ?_, ?_⟩
        · intro m0 mem L Q h hL kk D hD
          exact cop m0 mem L Q D h hL hD (fun e => absurd hq e) (fun _ _ => kk) (fun _ q => absurd q (by omega))
        · intro m0 b E A B f fr mem d Q h hd kk
          exact rop m0 b E A B f fr mem d Q h hd (fun e => absurd hq e) (fun _ _ => kk) (fun _ q => absurd q (by omega))
      · have e2 : tNxt tb n s < n := by
          have := tCod_rng hb hs1.1
          omega
        have hn2 := tNxt_rng (tb := tb) e2
        have ni : NI X rf rg p tb n r kd (op + 1) (if kd = 3 then crTail X rf (op + 1) else crIff X rf (op + 1)) ex1 (fun C => ∀ st : List Bool, (st.length : Int) ≤ 5 * (op + 1) → tck r (C ++ [(w, 0)]) st = some (false :: st)) (tNxt tb n (tNxt tb n s)) := by
          have tail : ∀ s1, s < s1 → s1 ≤ n → NI X rf rg p tb n r 3 (op + 1) (crTail X rf (op + 1)) ex1 (TyT r 2 (op + 1)) s1 := fun s1 a b => n_tail hz hg (by omega) (by omega) (ihS s1 a b (by omega)) (fun s2 c d => ihS s2 (by omega) d (by omega))
          by_cases ek : kd = 3
          · rw [if_pos ek, ek]
            rcases tail _ (show s < tNxt tb n (tNxt tb n s) by omega) hn2.2 with x | ⟨s2, C1, hs2, hC1, hco, hro, hty⟩
            · exact Or.inl x
            · refine Or.inr ⟨s2, C1, hs2, hC1, hco, hro, fun st hst => ?_⟩
              rw [tck_app [(w, 0)] C1 (hty st (by omega))]
              exact tck_one (ztc_ar (by omega) st)
          · have ek6 : kd = 6 := by omega
            rw [if_neg ek, ek6]
            rcases n_iff hz hg (op := op + 1) (by omega) (by omega) (ihT _ (show s < tNxt tb n (tNxt tb n s) by omega) hn2.2 (by omega)) (fun s1 a b => tail s1 (by omega) b) with x | ⟨s2, C1, hs2, hC1, hco, hro, hty⟩
            · exact Or.inl x
            · refine Or.inr ⟨s2, C1, hs2, hC1, hco, hro, fun st hst => ?_⟩
              have ew : w = 44 := by omega
              rw [tck_app [(w, 0)] C1 (hty st hst), ew]
              exact tck_one ztc_ch
        rcases ni with ⟨k, pc, hk, hpc, hcf, hrf⟩ | ⟨s2, C1, hs2, hC1, hco, hro, hty⟩
        · refine Or.inl ⟨k, pc, hk, hpc, ?_, ?_⟩
          · intro m0 mem L Q h hL kk D hD
            exact cop m0 mem L Q D h hL hD (fun e => absurd hq e) (fun _ e => absurd e o7) (fun _ _ m2 h2 => hcf m0 m2 L _ h2 (by omega) (fun m3 h3 d => h3.add hz (fun m4 h4 => ⟨Or.inl rfl, kk m4 h4⟩)))
          · intro m0 b E A B f fr mem d Q h hd kk
            exact rop m0 b E A B f fr mem d Q h hd (fun e => absurd hq e) (fun _ e => absurd e o7) (fun _ _ m2 fr2 h2 _ _ => hrf m0 b E B f fr2 m2 d Q h2 hd kk)
        · refine Or.inr ⟨s2, C1 ++ [(w, 0)], ⟨by omega, hs2.2⟩, ?_, ?_, ?_, ?_, by omega⟩
          · rw [List.length_append]
            simp only [List.length_cons, List.length_nil]
            omega
          · intro m0 mem L Q h hL kk D hD
            refine cop m0 mem L Q D h hL hD (fun e => absurd hq e) (fun _ e => absurd e o7) (fun _ _ m2 h2 => hco m0 m2 L _ h2 (by omega) (fun m3 h3 d => h3.add hz (w, 0) (zcm_op (by omega)) ?_ (fun m4 h4 => ⟨Or.inr rfl, kk m4 ?_⟩)))
            · rw [List.length_append]; omega
            · rw [List.append_assoc] at h4
              exact h4
          · intro m0 b E A B f fr mem d Q h hd kk
            refine rop m0 b E A B f fr mem d Q h hd (fun e => absurd hq e) (fun _ e => absurd e o7) (fun _ _ m2 fr2 h2 ew a2 => hro m0 b E B f fr2 m2 d Q h2 hd (fun m3 fr3 h3 a3 => ?_))
            have e0 : op + 1 - 1 = op := by omega
            have ex : ex1 fr2 f = [(w, 0)] := by unfold ex1; rw [ew]
            rw [e0, ex, List.append_assoc] at h3
            have hp := rpost m0 b E (C1 ++ [(w, 0)]) A B f fr fr3 mem m3 s2 h (by rw [List.length_append]; simp only [List.length_cons, List.length_nil]; omega) h3 (fun sl g hg => (a3 sl g hg).trans (a2 sl g hg))
            refine kk m3 _ [] fr3 hp.1 hp.2 ?_
            rw [h.1]
            show E ++ (C1 ++ [(w, 0)]) ++ [] = E ++ [] ++ (C1 ++ [(w, 0)])
            rw [List.append_nil, List.append_nil]
          · intro st hst
            exact hty st (by omega)
    · refine Or.inl ⟨1, tPlc tb n (tNxt tb n s), by decide, tPlc_I hs1 hn.2, ?_, ?_⟩
      · intro m0 mem L Q h hL kk D hD
        exact cop m0 mem L Q D h hL hD (fun _ => kk) (fun e => absurd e hq) (fun e => absurd e hq)
      · intro m0 b E A B f fr mem d Q h hd kk
        exact rop m0 b E A B f fr mem d Q h hd (fun _ => kk) (fun e => absurd e hq) (fun e => absurd e hq)
  -- a number, a quality, or neither
  have h20 : tCod tb n s ≠ 20020 ∧ tCod tb n s ≠ 20025 ∧ tCod tb n s ≠ 20026 := by omega
  have fin : ∀ (x : Int × Int), s < n → (∀ (m0 mem : zF) (L : zC) (Q : Int → zF → Prop) (d : Nat), 1 ≤ d → CE m0 mem p tb n r s L → (L.length : Int) ≤ s → (∀ mem', CE m0 mem' p tb n r (tNxt tb n s) (L ++ [x]) → Q 1 mem') → Ci X (d + 1) 47 [(2, 3), (0, op)] rf mem Q) → (∀ (m0 : zF) (b : Int) (E : zC) (B : List Int) (f : Nat) (fr mem : zF) (d : Nat) (Q : zF → Prop), RE m0 mem tb n b r s E B f op fr 0 → E.length < 1600 → 4 ≤ d → (∀ mem', RE m0 mem' tb n b r (tNxt tb n s) (E ++ [x]) B f op fr 1 → L_m_reads_43 X (d + 1) rg Q mem' 1) → L_m_operand_171 X d rg (fun r m => (r = 0 ∨ r = 1) ∧ ((1 ≤ m 261 8 ∧ m 261 8 ≤ 6 ∧ Q (zup m 261 49 r)) ∨ (m 261 8 = 0 ∧ L_m_reads_43 X (d + 1) rg Q (zup m 261 49 r) 1))) mem) → (∀ st : List Bool, st.length < 60 → ztc r x.1 x.2 st = some (false :: st)) → NPart X rf rg p tb n r op s := by
    intro x hsn hcl hrf hty
    have hnx := tNxt_rng (tb := tb) hsn
    refine Or.inr ⟨tNxt tb n s, [x], ⟨by omega, hnx.2⟩, ?_, ?_, ?_, ?_, by omega⟩
    · simp only [List.length_cons, List.length_nil]; omega
    · intro m0 mem L Q h hL kk D hD
      obtain ⟨d, rfl⟩ : ∃ d, D = d + 1 := ⟨D - 1, by omega⟩
      exact hcl m0 mem L Q d (by omega) h hL kk
    · intro m0 b E A B f fr mem d Q h hd kk
      obtain ⟨d, rfl⟩ : ∃ e, d = e + 1 := ⟨d - 1, by omega⟩
      refine rpre m0 b E A B f fr mem d Q h (by omega) hcb (fun mem' eA b1 b3 b6 b7 h' => hrf m0 b E B f _ mem' d Q h' (by omega) (by omega) (fun m3 h3 => ?_))
      have hp := rpost m0 b E [x] A B f fr (zup fr 2 f 0) mem m3 _ h (by simp only [List.length_cons, List.length_nil]; omega) h3 (fun _ _ _ => rfl)
      refine kk m3 _ [] _ hp.1 hp.2 ?_
      rw [eA]
      show E ++ [x] ++ [] = E ++ [] ++ [x]
      rw [List.append_nil, List.append_nil]
    · intro st hst
      exact tck_one (hty st (by omega))
  by_cases hnum : 0 ≤ tCod tb n s ∧ tCod tb n s < 10000
  · have hsn : s < n := by omega
    refine fin (0, tCod tb n s) hsn (fun m0 mem L Q d hd h hL kk => ?_) (fun m0 b E B f fr mem d Q h hl hd kk => ?_) (fun st hst => ztc_num hnum hst)
    · refine s_parser_readPart hz.1 hz.2.1 hz.2.2.1 (h.isNum hz (fun _ _ => ⟨by decide, fun q => absurd q (by decide), fun _ => ?_⟩) (fun q => absurd hnum q))
      rw [h.1.c]
      refine h.add hz (0, tCod tb n s) ?_ (by omega) (fun m2 h2 => h2.next hz hsn hcb (kk))
      show zcm 0 (tCod tb n s) = tCod tb n s
      unfold zcm
      rw [if_pos rfl]
    · refine o_val hg hb hn hd h hs hr hcb hpn (by omega) (by omega) (by omega) (fun _ => hl) (fun q => absurd hnum q) (fun _ => kk) (fun q => ?_)
      have := (qsort_rng (tCod tb n s) r).2.2 q
      omega
  · by_cases hq : qsort (tCod tb n s) r = 0
    · refine Or.inl ⟨1, tPlc tb n s, by decide, tPlc_I hs hn.2, ?_, ?_⟩
      · intro m0 mem L Q h hL kk D hD
        obtain ⟨d, rfl⟩ : ∃ d, D = d + 1 := ⟨D - 1, by omega⟩
        exact cbeg m0 mem L Q d h hL hnum hpn (fun e => absurd e (by omega)) (fun e => absurd e (by omega)) (fun e => absurd e (by omega)) (fun _ => h.quality hz hr hL (by omega) (fun _ m2 h2 => ⟨Or.inl rfl, kk m2 h2⟩) (fun q => absurd hq q))
      · intro m0 b E A B f fr mem d Q h hd kk
        obtain ⟨d, rfl⟩ : ∃ e, d = e + 1 := ⟨d - 1, by omega⟩
        refine rpre m0 b E A B f fr mem d Q h (by omega) hcb (fun mem' eA b1 b3 b6 b7 h' => ?_)
        refine o_val hg hb hn (by omega) h' hs hr hcb hpn (by omega) (by omega) (by omega) (fun hsn => by omega) (fun _ _ => kk _ ?_) (fun q => absurd q hnum) (fun q => absurd hq q)
        rw [tPlc_s hcb]
        exact (h'.flt hs hn.2).up49
    · have hq2 := (qsort_rng (tCod tb n s) r).2.2 hq
      have hq3 := qsort_rng (tCod tb n s) r
      have hsn : s < n := by omega
      refine fin (qsort (tCod tb n s) r, 0) hsn (fun m0 mem L Q d hd h hL kk => ?_) (fun m0 b E B f fr mem d Q h hl hd kk => ?_) (fun st hst => ztc_qu (by omega) hq2.2 hst)
      · exact cbeg m0 mem L Q d h hL hnum hpn (fun e => absurd e (by omega)) (fun e => absurd e (by omega)) (fun e => absurd e (by omega)) (fun _ => h.quality hz hr hL hd (fun q => absurd q hq) (fun _ m2 h2 => ⟨Or.inr rfl, kk m2 h2⟩))
      · exact o_val hg hb hn hd h hs hr hcb hpn (by omega) (by omega) (by omega) (fun _ => hl) (fun _ q => absurd q hq) (fun q => absurd q hnum) (fun _ => kk)
end PART
