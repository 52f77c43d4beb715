/-! STATEMENTS, one after the other -/
section DISP
variable {X : zX} {rf rg m0 mem : zF} {p d : Nat} {tb : Nat → Int} {n b s : Int} {pl : zF} {L : zC}
def notKw (tb : Nat → Int) (n s : Int) : Prop := tCod tb n s ≠ 20002 ∧ tCod tb n s ≠ 20003 ∧ tCod tb n s ≠ 20007 ∧ tCod tb n s ≠ 20008 ∧ tCod tb n s ≠ 20010 ∧ tCod tb n s ≠ 20013 ∧ tCod tb n s ≠ 20014 ∧ tCod tb n s ≠ 20015 ∧ tCod tb n s ≠ 20016
theorem c_disp {Q : Int → zF → Prop} (hz : ZX rf p tb n) (h : CS m0 mem p tb n s pl L) (hl : L.length ≤ 1600) (hN : 1 ≤ pl 0 0 ∧ pl 0 0 < 80) (kb : notKw tb n s → ∀ mem', CSF m0 mem' p 1 (tPlc tb n s) → Q 0 mem') (k2 : tCod tb n s = 20002 → Ci X d 29 [(2, 3)] rf mem (fun v m => L_parser_readStatement_253 X d rf Q m p v)) (k3 : tCod tb n s = 20003 → Ci X d 31 [(2, 3)] rf mem (fun v m => L_parser_readStatement_253 X d rf Q m p v)) (k7 : tCod tb n s = 20007 → Ci X d 32 [(2, 3)] rf mem (fun v m => L_parser_readStatement_253 X d rf Q m p v)) (k8 : tCod tb n s = 20008 → Ci X d 33 [(2, 3)] rf mem (fun v m => L_parser_readStatement_253 X d rf Q m p v)) (k10 : tCod tb n s = 20010 → Ci X d 34 [(2, 3)] rf mem (fun v m => L_parser_readStatement_253 X d rf Q m p v)) (k13 : tCod tb n s = 20013 → Ci X d 35 [(2, 3), (0, 0)] rf mem (fun v m => L_parser_readStatement_253 X d rf Q m p v)) (k14 : tCod tb n s = 20014 → Ci X d 35 [(2, 3), (0, 1)] rf mem (fun v m => L_parser_readStatement_253 X d rf Q m p v)) (k15 : tCod tb n s = 20015 → Ci X d 35 [(2, 3), (0, 2)] rf mem (fun v m => L_parser_readStatement_253 X d rf Q m p v)) (k16 : tCod tb n s = 20016 → Ci X d 30 [(2, 3)] rf mem (fun v m => L_parser_readStatement_253 X d rf Q m p v)) : Ci X (d + 1) 27 [(2, 3)] rf mem Q := by
  have hp := hz.2.2.2.2.1
  have hs := h.sr hz
  have hI := tCod_I hz.2.2.2.2.2.2 hs.1
  have bad : notKw tb n s → Ci X d 26 [(2, 3), (0, 1)] rf mem (fun v m => L_parser_readStatement_253 X d rf Q m p v) := fun q => h.ce.refuse hz hl (fun m2 h2 => c_finF hz (h2.cs hp h) (kb q))
  refine s_parser_readStatement hz.1 hz.2.1 hz.2.2.1 ?_
  rw [h.pl0]
  refine ⟨by omega, fun _ => ?_, fun q => absurd q (by omega)⟩
  refine s_parser_readStatement_15 hz.1 hz.2.1 hz.2.2.1 ?_
  rw [h.pl0, h.1.c]
  refine ⟨by omega, fun _ => ⟨hI, fun q0 => ?_, fun q0 => ?_⟩, fun q => absurd (by omega) q⟩
  · refine s_parser_readStatement_67 hz.1 hz.2.1 hz.2.2.1 ⟨by decide, fun _ => ?_, fun q => absurd rfl q⟩
    rw [h.1.c]
    refine ⟨hI, fun q => absurd q q0, fun q => bad (by unfold notKw; omega), k2, k3, fun q => bad (by unfold notKw; omega), fun q => bad (by unfold notKw; omega), fun q => bad (by unfold notKw; omega), k7, k8, fun q => bad (by unfold notKw; omega), k10, fun q => bad (by unfold notKw; omega), fun q => bad (by unfold notKw; omega), k13, k14, k15, k16, fun q => bad (by unfold notKw; omega)⟩
  · exact s_parser_readStatement_67 hz.1 hz.2.1 hz.2.2.1 ⟨by decide, fun q => absurd q (by decide), fun _ => h.ce.refuse hz hl (fun m2 h2 => ⟨Or.inl rfl, kb (by unfold notKw; omega) m2 (h2.cs hp h)⟩)⟩
theorem t_disp {Q : zF → Prop} (hR : zall rg zRK = true) (hb : TBy tb n) (hn : 0 ≤ n ∧ n ≤ 1600) (h : RSs m0 mem b tb n s pl L) (hd : 1 ≤ d) (hs : 0 ≤ s ∧ s ≤ n) (kb : notKw tb n s → ∀ mem', RSF m0 mem' b 1 (tPlc tb n s) → Q mem') (k2 : tCod tb n s = 20002 → Cv X d 229 [(2, 261)] rg mem Q) (k3 : tCod tb n s = 20003 → Cv X d 230 [(2, 261)] rg mem Q) (k7 : tCod tb n s = 20007 → Cv X d 231 [(2, 261)] rg mem Q) (k8 : tCod tb n s = 20008 → Cv X d 232 [(2, 261)] rg mem Q) (k10 : tCod tb n s = 20010 → Cv X d 233 [(2, 261)] rg mem Q) (k13 : tCod tb n s = 20013 → Cv X d 234 [(2, 261), (0, 0)] rg mem Q) (k14 : tCod tb n s = 20014 → Cv X d 234 [(2, 261), (0, 1)] rg mem Q) (k15 : tCod tb n s = 20015 → Cv X d 234 [(2, 261), (0, 2)] rg mem Q) (k16 : tCod tb n s = 20016 → Cv X d 235 [(2, 261)] rg mem Q) : Cv X (d + 1) 236 [(2, 261)] rg mem Q := by
  have hf := h.1.1.f hs
  have h8 := h.1.2.2.2
  refine s_m_statement hR (t_lex hR (by omega) hb hn.2 hs h.1 (fun hc => ?_) (fun hc => ?_))
  · rw [h8]
    refine ⟨by decide, fun _ => ?_, fun q => absurd (by decide) q⟩
    refine t_isWord 2 hR hb hs h.1 hc (by decide) rfl (fun e => ⟨by decide, fun q => absurd q (by decide), fun _ => k2 (by omega)⟩) (fun c2 => ⟨by decide, fun _ => ?_, fun q => absurd rfl q⟩)
    refine t_isWord 3 hR hb hs h.1 hc (by decide) rfl (fun e => ⟨by decide, fun q => absurd q (by decide), fun _ => k3 (by omega)⟩) (fun c3 => ⟨by decide, fun _ => ?_, fun q => absurd rfl q⟩)
    refine t_isWord 7 hR hb hs h.1 hc (by decide) rfl (fun e => ⟨by decide, fun q => absurd q (by decide), fun _ => k7 (by omega)⟩) (fun c7 => ⟨by decide, fun _ => ?_, fun q => absurd rfl q⟩)
    refine t_isWord 8 hR hb hs h.1 hc (by decide) rfl (fun e => ⟨by decide, fun q => absurd q (by decide), fun _ => k8 (by omega)⟩) (fun c8 => ⟨by decide, fun _ => ?_, fun q => absurd rfl q⟩)
    refine t_isWord 10 hR hb hs h.1 hc (by decide) rfl (fun e => ⟨by decide, fun q => absurd q (by decide), fun _ => k10 (by omega)⟩) (fun c10 => ⟨by decide, fun _ => ?_, fun q => absurd rfl q⟩)
    refine t_isWord 13 hR hb hs h.1 hc (by decide) rfl (fun e => ⟨by decide, fun q => absurd q (by decide), fun _ => k13 (by omega)⟩) (fun c13 => ⟨by decide, fun _ => ?_, fun q => absurd rfl q⟩)
    refine t_isWord 14 hR hb hs h.1 hc (by decide) rfl (fun e => ⟨by decide, fun q => absurd q (by decide), fun _ => k14 (by omega)⟩) (fun c14 => ⟨by decide, fun _ => ?_, fun q => absurd rfl q⟩)
    refine t_isWord 15 hR hb hs h.1 hc (by decide) rfl (fun e => ⟨by decide, fun q => absurd q (by decide), fun _ => k15 (by omega)⟩) (fun c15 => ⟨by decide, fun _ => ?_, fun q => absurd rfl q⟩)
    refine t_isWord 16 hR hb hs h.1 hc (by decide) rfl (fun e => ⟨by decide, fun q => absurd q (by decide), fun _ => k16 (by omega)⟩) (fun c16 => ⟨by decide, fun _ => ?_, fun q => absurd rfl q⟩)
    refine t_blame hR h8 ?_
    rw [hf.1]
    have := kb (by unfold notKw; omega)
    rw [tPlc_s hc] at this
    exact this _ (h.flt hs hn.2)
  · rw [zflt_8]
    exact ⟨by decide, fun q => absurd q (by decide), fun _ => kb (by unfold notKw; omega) _ (h.flt hs hn.2)⟩
end DISP
theorem TJ.map {p : Nat} {tb : Nat → Int} {n b s : Int} {pl : zF} {L : zC} {cr cr2 : zF → (Int → zF → Prop) → Prop} {rr rr2 : zF → (zF → Prop) → Prop} (h : TJ p tb n b cr rr pl L s) (hc : ∀ (m0 mem : zF) (Q : Int → zF → Prop), CS m0 mem p tb n s pl L → cr mem Q → cr2 mem Q) (hr : ∀ (m0 mem : zF) (Q : zF → Prop), RSs m0 mem b tb n s pl L → rr mem Q → rr2 mem Q) : TJ p tb n b cr2 rr2 pl L s := by
  rcases h with ⟨k, pc, hk, hpc, h1, h2⟩ | ⟨s2, pl2, L2, a1, a2, a3, a4, h1, h2⟩
  · exact Or.inl ⟨k, pc, hk, hpc, fun m0 mem Q h kk => hc m0 mem Q h (h1 m0 mem Q h kk), fun m0 mem Q h kk => hr m0 mem Q h (h2 m0 mem Q h kk)⟩
  · refine Or.inr ⟨s2, pl2, L2, a1, a2, a3, a4, fun m0 mem Q h kk => hc m0 mem Q h (h1 m0 mem Q h kk), ?_⟩
    rcases h2 with ⟨x, h2⟩ | ⟨x, y, h2⟩
    · exact Or.inl ⟨x, fun m0 mem Q h kk => hr m0 mem Q h (h2 m0 mem Q h kk)⟩
    · exact Or.inr ⟨x, y, fun m0 mem Q h kk => hr m0 mem Q h (h2 m0 mem Q h kk)⟩
theorem WX.up0 {pl : zF} {L : zC} {j : Nat} {v : Int} (h : WX pl L) (hj : j = 3 ∨ j = 4 ∨ j = 5) (h3 : j = 3 → zic (pl 0 1) (pl 0 2) v) (h4 : j = 4 → 0 ≤ v ∧ v ≤ 100) (h5 : j = 5 → 0 ≤ v ∧ v < 64) : WX (zup pl 0 j v) L := by
  obtain ⟨⟨hn, hc3, hnames⟩, hru⟩ := h
  have p1 : ∀ i, i ≠ 0 → (zup pl 0 j v) i = pl i := fun i x => zup_row _ _ _ x
  have p0 : ∀ k, k ≠ j → (zup pl 0 j v) 0 k = pl 0 k := fun k x => zup_ne _ _ _ _ x
  refine ⟨⟨?_, by rw [p0 1 (by omega)]; exact hc3, by rw [p1 1 (by decide), p1 2 (by decide)]; exact hnames⟩, fun r hr => ?_⟩
  · unfold WP
    rw [p0 0 (by omega), p0 1 (by omega), p0 2 (by omega), p1 1 (by decide), p1 3 (by decide), p1 4 (by decide), p1 5 (by decide), p1 6 (by decide), p1 7 (by decide), p1 8 (by decide)]
    rcases hj with rfl | rfl | rfl
    · rw [zup_at, p0 4 (by decide), p0 5 (by decide)]
      exact ⟨hn.1, hn.2.1, Or.inr (h3 rfl), hn.2.2.2.1, hn.2.2.2.2.1, hn.2.2.2.2.2.1, hn.2.2.2.2.2.2.1, hn.2.2.2.2.2.2.2.1, trivial, hn.stm⟩
    · rw [zup_at, p0 3 (by decide), p0 5 (by decide)]
      exact ⟨hn.1, hn.2.1, hn.2.2.1, h4 rfl, hn.2.2.2.2.1, hn.2.2.2.2.2.1, hn.2.2.2.2.2.2.1, hn.2.2.2.2.2.2.2.1, trivial, hn.stm⟩
    · rw [zup_at, p0 3 (by decide), p0 4 (by decide)]
      exact ⟨hn.1, hn.2.1, hn.2.2.1, hn.2.2.2.1, h5 rfl, hn.2.2.2.2.2.1, hn.2.2.2.2.2.2.1, hn.2.2.2.2.2.2.2.1, trivial, hn.stm⟩
  · have := hru r hr
    unfold RuOK at this ⊢
    rw [p1 11 (by decide), p1 12 (by decide)]
    exact this
section STM
variable {X : zX} {rf rg : zF} {p D D2 : Nat} {tb : Nat → Int} {n b s : Int} {pl : zF} {L : zC}
theorem sj_lamp (hz : ZX rf p tb n) (hg : zall rg zRK = true) (hW : WX pl L) (hD : 6 ≤ D) (hD2 : 6 ≤ D2) (hL : (L.length : Int) ≤ s) (hs : 0 ≤ s ∧ s < n) (hcd : tCod tb n s ≠ -1) : SJ p tb n b (fun mem Q => Ci X D 29 [(2, 3)] rf mem Q) (fun mem Q => Cv X D2 229 [(2, 261)] rg mem Q) pl L s := by
  have hb := hz.2.2.2.2.2.2
  have hn := hz.2.2.2.2.2.1
  have hnx := tNxt_rng (tb := tb) hs.2
  have hcr := hW.1.1.cr
  have ok := pC_ok (tb := tb) (pl := pl) (s := tNxt tb n s) hb hn.2 (by omega)
  cases e : pC tb n pl (tNxt tb n s) with
  | inl x =>
    obtain ⟨k, pc⟩ := x
    rw [e] at ok
    refine Or.inl ⟨k, pc, ok.1, ok.2, fun m0 mem Q h kk => u_stLamp hz hW.1 h (by omega) hD hs.2 hcd (fun k2 pc2 e2 => ?_) (fun s2 v2 e2 => ?_), fun m0 mem Q h kk => t_stLamp hg hb hn hW.1 h hD2 hs (fun k2 pc2 e2 => ?_) (fun s2 v2 e2 => ?_)⟩
    · rw [e] at e2; cases e2; exact kk
    · rw [e] at e2; cases e2
    · rw [e] at e2; cases e2; exact kk
    · rw [e] at e2; cases e2
  | inr x =>
    obtain ⟨s', v⟩ := x
    rw [e] at ok
    have ok : tNxt tb n s < s' ∧ s' ≤ n := ok
    refine Or.inr ⟨s', zup pl 0 3 v, L, ⟨by omega, ok.2⟩, hW.up0 (by decide) (fun _ => pC_inr (by omega) e) (fun c => absurd c (by decide)) (fun c => absurd c (by decide)), by omega, zup_ne _ _ _ _ (by decide), fun m0 mem Q h kk => u_stLamp hz hW.1 h (by omega) hD hs.2 hcd (fun k2 pc2 e2 => ?_) (fun s2 v2 e2 => ?_), fun m0 mem Q h kk => t_stLamp hg hb hn hW.1 h hD2 hs (fun k2 pc2 e2 => ?_) (fun s2 v2 e2 => ?_)⟩
    · rw [e] at e2; cases e2
    · rw [e] at e2; cases e2; exact kk
    · rw [e] at e2; cases e2
    · rw [e] at e2; cases e2; exact kk
theorem sj_breath (hz : ZX rf p tb n) (hg : zall rg zRK = true) (hW : WX pl L) (hD : 6 ≤ D) (hD2 : 6 ≤ D2) (hL : (L.length : Int) ≤ s) (hs : 0 ≤ s ∧ s < n) (hcd : tCod tb n s ≠ -1) : SJ p tb n b (fun mem Q => Ci X D 30 [(2, 3)] rf mem Q) (fun mem Q => Cv X D2 235 [(2, 261)] rg mem Q) pl L s := by
  have hb := hz.2.2.2.2.2.2
  have hn := hz.2.2.2.2.2.1
  have hnx := tNxt_rng (tb := tb) hs.2
  have ok := pN_ok (tb := tb) (lo := 0) (hi := 100) (s := tNxt tb n s) hb hn.2 (by omega)
  cases e : pN tb n 0 100 (tNxt tb n s) with
  | inl x =>
    obtain ⟨k, pc⟩ := x
    rw [e] at ok
    refine Or.inl ⟨k, pc, ok.1, ok.2, fun m0 mem Q h kk => u_stBreath hz h (by omega) hD hs.2 hcd (fun k2 pc2 e2 => ?_) (fun s2 v2 e2 => ?_), fun m0 mem Q h kk => t_stBreath hg hb hn h hD2 hs (fun k2 pc2 e2 => ?_) (fun s2 v2 e2 => ?_)⟩
    · rw [e] at e2; cases e2; exact kk
    · rw [e] at e2; cases e2
    · rw [e] at e2; cases e2; exact kk
    · rw [e] at e2; cases e2
  | inr x =>
    obtain ⟨s', v⟩ := x
    rw [e] at ok
    have ok : tNxt tb n s < s' ∧ s' ≤ n := ok
    refine Or.inr ⟨s', zup pl 0 4 v, L, ⟨by omega, ok.2⟩, hW.up0 (by decide) (fun c => absurd c (by decide)) (fun _ => (pN_inr e).2.1) (fun c => absurd c (by decide)), by omega, zup_ne _ _ _ _ (by decide), fun m0 mem Q h kk => u_stBreath hz h (by omega) hD hs.2 hcd (fun k2 pc2 e2 => ?_) (fun s2 v2 e2 => ?_), fun m0 mem Q h kk => t_stBreath hg hb hn h hD2 hs (fun k2 pc2 e2 => ?_) (fun s2 v2 e2 => ?_)⟩
    · rw [e] at e2; cases e2
    · rw [e] at e2; cases e2; exact kk
    · rw [e] at e2; cases e2
    · rw [e] at e2; cases e2; exact kk
theorem sj_open (hz : ZX rf p tb n) (hg : zall rg zRK = true) (hW : WX pl L) (hD : 6 ≤ D) (hD2 : 6 ≤ D2) (hL : (L.length : Int) ≤ s) (hs : 0 ≤ s ∧ s < n) (hcd : tCod tb n s ≠ -1) : SJ p tb n b (fun mem Q => Ci X D 32 [(2, 3)] rf mem Q) (fun mem Q => Cv X D2 231 [(2, 261)] rg mem Q) pl L s := by
  have hb := hz.2.2.2.2.2.2
  have hn := hz.2.2.2.2.2.1
  have hnx := tNxt_rng (tb := tb) hs.2
  have ok := pO_ok (tb := tb) (pl := pl) (s := tNxt tb n s) hb hn.2 (by omega)
  cases e : pO tb n pl (tNxt tb n s) with
  | inl x =>
    obtain ⟨k, pc⟩ := x
    rw [e] at ok
    refine Or.inl ⟨k, pc, ok.1, ok.2, fun m0 mem Q h kk => u_stOpen hz hW.1 h (by omega) hD hs.2 hcd (fun k2 pc2 e2 => ?_) (fun s2 v2 e2 => ?_), fun m0 mem Q h kk => t_stOpen hg hb hn hW.1 h hD2 hs (fun k2 pc2 e2 => ?_) (fun s2 v2 e2 => ?_)⟩
    · rw [e] at e2; cases e2; exact kk
    · rw [e] at e2; cases e2
    · rw [e] at e2; cases e2; exact kk
    · rw [e] at e2; cases e2
  | inr x =>
    obtain ⟨s', v⟩ := x
    rw [e] at ok
    have ok : tNxt tb n s < s' ∧ s' ≤ n := ok
    have hv : 0 ≤ v ∧ v < 6 := by
      have hcn := hW.1.cnt (so := 0) (by decide)
      have hi := zfn_I hW.1 (so := 0) (v := tCod tb n (tNxt tb n s) - 1073741824) (by decide)
      unfold pO at e
      split at e
      · split at e
        · cases e
        · next q =>
          cases e
          have : ¬ zfn pl 0 (tCod tb n (tNxt tb n s) - 1073741824) = -1 := fun c => q (Or.inl c)
          omega
      · cases e
    refine Or.inr ⟨s', zup pl 0 5 (zor (pl 0 5) (zshl 1 v)), L, ⟨by omega, ok.2⟩, hW.up0 (by decide) (fun c => absurd c (by decide)) (fun c => absurd c (by decide)) (fun _ => zor_lt hW.1.1.opn (zshl1_rng hv)), by omega, zup_ne _ _ _ _ (by decide), fun m0 mem Q h kk => u_stOpen hz hW.1 h (by omega) hD hs.2 hcd (fun k2 pc2 e2 => ?_) (fun s2 v2 e2 => ?_), fun m0 mem Q h kk => t_stOpen hg hb hn hW.1 h hD2 hs (fun k2 pc2 e2 => ?_) (fun s2 v2 e2 => ?_)⟩
    · rw [e] at e2; cases e2
    · rw [e] at e2; cases e2; exact kk
    · rw [e] at e2; cases e2
    · rw [e] at e2; cases e2; exact kk
theorem sj_door (hz : ZX rf p tb n) (hg : zall rg zRK = true) (hW : WX pl L) (hD : 6 ≤ D) (hD2 : 6 ≤ D2) (hL : (L.length : Int) ≤ s) (hs : 0 ≤ s ∧ s < n) (hcd : tCod tb n s ≠ -1) : SJ p tb n b (fun mem Q => Ci X D 31 [(2, 3)] rf mem Q) (fun mem Q => Cv X D2 230 [(2, 261)] rg mem Q) pl L s := by
  have hb := hz.2.2.2.2.2.2
  have hn := hz.2.2.2.2.2.1
  have hnx := tNxt_rng (tb := tb) hs.2
  have hcr := hW.1.1.cr
  have hcn : 0 ≤ pl 1 0 ∧ pl 1 0 ≤ 6 := hW.1.cnt (so := 0) (by decide)
  by_cases q6 : pl 1 0 = 6
  · exact Or.inl ⟨6, tPlc tb n s, by decide, tPlc_I (by omega) hn.2, fun m0 mem Q h kk => u_stDoor hz hW.1 h (by omega) hD hs.2 hcd (fun _ => kk) (fun c => absurd c (by omega)) (fun c => absurd c (by omega)), fun m0 mem Q h kk => t_stDoor hg hb hn hW.1 h hD2 hs hcd (fun _ => kk) (fun c => absurd c (by omega)) (fun c => absurd c (by omega))⟩
  have ok := pDoor_ok (tb := tb) (pl := pl) (s := tNxt tb n s) hb hn.2 (by omega)
  cases e : pDoor tb n pl (tNxt tb n s) with
  | inl x =>
    obtain ⟨k, pc⟩ := x
    rw [e] at ok
    refine Or.inl ⟨k, pc, ok.1, ok.2, fun m0 mem Q h kk => u_stDoor hz hW.1 h (by omega) hD hs.2 hcd (fun c => absurd c q6) (fun _ k2 pc2 e2 => ?_) (fun _ s2 v2 e2 => ?_), fun m0 mem Q h kk => t_stDoor hg hb hn hW.1 h hD2 hs hcd (fun c => absurd c q6) (fun _ k2 pc2 e2 => ?_) (fun _ s2 v2 e2 => ?_)⟩
    · rw [e] at e2; cases e2; exact kk
    · rw [e] at e2; cases e2
    · rw [e] at e2; cases e2; exact kk
    · rw [e] at e2; cases e2
  | inr x =>
    obtain ⟨s', v⟩ := x
    rw [e] at ok
    have ok : tNxt tb n s < s' ∧ s' ≤ n := ok
    have hX : WX (bDoor pl v) L ∧ (bDoor pl v) 0 0 = pl 0 0 := by
      unfold pDoor at e
      cases e1 : pM tb n pl (tNxt tb n s) with
      | inl z => rw [e1, pB_inl] at e; cases e
      | inr z =>
        obtain ⟨s1, nm⟩ := z
        rw [e1, pB_inr] at e
        have r1 := pM_inr hb (by omega) e1
        cases e2 : pW tb n 20004 s1 with
        | inl z => rw [e2, pB_inl] at e; cases e
        | inr z =>
          obtain ⟨s2, z2⟩ := z
          rw [e2, pB_inr] at e
          cases e3 : pC tb n pl s2 with
          | inl z => rw [e3, pB_inl] at e; cases e
          | inr z =>
            obtain ⟨s3, c⟩ := z
            rw [e3, pB_inr] at e
            have r3 := pC_inr (by omega) e3
            cases e4 : pW tb n 20005 s3 with
            | inl z => rw [e4, pB_inl] at e; cases e
            | inr z =>
              obtain ⟨s4, z4⟩ := z
              rw [e4, pB_inr] at e
              cases e5 : pN tb n 0 3 s4 with
              | inl z => rw [e5, pB_inl] at e; cases e
              | inr z =>
                obtain ⟨s5, v1⟩ := z
                rw [e5, pB_inr] at e
                have r5 := pN_inr e5
                cases e6 : pW tb n 20006 s5 with
                | inl z => rw [e6, pB_inl] at e; cases e
                | inr z =>
                  obtain ⟨s6, z6⟩ := z
                  rw [e6, pB_inr] at e
                  cases e7 : pN tb n 1 6 s6 with
                  | inl z => rw [e7, pB_inl] at e; cases e
                  | inr z =>
                    obtain ⟨s7, v2⟩ := z
                    rw [e7, pB_inr] at e
                    have r7 := pN_inr e7
                    cases e
                    have G : GrowP pl (bDoor pl (nm, c, v1, v2)) 0 nm c := GrowP.of (by decide)
                    refine ⟨hW.grow (by decide) (by omega) G r1.1 r3 (fun _ => ⟨by show _ ≤ (zup (zup (aAdd pl ((0 : Nat) : Int) nm c) 4 (pl 1 0).toNat v1) 5 (pl 1 0).toNat v2) 4 (pl 1 0).toNat ∧ (zup (zup (aAdd pl ((0 : Nat) : Int) nm c) 4 (pl 1 0).toNat v1) 5 (pl 1 0).toNat v2) 4 (pl 1 0).toNat < _; rw [zup_row _ _ _ (by decide), zup_at]; omega, by show _ ≤ (zup (zup (aAdd pl ((0 : Nat) : Int) nm c) 4 (pl 1 0).toNat v1) 5 (pl 1 0).toNat v2) 5 (pl 1 0).toNat ∧ (zup (zup (aAdd pl ((0 : Nat) : Int) nm c) 4 (pl 1 0).toNat v1) 5 (pl 1 0).toNat v2) 5 (pl 1 0).toNat ≤ _; rw [zup_at]; omega⟩) (fun c => absurd c (by decide)) (fun c => absurd c (by decide)), ?_⟩
                    rw [G.1]
    refine Or.inr ⟨s', bDoor pl v, L, ⟨by omega, ok.2⟩, hX.1, by omega, hX.2, fun m0 mem Q h kk => u_stDoor hz hW.1 h (by omega) hD hs.2 hcd (fun c => absurd c q6) (fun _ k2 pc2 e2 => ?_) (fun _ s2 v2 e2 => ?_), fun m0 mem Q h kk => t_stDoor hg hb hn hW.1 h hD2 hs hcd (fun c => absurd c q6) (fun _ k2 pc2 e2 => ?_) (fun _ s2 v2 e2 => ?_)⟩
    · rw [e] at e2; cases e2
    · rw [e] at e2; cases e2; exact kk
    · rw [e] at e2; cases e2
    · rw [e] at e2; cases e2; exact kk
theorem sj_heir (hz : ZX rf p tb n) (hg : zall rg zRK = true) (hW : WX pl L) (hD : 6 ≤ D) (hD2 : 6 ≤ D2) (hL : (L.length : Int) ≤ s) (hs : 0 ≤ s ∧ s < n) (hcd : tCod tb n s ≠ -1) : SJ p tb n b (fun mem Q => Ci X D 33 [(2, 3)] rf mem Q) (fun mem Q => Cv X D2 232 [(2, 261)] rg mem Q) pl L s := by
  have hb := hz.2.2.2.2.2.2
  have hn := hz.2.2.2.2.2.1
  have hnx := tNxt_rng (tb := tb) hs.2
  have hcr := hW.1.1.cr
  have hcn : 0 ≤ pl 1 1 ∧ pl 1 1 ≤ 6 := hW.1.cnt (so := 1) (by decide)
  by_cases q6 : pl 1 1 = 6
  · exact Or.inl ⟨6, tPlc tb n s, by decide, tPlc_I (by omega) hn.2, fun m0 mem Q h kk => u_stHeir hz hW.1 h (by omega) hD hs.2 hcd (fun _ => kk) (fun c => absurd c (by omega)) (fun c => absurd c (by omega)), fun m0 mem Q h kk => t_stHeir hg hb hn hW.1 h hD2 hs hcd (fun _ => kk) (fun c => absurd c (by omega)) (fun c => absurd c (by omega))⟩
  have ok := pHeir_ok (tb := tb) (pl := pl) (s := tNxt tb n s) hb hn.2 (by omega)
  cases e : pHeir tb n pl (tNxt tb n s) with
  | inl x =>
    obtain ⟨k, pc⟩ := x
    rw [e] at ok
    refine Or.inl ⟨k, pc, ok.1, ok.2, fun m0 mem Q h kk => u_stHeir hz hW.1 h (by omega) hD hs.2 hcd (fun c => absurd c q6) (fun _ k2 pc2 e2 => ?_) (fun _ s2 v2 e2 => ?_), fun m0 mem Q h kk => t_stHeir hg hb hn hW.1 h hD2 hs hcd (fun c => absurd c q6) (fun _ k2 pc2 e2 => ?_) (fun _ s2 v2 e2 => ?_)⟩
    · rw [e] at e2; cases e2; exact kk
    · rw [e] at e2; cases e2
    · rw [e] at e2; cases e2; exact kk
    · rw [e] at e2; cases e2
  | inr x =>
    obtain ⟨s', v⟩ := x
    rw [e] at ok
    have ok : tNxt tb n s < s' ∧ s' ≤ n := ok
    have hX : WX (bHeir pl v) L ∧ (bHeir pl v) 0 0 = pl 0 0 := by
      unfold pHeir at e
      cases e1 : pM tb n pl (tNxt tb n s) with
      | inl z => rw [e1, pB_inl] at e; cases e
      | inr z =>
        obtain ⟨s1, nm⟩ := z
        rw [e1, pB_inr] at e
        have r1 := pM_inr hb (by omega) e1
        cases e2 : pW tb n 20004 s1 with
        | inl z => rw [e2, pB_inl] at e; cases e
        | inr z =>
          obtain ⟨s2, z2⟩ := z
          rw [e2, pB_inr] at e
          cases e3 : pF tb n pl 1 s2 with
          | inl z => rw [e3, pB_inl] at e; cases e
          | inr z =>
            obtain ⟨s3, c⟩ := z
            rw [e3, pB_inr] at e
            have r3 := (pF_inr (by omega) e3).1
            cases e4 : pW tb n 20009 s3 with
            | inl z => rw [e4, pB_inl] at e; cases e
            | inr z =>
              obtain ⟨s4, z4⟩ := z
              rw [e4, pB_inr] at e
              cases e5 : pN tb n 0 9 s4 with
              | inl z => rw [e5, pB_inl] at e; cases e
              | inr z =>
                obtain ⟨s5, v1⟩ := z
                rw [e5, pB_inr] at e
                have r5 := pN_inr e5
                cases e
                have G : GrowP pl (bHeir pl (nm, c, v1)) 1 nm c := GrowP.of1
                refine ⟨hW.grow (by decide) (by omega) G r1.1 r3 (fun c => absurd c (by decide)) (fun _ => by show _ ≤ (zup (aAdd pl ((1 : Nat) : Int) nm c) 6 (pl 1 1).toNat v1) 6 (pl 1 1).toNat ∧ (zup (aAdd pl ((1 : Nat) : Int) nm c) 6 (pl 1 1).toNat v1) 6 (pl 1 1).toNat ≤ _; rw [zup_at]; omega) (fun c => absurd c (by decide)), ?_⟩
                rw [G.1]
    refine Or.inr ⟨s', bHeir pl v, L, ⟨by omega, ok.2⟩, hX.1, by omega, hX.2, fun m0 mem Q h kk => u_stHeir hz hW.1 h (by omega) hD hs.2 hcd (fun c => absurd c q6) (fun _ k2 pc2 e2 => ?_) (fun _ s2 v2 e2 => ?_), fun m0 mem Q h kk => t_stHeir hg hb hn hW.1 h hD2 hs hcd (fun c => absurd c q6) (fun _ k2 pc2 e2 => ?_) (fun _ s2 v2 e2 => ?_)⟩
    · rw [e] at e2; cases e2
    · rw [e] at e2; cases e2; exact kk
    · rw [e] at e2; cases e2
    · rw [e] at e2; cases e2; exact kk
theorem sj_bubble (hz : ZX rf p tb n) (hg : zall rg zRK = true) (hW : WX pl L) (hD : 6 ≤ D) (hD2 : 6 ≤ D2) (hL : (L.length : Int) ≤ s) (hs : 0 ≤ s ∧ s < n) (hcd : tCod tb n s ≠ -1) : SJ p tb n b (fun mem Q => Ci X D 34 [(2, 3)] rf mem Q) (fun mem Q => Cv X D2 233 [(2, 261)] rg mem Q) pl L s := by
  have hb := hz.2.2.2.2.2.2
  have hn := hz.2.2.2.2.2.1
  have hnx := tNxt_rng (tb := tb) hs.2
  have hcr := hW.1.1.cr
  have hcn : 0 ≤ pl 1 2 ∧ pl 1 2 ≤ 6 := hW.1.cnt (so := 2) (by decide)
  by_cases q6 : pl 1 2 = 6
  · exact Or.inl ⟨6, tPlc tb n s, by decide, tPlc_I (by omega) hn.2, fun m0 mem Q h kk => u_stBubble hz hW.1 h (by omega) hD hs.2 hcd (fun _ => kk) (fun c => absurd c (by omega)) (fun c => absurd c (by omega)), fun m0 mem Q h kk => t_stBubble hg hb hn hW.1 h hD2 hs hcd (fun _ => kk) (fun c => absurd c (by omega)) (fun c => absurd c (by omega))⟩
  have ok := pBubble_ok (tb := tb) (pl := pl) (s := tNxt tb n s) hb hn.2 (by omega)
  cases e : pBubble tb n pl (tNxt tb n s) with
  | inl x =>
    obtain ⟨k, pc⟩ := x
    rw [e] at ok
    refine Or.inl ⟨k, pc, ok.1, ok.2, fun m0 mem Q h kk => u_stBubble hz hW.1 h (by omega) hD hs.2 hcd (fun c => absurd c q6) (fun _ k2 pc2 e2 => ?_) (fun _ s2 v2 e2 => ?_), fun m0 mem Q h kk => t_stBubble hg hb hn hW.1 h hD2 hs hcd (fun c => absurd c q6) (fun _ k2 pc2 e2 => ?_) (fun _ s2 v2 e2 => ?_)⟩
    · rw [e] at e2; cases e2; exact kk
    · rw [e] at e2; cases e2
    · rw [e] at e2; cases e2; exact kk
    · rw [e] at e2; cases e2
  | inr x =>
    obtain ⟨s', v⟩ := x
    rw [e] at ok
    have ok : tNxt tb n s < s' ∧ s' ≤ n := ok
    have hX : WX (bBubble pl v) L ∧ (bBubble pl v) 0 0 = pl 0 0 := by
      unfold pBubble at e
      cases e1 : pM tb n pl (tNxt tb n s) with
      | inl z => rw [e1, pB_inl] at e; cases e
      | inr z =>
        obtain ⟨s1, nm⟩ := z
        rw [e1, pB_inr] at e
        have r1 := pM_inr hb (by omega) e1
        cases e2 : pW tb n 20004 s1 with
        | inl z => rw [e2, pB_inl] at e; cases e
        | inr z =>
          obtain ⟨s2, z2⟩ := z
          rw [e2, pB_inr] at e
          cases e3 : pF tb n pl 2 s2 with
          | inl z => rw [e3, pB_inl] at e; cases e
          | inr z =>
            obtain ⟨s3, c⟩ := z
            rw [e3, pB_inr] at e
            have r3 := (pF_inr (by omega) e3).1
            cases e4 : pW tb n 20011 s3 with
            | inl z => rw [e4, pB_inl] at e; cases e
            | inr z =>
              obtain ⟨s4, z4⟩ := z
              rw [e4, pB_inr] at e
              cases e5 : pN tb n 1 99 s4 with
              | inl z => rw [e5, pB_inl] at e; cases e
              | inr z =>
                obtain ⟨s5, v1⟩ := z
                rw [e5, pB_inr] at e
                have r5 := pN_inr e5
                cases e6 : pW tb n 20012 s5 with
                | inl z => rw [e6, pB_inl] at e; cases e
                | inr z =>
                  obtain ⟨s6, z6⟩ := z
                  rw [e6, pB_inr] at e
                  cases e7 : pN tb n 1 9 s6 with
                  | inl z => rw [e7, pB_inl] at e; cases e
                  | inr z =>
                    obtain ⟨s7, v2⟩ := z
                    rw [e7, pB_inr] at e
                    have r7 := pN_inr e7
                    cases e
                    have G : GrowP pl (bBubble pl (nm, c, v1, v2)) 2 nm c := GrowP.of (by decide)
                    refine ⟨hW.grow (by decide) (by omega) G r1.1 r3 (fun c => absurd c (by decide)) (fun c => absurd c (by decide)) (fun _ => ⟨by show _ ≤ (zup (zup (aAdd pl ((2 : Nat) : Int) nm c) 7 (pl 1 2).toNat v1) 8 (pl 1 2).toNat v2) 7 (pl 1 2).toNat ∧ (zup (zup (aAdd pl ((2 : Nat) : Int) nm c) 7 (pl 1 2).toNat v1) 8 (pl 1 2).toNat v2) 7 (pl 1 2).toNat ≤ _; rw [zup_row _ _ _ (by decide), zup_at]; omega, by show _ ≤ (zup (zup (aAdd pl ((2 : Nat) : Int) nm c) 7 (pl 1 2).toNat v1) 8 (pl 1 2).toNat v2) 8 (pl 1 2).toNat ∧ (zup (zup (aAdd pl ((2 : Nat) : Int) nm c) 7 (pl 1 2).toNat v1) 8 (pl 1 2).toNat v2) 8 (pl 1 2).toNat ≤ _; rw [zup_at]; omega⟩), ?_⟩
                    rw [G.1]
    refine Or.inr ⟨s', bBubble pl v, L, ⟨by omega, ok.2⟩, hX.1, by omega, hX.2, fun m0 mem Q h kk => u_stBubble hz hW.1 h (by omega) hD hs.2 hcd (fun c => absurd c q6) (fun _ k2 pc2 e2 => ?_) (fun _ s2 v2 e2 => ?_), fun m0 mem Q h kk => t_stBubble hg hb hn hW.1 h hD2 hs hcd (fun c => absurd c q6) (fun _ k2 pc2 e2 => ?_) (fun _ s2 v2 e2 => ?_)⟩
    · rw [e] at e2; cases e2
    · rw [e] at e2; cases e2; exact kk
    · rw [e] at e2; cases e2
    · rw [e] at e2; cases e2; exact kk
/-- a STATEMENT, whatever it is -/
theorem r_stm (hz : ZX rf p tb n) (hg : zall rg zRK = true) (hW : WX pl L) (hD : 70 ≤ D) (hD2 : 10 ≤ D2) (hL : (L.length : Int) ≤ s) (hs : 0 ≤ s ∧ s < n) (hN : 1 ≤ pl 0 0 ∧ pl 0 0 < 80) : TJ p tb n b (fun mem Q => Ci X (D + 1) 27 [(2, 3)] rf mem Q) (fun mem Q => Cv X (D2 + 1) 236 [(2, 261)] rg mem (fun m => Cv X (D2 + 1) 237 [(2, 261), (0, pl 0 0 + 1)] rg m Q)) pl L s := by
  have hb := hz.2.2.2.2.2.2
  have hn := hz.2.2.2.2.2.1
  have hs' : 0 ≤ s ∧ s ≤ n := by omega
  by_cases hk : notKw tb n s
  · refine Or.inl ⟨1, tPlc tb n s, by decide, tPlc_I hs' hn.2, fun m0 mem Q h kk => ?_, fun m0 mem Q h kk => ?_⟩
    · exact c_disp hz h (by omega) hN (fun _ => kk) (fun c => absurd c (by unfold notKw at hk; omega)) (fun c => absurd c (by unfold notKw at hk; omega)) (fun c => absurd c (by unfold notKw at hk; omega)) (fun c => absurd c (by unfold notKw at hk; omega)) (fun c => absurd c (by unfold notKw at hk; omega)) (fun c => absurd c (by unfold notKw at hk; omega)) (fun c => absurd c (by unfold notKw at hk; omega)) (fun c => absurd c (by unfold notKw at hk; omega)) (fun c => absurd c (by unfold notKw at hk; omega))
    · exact t_disp hg hb hn h (by omega) hs' (fun _ m2 h2 => t_finF hg (by omega) h2 (by decide) (kk m2 h2)) (fun c => absurd c (by unfold notKw at hk; omega)) (fun c => absurd c (by unfold notKw at hk; omega)) (fun c => absurd c (by unfold notKw at hk; omega)) (fun c => absurd c (by unfold notKw at hk; omega)) (fun c => absurd c (by unfold notKw at hk; omega)) (fun c => absurd c (by unfold notKw at hk; omega)) (fun c => absurd c (by unfold notKw at hk; omega)) (fun c => absurd c (by unfold notKw at hk; omega)) (fun c => absurd c (by unfold notKw at hk; omega))
  have nk : ¬ notKw tb n s := hk
  unfold notKw at hk
  by_cases e2 : tCod tb n s = 20002
  · refine TJ.map (SJ.fin (X := X) (D := D) (D2 := D2 + 1) hz hg (by omega) (by omega) hs.1 (by omega) (sj_lamp (X := X) (D := D) (D2 := D2) hz hg hW (by omega) (by omega) hL hs (by omega))) (fun m0 mem Q h hq => ?_) (fun m0 mem Q h hq => ?_)
    · exact c_disp hz h (by omega) hN (fun c => absurd c nk) (fun _ => hq) (fun c => absurd c (by omega)) (fun c => absurd c (by omega)) (fun c => absurd c (by omega)) (fun c => absurd c (by omega)) (fun c => absurd c (by omega)) (fun c => absurd c (by omega)) (fun c => absurd c (by omega)) (fun c => absurd c (by omega))
    · exact t_disp hg hb hn h (by omega) hs' (fun c => absurd c nk) (fun _ => hq) (fun c => absurd c (by omega)) (fun c => absurd c (by omega)) (fun c => absurd c (by omega)) (fun c => absurd c (by omega)) (fun c => absurd c (by omega)) (fun c => absurd c (by omega)) (fun c => absurd c (by omega)) (fun c => absurd c (by omega))
  by_cases e3 : tCod tb n s = 20003
  · refine TJ.map (SJ.fin (X := X) (D := D) (D2 := D2 + 1) hz hg (by omega) (by omega) hs.1 (by omega) (sj_door (X := X) (D := D) (D2 := D2) hz hg hW (by omega) (by omega) hL hs (by omega))) (fun m0 mem Q h hq => ?_) (fun m0 mem Q h hq => ?_)
    · exact c_disp hz h (by omega) hN (fun c => absurd c nk) (fun c => absurd c (by omega)) (fun _ => hq) (fun c => absurd c (by omega)) (fun c => absurd c (by omega)) (fun c => absurd c (by omega)) (fun c => absurd c (by omega)) (fun c => absurd c (by omega)) (fun c => absurd c (by omega)) (fun c => absurd c (by omega))
    · exact t_disp hg hb hn h (by omega) hs' (fun c => absurd c nk) (fun c => absurd c (by omega)) (fun _ => hq) (fun c => absurd c (by omega)) (fun c => absurd c (by omega)) (fun c => absurd c (by omega)) (fun c => absurd c (by omega)) (fun c => absurd c (by omega)) (fun c => absurd c (by omega)) (fun c => absurd c (by omega))
  by_cases e7 : tCod tb n s = 20007
  · refine TJ.map (SJ.fin (X := X) (D := D) (D2 := D2 + 1) hz hg (by omega) (by omega) hs.1 (by omega) (sj_open (X := X) (D := D) (D2 := D2) hz hg hW (by omega) (by omega) hL hs (by omega))) (fun m0 mem Q h hq => ?_) (fun m0 mem Q h hq => ?_)
    · exact c_disp hz h (by omega) hN (fun c => absurd c nk) (fun c => absurd c (by omega)) (fun c => absurd c (by omega)) (fun _ => hq) (fun c => absurd c (by omega)) (fun c => absurd c (by omega)) (fun c => absurd c (by omega)) (fun c => absurd c (by omega)) (fun c => absurd c (by omega)) (fun c => absurd c (by omega))
    · exact t_disp hg hb hn h (by omega) hs' (fun c => absurd c nk) (fun c => absurd c (by omega)) (fun c => absurd c (by omega)) (fun _ => hq) (fun c => absurd c (by omega)) (fun c => absurd c (by omega)) (fun c => absurd c (by omega)) (fun c => absurd c (by omega)) (fun c => absurd c (by omega)) (fun c => absurd c (by omega))
  by_cases e8 : tCod tb n s = 20008
  · refine TJ.map (SJ.fin (X := X) (D := D) (D2 := D2 + 1) hz hg (by omega) (by omega) hs.1 (by omega) (sj_heir (X := X) (D := D) (D2 := D2) hz hg hW (by omega) (by omega) hL hs (by omega))) (fun m0 mem Q h hq => ?_) (fun m0 mem Q h hq => ?_)
    · exact c_disp hz h (by omega) hN (fun c => absurd c nk) (fun c => absurd c (by omega)) (fun c => absurd c (by omega)) (fun c => absurd c (by omega)) (fun _ => hq) (fun c => absurd c (by omega)) (fun c => absurd c (by omega)) (fun c => absurd c (by omega)) (fun c => absurd c (by omega)) (fun c => absurd c (by omega))
    · exact t_disp hg hb hn h (by omega) hs' (fun c => absurd c nk) (fun c => absurd c (by omega)) (fun c => absurd c (by omega)) (fun c => absurd c (by omega)) (fun _ => hq) (fun c => absurd c (by omega)) (fun c => absurd c (by omega)) (fun c => absurd c (by omega)) (fun c => absurd c (by omega)) (fun c => absurd c (by omega))
  by_cases e10 : tCod tb n s = 20010
  · refine TJ.map (SJ.fin (X := X) (D := D) (D2 := D2 + 1) hz hg (by omega) (by omega) hs.1 (by omega) (sj_bubble (X := X) (D := D) (D2 := D2) hz hg hW (by omega) (by omega) hL hs (by omega))) (fun m0 mem Q h hq => ?_) (fun m0 mem Q h hq => ?_)
    · exact c_disp hz h (by omega) hN (fun c => absurd c nk) (fun c => absurd c (by omega)) (fun c => absurd c (by omega)) (fun c => absurd c (by omega)) (fun c => absurd c (by omega)) (fun _ => hq) (fun c => absurd c (by omega)) (fun c => absurd c (by omega)) (fun c => absurd c (by omega)) (fun c => absurd c (by omega))
    · exact t_disp hg hb hn h (by omega) hs' (fun c => absurd c nk) (fun c => absurd c (by omega)) (fun c => absurd c (by omega)) (fun c => absurd c (by omega)) (fun c => absurd c (by omega)) (fun _ => hq) (fun c => absurd c (by omega)) (fun c => absurd c (by omega)) (fun c => absurd c (by omega)) (fun c => absurd c (by omega))
  by_cases e13 : tCod tb n s = 20013
  · refine TJ.map (r_rule (X := X) (r := 0) (D := D) (D2 := D2) (D3 := D2 + 1) hz hg (by decide) (by omega) (by omega) (by omega) hW hL hs (by omega) (by omega)) (fun m0 mem Q h hq => ?_) (fun m0 mem Q h hq => ?_)
    · exact c_disp hz h (by omega) hN (fun c => absurd c nk) (fun c => absurd c (by omega)) (fun c => absurd c (by omega)) (fun c => absurd c (by omega)) (fun c => absurd c (by omega)) (fun c => absurd c (by omega)) (fun _ => hq) (fun c => absurd c (by omega)) (fun c => absurd c (by omega)) (fun c => absurd c (by omega))
    · exact t_disp hg hb hn h (by omega) hs' (fun c => absurd c nk) (fun c => absurd c (by omega)) (fun c => absurd c (by omega)) (fun c => absurd c (by omega)) (fun c => absurd c (by omega)) (fun c => absurd c (by omega)) (fun _ => hq) (fun c => absurd c (by omega)) (fun c => absurd c (by omega)) (fun c => absurd c (by omega))
  by_cases e14 : tCod tb n s = 20014
  · refine TJ.map (r_rule (X := X) (r := 1) (D := D) (D2 := D2) (D3 := D2 + 1) hz hg (by decide) (by omega) (by omega) (by omega) hW hL hs (by omega) (by omega)) (fun m0 mem Q h hq => ?_) (fun m0 mem Q h hq => ?_)
    · exact c_disp hz h (by omega) hN (fun c => absurd c nk) (fun c => absurd c (by omega)) (fun c => absurd c (by omega)) (fun c => absurd c (by omega)) (fun c => absurd c (by omega)) (fun c => absurd c (by omega)) (fun c => absurd c (by omega)) (fun _ => hq) (fun c => absurd c (by omega)) (fun c => absurd c (by omega))
    · exact t_disp hg hb hn h (by omega) hs' (fun c => absurd c nk) (fun c => absurd c (by omega)) (fun c => absurd c (by omega)) (fun c => absurd c (by omega)) (fun c => absurd c (by omega)) (fun c => absurd c (by omega)) (fun c => absurd c (by omega)) (fun _ => hq) (fun c => absurd c (by omega)) (fun c => absurd c (by omega))
  by_cases e15 : tCod tb n s = 20015
  · refine TJ.map (r_rule (X := X) (r := 2) (D := D) (D2 := D2) (D3 := D2 + 1) hz hg (by decide) (by omega) (by omega) (by omega) hW hL hs (by omega) (by omega)) (fun m0 mem Q h hq => ?_) (fun m0 mem Q h hq => ?_)
    · exact c_disp hz h (by omega) hN (fun c => absurd c nk) (fun c => absurd c (by omega)) (fun c => absurd c (by omega)) (fun c => absurd c (by omega)) (fun c => absurd c (by omega)) (fun c => absurd c (by omega)) (fun c => absurd c (by omega)) (fun c => absurd c (by omega)) (fun _ => hq) (fun c => absurd c (by omega))
    · exact t_disp hg hb hn h (by omega) hs' (fun c => absurd c nk) (fun c => absurd c (by omega)) (fun c => absurd c (by omega)) (fun c => absurd c (by omega)) (fun c => absurd c (by omega)) (fun c => absurd c (by omega)) (fun c => absurd c (by omega)) (fun c => absurd c (by omega)) (fun _ => hq) (fun c => absurd c (by omega))
  by_cases e16 : tCod tb n s = 20016
  · refine TJ.map (SJ.fin (X := X) (D := D) (D2 := D2 + 1) hz hg (by omega) (by omega) hs.1 (by omega) (sj_breath (X := X) (D := D) (D2 := D2) hz hg hW (by omega) (by omega) hL hs (by omega))) (fun m0 mem Q h hq => ?_) (fun m0 mem Q h hq => ?_)
    · exact c_disp hz h (by omega) hN (fun c => absurd c nk) (fun c => absurd c (by omega)) (fun c => absurd c (by omega)) (fun c => absurd c (by omega)) (fun c => absurd c (by omega)) (fun c => absurd c (by omega)) (fun c => absurd c (by omega)) (fun c => absurd c (by omega)) (fun c => absurd c (by omega)) (fun _ => hq)
    · exact t_disp hg hb hn h (by omega) hs' (fun c => absurd c nk) (fun c => absurd c (by omega)) (fun c => absurd c (by omega)) (fun c => absurd c (by omega)) (fun c => absurd c (by omega)) (fun c => absurd c (by omega)) (fun c => absurd c (by omega)) (fun c => absurd c (by omega)) (fun c => absurd c (by omega)) (fun _ => hq)
  exfalso
  apply hk
  exact ⟨e2, e3, e7, e8, e10, e13, e14, e15, e16⟩
end STM
