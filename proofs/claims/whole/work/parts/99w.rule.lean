/-! the sign behind a STATEMENT; thins, bursts, hue -/
section FIN
variable {X : zX} {rf rg m0 mem : zF} {p D : Nat} {tb : Nat → Int} {n b s : Int} {pl : zF} {L : zC}
theorem c_fin {Q : Int → zF → Prop} (hz : ZX rf p tb n) (h : CS m0 mem p tb n s pl L) (hl : L.length ≤ 1600) (hD : 2 ≤ D) (kk : tCod tb n s = 10059 → ∀ mem', CS m0 mem' p tb n (tNxt tb n s) (zup pl 0 0 (pl 0 0 + 1)) L → Q 1 mem') (kf : tCod tb n s ≠ 10059 → ∀ mem', CSF m0 mem' p 1 (tPlc tb n s) → Q 0 mem') : L_parser_readStatement_253 X D rf Q mem p 1 := by
  have hp := hz.2.2.2.2.1
  refine s_parser_readStatement_253 hz.1 hz.2.1 hz.2.2.1 ⟨by decide, fun q => absurd q (by decide), fun _ => ?_⟩
  rw [h.pl0]
  have g := h.up0 (j := 0) (v := pl 0 0 + 1) hp
  exact g.ce.sign hz hl (by omega) (by decide) (fun e m2 h2 => ⟨by decide, fun q => absurd q (by decide), fun _ => kk e m2 (h2.cs hp g)⟩) (fun e m2 h2 => ⟨by decide, fun _ => kf e m2 (h2.cs hp g), fun q => absurd rfl q⟩)
theorem c_finF {Q : Int → zF → Prop} {k pc : Int} (hz : ZX rf p tb n) (h : CSF m0 mem p k pc) (kk : ∀ mem', CSF m0 mem' p k pc → Q 0 mem') : L_parser_readStatement_253 X D rf Q mem p 0 := by
  have hp := hz.2.2.2.2.1
  exact s_parser_readStatement_253 hz.1 hz.2.1 hz.2.2.1 ⟨by decide, fun _ => kk _ (h.up0 hp), fun q => absurd rfl q⟩
theorem RSs.p00 {v : Int} (h : RSs m0 mem b tb n s pl L) : RSs m0 mem b tb n s (zup pl 0 0 v) L := by
  obtain ⟨a1, a2, a3, a4, a5⟩ := h
  have p1 : ∀ i, i ≠ 0 → (zup pl 0 0 v) i = pl i := fun i x => zup_row _ _ _ x
  have p0 : ∀ k, k ≠ 0 → (zup pl 0 0 v) 0 k = pl 0 k := fun k x => zup_ne _ _ _ _ x
  refine ⟨a1, a2, a3, a4, ?_⟩
  unfold RQ
  rw [p0 1 (by decide), p0 2 (by decide), p0 3 (by decide), p0 4 (by decide), p0 5 (by decide), p1 1 (by decide), p1 2 (by decide), p1 3 (by decide), p1 4 (by decide), p1 5 (by decide), p1 6 (by decide), p1 7 (by decide), p1 8 (by decide), p1 11 (by decide), p1 12 (by decide)]
  exact a5
theorem t_fin17 {Q : zF → Prop} (hR : zall rg zRK = true) (hn : mem 261 2 = n ∧ 0 ≤ n ∧ n ≤ 1600) (hb : ∀ j : Nat, (j : Int) < n → mem 262 j = tb j ∧ 0 ≤ tb j ∧ tb j ≤ 255) {N : Int} : ∀ (m : Nat) {x : Int}, 0 ≤ x → x + m = n → L_m_finishes_53 X D rg Q mem N (trun zisB tb m x) → L_m_finishes_17 X D rg Q mem N x
  | 0, x, h0, hx, kk => by
    refine s_m_finishes_17 hR ?_
    rw [hn.1]
    exact ⟨by omega, fun _ => kk, fun q => absurd (by omega) q⟩
  | m + 1, x, h0, hx, kk => by
    have hbx := hb x.toNat (by omega)
    refine s_m_finishes_17 hR ?_
    rw [hn.1, hbx.1]
    unfold trun at kk
    refine ⟨by omega, fun q => absurd q (by omega), fun _ => ⟨by omega, by omega, fun q => ?_, fun q => ⟨by omega, by omega, fun q2 => ?_, fun q2 => ?_⟩⟩⟩
    · rw [if_pos (by unfold zisB; rw [decide_eq_true_eq]; omega)] at kk
      exact t_fin17 hR hn hb m (by omega) (by omega) kk
    · rw [if_neg (by unfold zisB; rw [decide_eq_true_eq]; omega)] at kk
      exact kk
    · rw [if_pos (by unfold zisB; rw [decide_eq_true_eq]; omega)] at kk
      exact t_fin17 hR hn hb m (by omega) (by omega) kk
theorem t_finishes {Q : zF → Prop} (hR : zall rg zRK = true) (hb : TBy tb n) (hn : 0 ≤ n ∧ n ≤ 1600) (h : RSs m0 mem b tb n s pl L) (hD : 4 ≤ D) (hs : 0 ≤ s ∧ s ≤ n) {N : Int} (hN : inI N) (kf : tCod tb n s ≠ 10059 → ∀ mem', RSF m0 mem' b 1 (tPlc tb n s) → Q mem') (k6 : tCod tb n s = 10059 → N = 80 → tNxt tb n s < n → ∀ mem', RSF m0 mem' b 6 (tNxt tb n s) → Q mem') (kk : tCod tb n s = 10059 → ¬ (N = 80 ∧ tNxt tb n s < n) → ∀ mem', RSs m0 mem' b tb n (tNxt tb n s) pl L → Q mem') : Cv X D 237 [(2, 261), (0, N)] rg mem Q := by
  obtain ⟨d, rfl⟩ : ∃ d, D = d + 1 := ⟨D - 1, by omega⟩
  have hf := h.1.1.f hs
  have h8 := h.1.2.2.2
  refine s_m_finishes hR (t_lex hR (by omega) hb hn.2 hs h.1 (fun hc => ?_) (fun hc => ?_))
  · rw [h8]
    refine ⟨by decide, fun _ => ?_, fun q => absurd (by decide) q⟩
    have he : 0 ≤ tEnd tb n s ∧ tEnd tb n s ≤ n := by
      by_cases q : s < n
      · have := tEnd_rng (tb := tb) q; omega
      · unfold tEnd; rw [if_pos (by omega)]; exact hs
    rw [hf.2.1]
    refine t_fin17 hR ⟨h.1.2.1, hn⟩ (fun j hj => ⟨h.1.2.2.1.1 j hj, ?_⟩) (n - tEnd tb n s).toNat he.1 (by omega) ?_
    · have := hb (j : Int) (by omega) hj
      rw [Int.toNat_natCast] at this
      exact this
    show L_m_finishes_53 X d rg Q mem N (tNxt tb n s)
    have must : ¬ (tCod tb n s = 10059 ∧ N = 80 ∧ tNxt tb n s < n) → Cv X d 205 [(2, 261), (0, 59)] rg mem Q := by
      intro q
      refine t_must hR (by omega) hb hn hs h.1 (by decide) (fun e m2 f2 t2 => kk e (fun c => q ⟨e, c⟩) m2 (h.fa f2 t2)) (fun e => kf e _ (h.flt hs hn.2))
    refine s_m_finishes_53 hR (t_isSign hR hb hs h.1 hc (by decide) (fun e => ⟨by decide, fun c => absurd c (by decide), fun _ => ⟨hN, fun q => must (fun c => q c.2.1), fun q => ?_⟩⟩) (fun e => ⟨by decide, fun _ => must (fun c => e c.1), fun c => absurd rfl c⟩))
    rw [h.1.2.1]
    have hx : 0 ≤ tNxt tb n s ∧ tNxt tb n s ≤ n := by have := tNxt_le (tb := tb) hs.2; omega
    refine ⟨by omega, fun q2 => must (fun c => by omega), fun q2 => t_blame hR h8 ?_⟩
    have hF := h.flt (k := 6) (pc := tNxt tb n s) hs hn.2
    obtain ⟨d2, rfl⟩ : ∃ e, d = e + 1 := ⟨d - 1, by omega⟩
    have hT : TKR (zflt mem 6 (tNxt tb n s)) tb n s := by
      have ez : ∀ j, j ≠ 8 → j ≠ 9 → zflt mem 6 (tNxt tb n s) 261 j = mem 261 j := fun j a c => by unfold zflt; rw [zup_ne _ _ _ _ c, zup_ne _ _ _ _ a]
      have := h.1.1
      unfold TKR
      rw [ez 3 (by decide) (by decide), ez 4 (by decide) (by decide), ez 5 (by decide) (by decide), ez 6 (by decide) (by decide), ez 7 (by decide) (by decide), ez 12 (by decide) (by decide)]
      exact this
    refine s_m_must hR (t_lexF hR (by omega) hF.2.1 (by decide) hF.2.2.2.1 (t_isSignT hR hb hs hT hc (by decide) (fun _ => ⟨by decide, fun _ => ?_, fun c => absurd c (by decide)⟩) (fun c => absurd e c)))
    rw [zflt_8]
    exact ⟨by decide, fun _ => k6 e q (by omega) _ hF, fun c => absurd c (by decide)⟩
  · rw [zflt_8]
    exact ⟨by decide, fun q => absurd q (by decide), fun _ => kf (by omega) _ (h.flt hs hn.2)⟩
theorem t_finF {Q : zF → Prop} {k pc N : Int} (hR : zall rg zRK = true) (hD : 2 ≤ D) (h : RSF m0 mem b k pc) (hk : 1 ≤ k ∧ k ≤ 6) (kk : Q mem) : Cv X D 237 [(2, 261), (0, N)] rg mem Q := by
  obtain ⟨d, rfl⟩ : ∃ d, D = d + 1 := ⟨D - 1, by omega⟩
  refine s_m_finishes hR (t_lexF hR (by omega) h.2.1 hk h.2.2.2.1 ?_)
  rw [h.2.1]
  exact ⟨by omega, fun q => absurd q (by omega), fun _ => kk⟩
end FIN
/-- a STATEMENT with its sign -/
def TJ (p : Nat) (tb : Nat → Int) (n b : Int) (cr : zF → (Int → zF → Prop) → Prop) (rr : zF → (zF → Prop) → Prop) (pl : zF) (L : zC) (s : Int) : Prop :=
  (∃ k pc : Int, (1 ≤ k ∧ k ≤ 6) ∧ inI pc ∧ (∀ (m0 mem : zF) (Q : Int → zF → Prop), CS m0 mem p tb n s pl L → (∀ mem', CSF m0 mem' p k pc → Q 0 mem') → cr mem Q) ∧ ∀ (m0 mem : zF) (Q : zF → Prop), RSs m0 mem b tb n s pl L → (∀ mem', RSF m0 mem' b k pc → Q mem') → rr mem Q) ∨
  (∃ (s' : Int) (pl' : zF) (L' : zC), (s < s' ∧ s' ≤ n) ∧ WX pl' L' ∧ (L'.length : Int) ≤ s' ∧ pl' 0 0 = pl 0 0 + 1 ∧ (∀ (m0 mem : zF) (Q : Int → zF → Prop), CS m0 mem p tb n s pl L → (∀ mem', CS m0 mem' p tb n s' pl' L' → Q 1 mem') → cr mem Q) ∧ (((pl' 0 0 < 80 ∨ s' = n) ∧ ∀ (m0 mem : zF) (Q : zF → Prop), RSs m0 mem b tb n s pl L → (∀ mem', RSs m0 mem' b tb n s' pl' L' → Q mem') → rr mem Q) ∨ (pl' 0 0 = 80 ∧ s' < n ∧ ∀ (m0 mem : zF) (Q : zF → Prop), RSs m0 mem b tb n s pl L → (∀ mem', RSF m0 mem' b 6 s' → Q mem') → rr mem Q)))
theorem WX.p00 {pl : zF} {L : zC} {v : Int} (h : WX pl L) (hv : 0 ≤ v ∧ v ≤ 80) : WX (zup pl 0 0 v) L := by
  obtain ⟨⟨hn, h3, hnames⟩, hru⟩ := h
  have p1 : ∀ i, i ≠ 0 → (zup pl 0 0 v) i = pl i := fun i x => zup_row _ _ _ x
  have p0 : ∀ k, k ≠ 0 → (zup pl 0 0 v) 0 k = pl 0 k := fun k x => zup_ne _ _ _ _ x
  refine ⟨⟨?_, by rw [p0 1 (by decide)]; exact h3, by rw [p1 1 (by decide), p1 2 (by decide)]; exact hnames⟩, fun r hr => ?_⟩
  · unfold WP
    rw [p0 1 (by decide), p0 2 (by decide), p0 3 (by decide), p0 4 (by decide), p0 5 (by decide), p1 1 (by decide), p1 3 (by decide), p1 4 (by decide), p1 5 (by decide), p1 6 (by decide), p1 7 (by decide), p1 8 (by decide), zup_at]
    exact ⟨hn.1, hn.2.1, hn.2.2.1, hn.2.2.2.1, hn.2.2.2.2.1, hn.2.2.2.2.2.1, hn.2.2.2.2.2.2.1, hn.2.2.2.2.2.2.2.1, trivial, hv⟩
  · have := hru r hr
    unfold RuOK at this ⊢
    rw [p1 11 (by decide), p1 12 (by decide)]
    exact this
section TJF
variable {X : zX} {rf rg : zF} {p D D2 : Nat} {tb : Nat → Int} {n b s : Int} {pl : zF} {L : zC}
/-- with the sign behind it -/
theorem SJ.fin {cr : zF → (Int → zF → Prop) → Prop} {rr : zF → (zF → Prop) → Prop} (hz : ZX rf p tb n) (hg : zall rg zRK = true) (hD : 2 ≤ D) (hD2 : 4 ≤ D2) (hs : 0 ≤ s) (hN : 0 ≤ pl 0 0 ∧ pl 0 0 < 80) (h : SJ p tb n b cr rr pl L s) : TJ p tb n b (fun mem Q => cr mem (fun v m => L_parser_readStatement_253 X D rf Q m p v)) (fun mem Q => rr mem (fun m => Cv X D2 237 [(2, 261), (0, pl 0 0 + 1)] rg m Q)) pl L s := by
  have hb := hz.2.2.2.2.2.2
  have hn := hz.2.2.2.2.2.1
  rcases h with ⟨k, pc, hk, hpc, hc, hr⟩ | ⟨s2, pl2, L2, hs2, hW2, hL2, e0, hc, hr⟩
  · exact Or.inl ⟨k, pc, hk, hpc, fun m0 mem Q h kk => hc m0 mem _ h (fun m2 h2 => c_finF hz h2 kk), fun m0 mem Q h kk => hr m0 mem _ h (fun m2 h2 => t_finF hg (by omega) h2 hk (kk m2 h2))⟩
  · have hs2' : 0 ≤ s2 ∧ s2 ≤ n := by omega
    by_cases e : tCod tb n s2 = 10059
    · have hsn : s2 < n := by
        have := tCod_rng hb hs2'.1
        omega
      have hnx := tNxt_rng (tb := tb) hsn
      have e00 : (zup pl2 0 0 (pl2 0 0 + 1)) 0 0 = pl 0 0 + 1 := by rw [zup_at, e0]
      refine Or.inr ⟨tNxt tb n s2, zup pl2 0 0 (pl2 0 0 + 1), L2, ⟨by omega, hnx.2⟩, hW2.p00 (by omega), by omega, e00, fun m0 mem Q h kk => hc m0 mem _ h (fun m2 h2 => c_fin hz h2 (by omega) hD (fun _ => kk) (fun c => absurd e c)), ?_⟩
      rw [e00]
      by_cases q : pl 0 0 + 1 = 80 ∧ tNxt tb n s2 < n
      · exact Or.inr ⟨q.1, q.2, fun m0 mem Q h kk => hr m0 mem _ h (fun m2 h2 => t_finishes hg hb hn h2 hD2 hs2' (by omega) (fun c => absurd e c) (fun _ _ _ => kk) (fun _ c => absurd q c))⟩
      · exact Or.inl ⟨by omega, fun m0 mem Q h kk => hr m0 mem _ h (fun m2 h2 => t_finishes hg hb hn h2 hD2 hs2' (by omega) (fun c => absurd e c) (fun _ c1 c2 => absurd ⟨c1, c2⟩ q) (fun _ _ m3 h3 => kk m3 h3.p00))⟩
    · exact Or.inl ⟨1, tPlc tb n s2, by decide, tPlc_I hs2' hn.2, fun m0 mem Q h kk => hc m0 mem _ h (fun m2 h2 => c_fin hz h2 (by omega) hD (fun c => absurd c e) (fun _ => kk)), fun m0 mem Q h kk => hr m0 mem _ h (fun m2 h2 => t_finishes hg hb hn h2 hD2 hs2' (by omega) (fun _ => kk) (fun c => absurd c e) (fun c => absurd c e))⟩
end TJF
