/-! all STATEMENTS of a text -/
section LOOP
variable {X : zX} {rf rg : zF} {p D D2 : Nat} {tb : Nat → Int} {n b : Int}
theorem c_loopF {Q : Int → zF → Prop} {m0 mem : zF} {k pc x3 : Int} (hz : ZX rf p tb n) (h : CSF m0 mem p k pc) (kk : ∀ mem', CSF m0 mem' p k pc → Q 0 mem') : L_parser_read_29 X D rf Q mem p 0 x3 := by
  refine s_parser_read_29 hz.1 hz.2.1 hz.2.2.1 ⟨by decide, fun _ => ?_, fun q => absurd rfl q⟩
  exact s_parser_read_63 hz.1 hz.2.1 hz.2.2.1 ⟨by decide, fun _ => kk mem h, fun q => absurd rfl q⟩
theorem t_loopF {Q : Int → zF → Prop} {m0 mem : zF} {k pc x1 : Int} (hR : zall rg zRK = true) (h : RSF m0 mem b k pc) (hk : 1 ≤ k ∧ k ≤ 6) (kk : L_m_room_179 X D2 rg Q mem x1) : L_m_room_150 X D2 rg Q mem x1 := by
  refine s_m_room_150 hR ?_
  rw [h.2.1]
  exact ⟨by omega, fun _ => kk, fun q => absurd q (by omega)⟩
theorem r_loop (hz : ZX rf p tb n) (hg : zall rg zRK = true) (hD : 71 ≤ D) (hD2 : 11 ≤ D2) : ∀ (m : Nat) (s : Int) (pl : zF) (L : zC), n - s ≤ m → 0 ≤ s → s ≤ n → WX pl L → (L.length : Int) ≤ s → (1 ≤ pl 0 0 ∧ pl 0 0 ≤ 80) → (pl 0 0 < 80 ∨ s = n) →
    (∃ k pc : Int, (1 ≤ k ∧ k ≤ 6) ∧ inI pc ∧ (∀ (m0 mem : zF) (Q : Int → zF → Prop) (x3 : Int), 0 ≤ x3 → x3 ≤ s → CS m0 mem p tb n s pl L → (∀ mem', CSF m0 mem' p k pc → Q 0 mem') → L_parser_read_29 X D rf Q mem p 1 x3) ∧ ∀ (m0 mem : zF) (Q : Int → zF → Prop), RSs m0 mem b tb n s pl L → (∀ mem' x1, RSF m0 mem' b k pc → L_m_room_179 X D2 rg Q mem' x1) → L_m_room_150 X D2 rg Q mem (pl 0 0)) ∨
    (∃ (pl' : zF) (L' : zC), WX pl' L' ∧ (L'.length : Int) ≤ n ∧ (1 ≤ pl' 0 0 ∧ pl' 0 0 ≤ 80) ∧ (∀ (m0 mem : zF) (Q : Int → zF → Prop) (x3 : Int), 0 ≤ x3 → x3 ≤ s → CS m0 mem p tb n s pl L → (∀ mem', CS m0 mem' p tb n n pl' L' → Q 1 mem') → L_parser_read_29 X D rf Q mem p 1 x3) ∧ ∀ (m0 mem : zF) (Q : Int → zF → Prop), RSs m0 mem b tb n s pl L → (∀ mem', RSs m0 mem' b tb n n pl' L' → L_m_room_179 X D2 rg Q mem' (pl' 0 0)) → L_m_room_150 X D2 rg Q mem (pl 0 0)) := by
  obtain ⟨D, rfl⟩ : ∃ e, D = e + 1 := ⟨D - 1, by omega⟩
  obtain ⟨D2, rfl⟩ : ∃ e, D2 = e + 1 := ⟨D2 - 1, by omega⟩
  have hb := hz.2.2.2.2.2.2
  have hn := hz.2.2.2.2.2.1
  have hp := hz.2.2.2.2.1
  have fin : ∀ (pl : zF) (L : zC), WX pl L → (L.length : Int) ≤ n → (1 ≤ pl 0 0 ∧ pl 0 0 ≤ 80) → (∀ (m0 mem : zF) (Q : Int → zF → Prop) (x3 : Int), 0 ≤ x3 → x3 ≤ n → CS m0 mem p tb n n pl L → (∀ mem', CS m0 mem' p tb n n pl L → Q 1 mem') → L_parser_read_29 X (D + 1) rf Q mem p 1 x3) ∧ ∀ (m0 mem : zF) (Q : Int → zF → Prop), RSs m0 mem b tb n n pl L → (∀ mem', RSs m0 mem' b tb n n pl L → L_m_room_179 X (D2 + 1) rg Q mem' (pl 0 0)) → L_m_room_150 X (D2 + 1) rg Q mem (pl 0 0) := by
    intro pl L hW hL hN
    refine ⟨fun m0 mem Q x3 h0 h3 h kk => ?_, fun m0 mem Q h kk => ?_⟩
    · have e63 : L_parser_read_63 X (D + 1) rf Q mem p 1 := by
        refine s_parser_read_63 hz.1 hz.2.1 hz.2.2.1 ?_
        rw [h.pl0]
        exact ⟨by decide, fun q => absurd q (by decide), fun _ => ⟨by omega, fun _ => kk mem h, fun q => absurd (by omega) q⟩⟩
      refine s_parser_read_29 hz.1 hz.2.1 hz.2.2.1 ⟨by decide, fun q => absurd q (by decide), fun _ => ⟨by omega, fun _ => e63, fun _ => ?_⟩⟩
      rw [h.1.c, tCod_E (Int.le_refl n)]
      exact ⟨by decide, fun _ => e63, fun q => absurd rfl q⟩
    · have hf := h.1.1.f (show 0 ≤ n ∧ n ≤ n by omega)
      have e3 : mem 261 3 = 0 := hf.2.2.2.2.2.mpr (Int.le_refl n)
      refine s_m_room_150 hg ?_
      rw [h.1.2.2.2, e3]
      exact ⟨by decide, fun q => absurd rfl q, fun _ => ⟨by decide, fun _ => kk mem h, fun q => absurd rfl q⟩⟩
  intro m
  induction m with
  | zero =>
    intro s pl L hm h0 hsn hW hL hN hor
    have es : s = n := by omega
    subst es
    exact Or.inr ⟨pl, L, hW, hL, hN, (fin pl L hW hL hN).1, (fin pl L hW hL hN).2⟩
  | succ m ih =>
    intro s pl L hm h0 hsn hW hL hN hor
    by_cases es : s = n
    · subst es
      exact Or.inr ⟨pl, L, hW, hL, hN, (fin pl L hW hL hN).1, (fin pl L hW hL hN).2⟩
    have hs : 0 ≤ s ∧ s < n := by omega
    have hcE : tCod tb n s ≠ -2 := by
      have := tCod_rng hb h0
      omega
    have cgo : ∀ (m0 mem : zF) (Q : Int → zF → Prop) (x3 : Int), 0 ≤ x3 → x3 ≤ s → CS m0 mem p tb n s pl L → Ci X (D + 1) 27 [(2, 3)] rf mem (fun r6 mem7 => L_parser_read_29 X (D + 1) rf Q mem7 p r6 (x3 + 1)) → L_parser_read_29 X (D + 1) rf Q mem p 1 x3 := by
      intro m0 mem Q x3 h0 h3 h hq
      refine s_parser_read_29 hz.1 hz.2.1 hz.2.2.1 ⟨by decide, fun q => absurd q (by decide), fun _ => ⟨by omega, fun q => absurd q (by omega), fun _ => ?_⟩⟩
      rw [h.1.c]
      exact ⟨tCod_I hb hs.1, fun q => absurd q hcE, fun _ => hq⟩
    have rgo : ∀ (m0 mem : zF) (Q : Int → zF → Prop), RSs m0 mem b tb n s pl L → Cv X (D2 + 1) 236 [(2, 261)] rg mem (fun m => Cv X (D2 + 1) 237 [(2, 261), (0, pl 0 0 + 1)] rg m (fun mem8 => L_m_room_150 X (D2 + 1) rg Q mem8 (pl 0 0 + 1))) → L_m_room_150 X (D2 + 1) rg Q mem (pl 0 0) := by
      intro m0 mem Q h hq
      have hf := h.1.1.f (show 0 ≤ s ∧ s ≤ n by omega)
      have e3 : mem 261 3 ≠ 0 := fun c => by have := hf.2.2.2.2.2.mp c; omega
      refine s_m_room_150 hg ?_
      rw [h.1.2.2.2]
      exact ⟨by decide, fun q => absurd rfl q, fun _ => ⟨by omega, fun q => absurd q e3, fun _ => hq⟩⟩
    rcases r_stm (X := X) (D := D) (D2 := D2) (b := b) hz hg hW (by omega) (by omega) hL hs (by omega) with ⟨k, pc, hk, hpc, h1, h2⟩ | ⟨s2, pl2, L2, a1, a2, a3, a4, h1, h2⟩
    · refine Or.inl ⟨k, pc, hk, hpc, fun m0 mem Q x3 x0 x1 h kk => cgo m0 mem Q x3 x0 x1 h (h1 m0 mem _ h (fun m2 g2 => c_loopF hz g2 kk)), fun m0 mem Q h kk => rgo m0 mem Q h (h2 m0 mem _ h (fun m2 g2 => t_loopF hg g2 hk (kk m2 _ g2)))⟩
    · rcases h2 with ⟨x, h2⟩ | ⟨x, y, h2⟩
      · rcases ih s2 pl2 L2 (by omega) (by omega) a1.2 a2 a3 (by omega) x with ⟨k, pc, hk, hpc, h3, h4⟩ | ⟨pl3, L3, b1, b2, b3, h3, h4⟩
        · refine Or.inl ⟨k, pc, hk, hpc, fun m0 mem Q x3 x0 x1 h kk => cgo m0 mem Q x3 x0 x1 h (h1 m0 mem _ h (fun m2 g2 => h3 m0 m2 Q (x3 + 1) (by omega) (by omega) g2 kk)), fun m0 mem Q h kk => rgo m0 mem Q h (h2 m0 mem _ h (fun m2 g2 => ?_))⟩
          have := h4 m0 m2 Q g2 kk
          rw [a4] at this
          exact this
        · refine Or.inr ⟨pl3, L3, b1, b2, b3, fun m0 mem Q x3 x0 x1 h kk => cgo m0 mem Q x3 x0 x1 h (h1 m0 mem _ h (fun m2 g2 => h3 m0 m2 Q (x3 + 1) (by omega) (by omega) g2 kk)), fun m0 mem Q h kk => rgo m0 mem Q h (h2 m0 mem _ h (fun m2 g2 => ?_))⟩
          have := h4 m0 m2 Q g2 kk
          rw [a4] at this
          exact this
      · -- the 81st
        refine Or.inl ⟨6, s2, by decide, by omega, fun m0 mem Q x3 x0 x1 h kk => cgo m0 mem Q x3 x0 x1 h (h1 m0 mem _ h (fun m2 g2 => ?_)), fun m0 mem Q h kk => rgo m0 mem Q h (h2 m0 mem _ h (fun m2 g2 => t_loopF hg g2 (by decide) (kk m2 _ g2)))⟩
        have hc2 : tCod tb n s2 ≠ -2 := by
          have := tCod_rng hb (show 0 ≤ s2 by omega)
          omega
        refine s_parser_read_29 hz.1 hz.2.1 hz.2.2.1 ⟨by decide, fun q => absurd q (by decide), fun _ => ⟨by omega, fun q => absurd q (by omega), fun _ => ?_⟩⟩
        rw [g2.1.c]
        refine ⟨tCod_I hb (by omega), fun q => absurd q hc2, fun _ => ?_⟩
        refine s_parser_readStatement hz.1 hz.2.1 hz.2.2.1 ?_
        rw [g2.pl0, x]
        refine ⟨by decide, fun _ => ?_, fun q => absurd q (by decide)⟩
        refine s_parser_readStatement_15 hz.1 hz.2.1 hz.2.2.1 ?_
        rw [g2.pl0, x]
        refine ⟨by decide, fun q => absurd q (by decide), fun _ => s_parser_refuse hz.1 hz.2.1 hz.2.2.1 ?_⟩
        refine c_loopF (k := 6) (pc := s2) (m0 := m0) hz ⟨fun i y1 y2 y3 => ?_, ?_, ?_⟩ kk
        · rw [zup_row _ _ _ y1, zup_row _ _ _ y1, zup_row _ _ _ y1]
          exact g2.2.1.1 i y1 y2 y3
        · rw [zup_ne _ _ _ _ (by decide), zup_ne _ _ _ _ (by decide), zup_at]
        · rw [zup_at, zup_row _ _ _ (by decide), zup_row _ _ _ (by decide)]
          exact g2.1.s
end LOOP
