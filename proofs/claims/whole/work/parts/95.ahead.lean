/-! the reference's next token: numbers -/
section AHEAD2
variable {X : zX} {rf : zF} {d : Nat} {tb : Nat → Int} {n : Int}
def tD (w c : Int) : Prop := 0 ≤ w ∧ (c ≤ 0 → w < 1) ∧ (c ≤ 1 → w < 10) ∧ (c ≤ 2 → w < 100) ∧ (c ≤ 3 → w < 1000) ∧ w < 10000
/-- the digits of a number, one by one -/
theorem t_num {Q : zF → Prop} (hR : zall rf zRK = true) (hn : 0 ≤ n ∧ n ≤ 1600) (hbt : ∀ j : Nat, (j : Int) < n → 0 ≤ tb j ∧ tb j ≤ 255) : ∀ (m : Nat) {x c w bp : Int} {mem : zF}, mem 261 2 = n → (∀ j : Nat, (j : Int) < n → mem 262 j = tb j) → 0 ≤ x → x + m = n → 0 ≤ c → c ≤ x → mem 261 6 = w → mem 261 12 = bp → inI bp → tD w c → (∀ mem', zFA mem mem' → mem' 261 5 = trun zisD tb m x → mem' 261 3 = mem 261 3 → mem' 261 4 = mem 261 4 → mem' 261 7 = mem 261 7 → mem' 261 6 = tV tb (min (4 - c).toNat (trun zisD tb m x - x).toNat) x w → mem' 261 12 = (if bp = -1 ∧ c ≤ 4 ∧ 4 - c < trun zisD tb m x - x then x + (4 - c) else bp) → Q mem') → L_m_ahead_204 X d rf Q mem x 0 1 4 c
  | 0, x, c, w, bp, mem, h2, hb, h0, hx, hc, hc2, hw, hp, hpI, hwr, kk => by
    refine s_m_ahead_204 hR ?_
    rw [h2]
    refine ⟨by omega, fun _ => kk _ (zFA.rfl.up (by decide)) (zup_at _ _ _ _) (zup_ne _ _ _ _ (by decide)) (zup_ne _ _ _ _ (by decide)) (zup_ne _ _ _ _ (by decide)) ?_ ?_, fun q => absurd (by omega) q⟩
    · rw [zup_ne _ _ _ _ (by decide), hw]
      have e : (trun zisD tb 0 x - x).toNat = 0 := by unfold trun; omega
      rw [e, Nat.min_zero]
      rfl
    · rw [zup_ne _ _ _ _ (by decide), hp, if_neg]
      unfold trun
      omega
  | m + 1, x, c, w, bp, mem, h2, hb, h0, hx, hc, hc2, hw, hp, hpI, hwr, kk => by
    have bx := hbt x.toNat (by omega)
    have ex := hb x.toNat (by omega)
    refine s_m_ahead_204 hR ?_
    rw [h2, ex]
    refine ⟨by omega, fun q => absurd q (by omega), fun _ => ⟨by decide, fun _ => ⟨by omega, t_isD hR (by omega) ?_⟩, fun q => absurd rfl q⟩⟩
    by_cases hl : zisD (tb x.toNat) = true
    · rw [if_pos hl]
      refine ⟨by decide, fun q => absurd q (by decide), fun _ => ?_⟩
      have er : trun zisD tb (m + 1) x = trun zisD tb m (x + 1) := by
        show (if zisD (tb x.toNat) = true then trun zisD tb m (x + 1) else x) = _
        rw [if_pos hl]
      have rg := trun_rng (P := zisD) (tb := tb) m (x + 1)
      rw [er] at kk
      -- on to the next letter
      have go : ∀ (m2 : zF) (w2 bp2 : Int), zFA mem m2 → m2 261 3 = mem 261 3 → m2 261 4 = mem 261 4 → m2 261 7 = mem 261 7 → m2 261 6 = w2 → m2 261 12 = bp2 → inI bp2 → tD w2 (c + 1) → tV tb (min (4 - (c + 1)).toNat (trun zisD tb m (x + 1) - (x + 1)).toNat) (x + 1) w2 = tV tb (min (4 - c).toNat (trun zisD tb m (x + 1) - x).toNat) x w → (if bp2 = -1 ∧ c + 1 ≤ 4 ∧ 4 - (c + 1) < trun zisD tb m (x + 1) - (x + 1) then x + 1 + (4 - (c + 1)) else bp2) = (if bp = -1 ∧ c ≤ 4 ∧ 4 - c < trun zisD tb m (x + 1) - x then x + (4 - c) else bp) → L_m_ahead_204 X d rf Q m2 (x + 1) 0 1 4 (c + 1) := by
        intro m2 w2 bp2 f2 e3 e4 e6 e7 e12 hI hB h7 h12
        refine t_num hR hn hbt m (by rw [f2.2 2 (by decide) (by decide) (by decide) (by decide) (by decide) (by decide)]; exact h2) (fun j hj => by rw [f2.1 262 (by decide)]; exact hb j hj) (by omega) (by omega) (by omega) (by omega) e7 e12 hI hB ?_
        intro m3 f3 g5 g3 g4 g6 g7 g12
        exact kk m3 (f2.trans f3) g5 (g3.trans e3) (g4.trans e4) (g6.trans e6) (g7.trans h7) (g12.trans h12)
      unfold tD at hwr
      by_cases c4 : c < 4
      · refine s_m_ahead_243 hR ⟨by omega, fun _ => ?_, fun q => absurd q (by omega)⟩
        refine s_m_ahead_263 hR ⟨by omega, fun q => absurd q (by omega), fun _ => ⟨by decide, fun _ => ?_, fun q => absurd rfl q⟩⟩
        refine s_m_ahead_293 hR ?_
        rw [ex, hw]
        refine ⟨by omega, fun q => absurd q (by omega), fun _ => ⟨by decide, fun q => absurd q (by decide), fun _ => ⟨by omega, ?_⟩⟩⟩
        have hd9 : 48 ≤ tb x.toNat ∧ tb x.toNat ≤ 57 := of_decide_eq_true hl
        refine go _ (10 * w + tb x.toNat - 48) bp (zFA.rfl.up (by decide)) (zup_ne _ _ _ _ (by decide)) (zup_ne _ _ _ _ (by decide)) (zup_ne _ _ _ _ (by decide)) (zup_at _ _ _ _) (by rw [zup_ne _ _ _ _ (by decide)]; exact hp) hpI (by unfold tD; omega) ?_ ?_
        · have e : min (4 - c).toNat (trun zisD tb m (x + 1) - x).toNat = min (4 - (c + 1)).toNat (trun zisD tb m (x + 1) - (x + 1)).toNat + 1 := by omega
          rw [e]
          rfl
        · by_cases q : bp = -1 ∧ c ≤ 4 ∧ 4 - c < trun zisD tb m (x + 1) - x
          · rw [if_pos q, if_pos (by omega)]; omega
          · rw [if_neg q, if_neg (by omega)]
      · have same : ∀ (m2 : zF) (bp2 : Int), zFA mem m2 → m2 261 3 = mem 261 3 → m2 261 4 = mem 261 4 → m2 261 7 = mem 261 7 → m2 261 6 = w → m2 261 12 = bp2 → inI bp2 → bp2 = (if bp = -1 ∧ c ≤ 4 ∧ 4 - c < trun zisD tb m (x + 1) - x then x + (4 - c) else bp) → L_m_ahead_263 X d rf Q m2 x 0 1 4 c := by
          intro m2 bp2 f2 e3 e4 e6 e7 e12 hI h12
          refine s_m_ahead_263 hR ⟨by omega, fun _ => ?_, fun q => absurd (by omega) q⟩
          refine s_m_ahead_293 hR ⟨by omega, fun _ => ?_, fun q => absurd (by omega) q⟩
          refine go m2 w bp2 f2 e3 e4 e6 e7 e12 hI (by unfold tD; omega) ?_ ?_
          · have e : (4 - c).toNat = 0 := by omega
            have e1 : (4 - (c + 1)).toNat = 0 := by omega
            rw [e, e1, Nat.zero_min, Nat.zero_min]
            rfl
          · rw [if_neg (by omega)]; exact h12
        refine s_m_ahead_243 hR ⟨by omega, fun q => ?_, fun q => ?_⟩
        · exact same mem bp zFA.rfl rfl rfl rfl hw hp hpI (by rw [if_neg (by omega)])
        · rw [hp]
          refine ⟨hpI, fun q2 => ?_, fun q2 => ?_⟩
          · exact same mem bp zFA.rfl rfl rfl rfl hw hp hpI (by rw [if_neg (by omega)])
          · refine same (zup mem 261 12 x) x (zFA.rfl.up (by decide)) (zup_ne _ _ _ _ (by decide)) (zup_ne _ _ _ _ (by decide)) (zup_ne _ _ _ _ (by decide)) (by rw [zup_ne _ _ _ _ (by decide)]; exact hw) (zup_at _ _ _ _) (by omega) ?_
            rw [if_pos (by omega)]
            omega
    · rw [if_neg hl]
      have er : trun zisD tb (m + 1) x = x := by
        show (if zisD (tb x.toNat) = true then trun zisD tb m (x + 1) else x) = _
        rw [if_neg hl]
      rw [er] at kk
      refine ⟨by decide, fun _ => kk _ (zFA.rfl.up (by decide)) (zup_at _ _ _ _) (zup_ne _ _ _ _ (by decide)) (zup_ne _ _ _ _ (by decide)) (zup_ne _ _ _ _ (by decide)) ?_ ?_, fun q => absurd rfl q⟩
      · rw [zup_ne _ _ _ _ (by decide), hw]
        have e : (x - x).toNat = 0 := by omega
        rw [e, Nat.min_zero]
        rfl
      · rw [zup_ne _ _ _ _ (by decide), hp, if_neg (by omega)]
end AHEAD2
