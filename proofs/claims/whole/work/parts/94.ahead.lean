/-! the reference's next token -/
def tW (tb : Nat → Int) : Nat → Int → Int → Int
  | 0, _, w => w
  | k + 1, x, w => tW tb k (x + 1) (256 * w + tb x.toNat)
def tV (tb : Nat → Int) : Nat → Int → Int → Int
  | 0, _, w => w
  | k + 1, x, w => tV tb k (x + 1) (10 * w + tb x.toNat - 48)
/-- the frame of a token of the reference -/
def zFA (mem mem' : zF) : Prop := (∀ i, i ≠ 261 → mem' i = mem i) ∧ ∀ j, j ≠ 3 → j ≠ 4 → j ≠ 5 → j ≠ 6 → j ≠ 7 → j ≠ 12 → mem' 261 j = mem 261 j
theorem zFA.rfl {a : zF} : zFA a a := ⟨fun _ _ => Eq.refl _, fun _ _ _ _ _ _ _ => Eq.refl _⟩
theorem zFA.trans {a b c : zF} (h1 : zFA a b) (h2 : zFA b c) : zFA a c := ⟨fun i x => (h2.1 i x).trans (h1.1 i x), fun j p q r s t u => (h2.2 j p q r s t u).trans (h1.2 j p q r s t u)⟩
theorem zFA.up {a b : zF} {j : Nat} {v : Int} (h : zFA a b) (hj : j = 3 ∨ j = 4 ∨ j = 5 ∨ j = 6 ∨ j = 7 ∨ j = 12) : zFA a (zup b 261 j v) := ⟨fun i x => by rw [zup_row _ _ _ x]; exact h.1 i x, fun k p q r s t u => by rw [zup_ne _ _ _ _ (by omega)]; exact h.2 k p q r s t u⟩
section AHEAD
variable {X : zX} {rf : zF} {d : Nat} {tb : Nat → Int} {n : Int}
def tB (w c : Int) : Prop := 0 ≤ w ∧ (c ≤ 0 → w < 1) ∧ (c ≤ 1 → w < 256) ∧ (c ≤ 2 → w < 65536) ∧ (c ≤ 3 → w < 16777216) ∧ (c ≤ 4 → w < 4294967296) ∧ (c ≤ 5 → w < 1099511627776)
/-- the letters of a word, one by one -/
theorem t_word {Q : zF → Prop} (hR : zall rf zRK = true) (hn : 0 ≤ n ∧ n ≤ 1600) (hbt : ∀ j : Nat, (j : Int) < n → 0 ≤ tb j ∧ tb j ≤ 255) : ∀ (m : Nat) {x c w bp : Int} {mem : zF}, mem 261 2 = n → (∀ j : Nat, (j : Int) < n → mem 262 j = tb j) → 0 ≤ x → x + m = n → 0 ≤ c → c ≤ x → mem 261 7 = w → mem 261 12 = bp → inI bp → tB w c → (∀ mem', zFA mem mem' → mem' 261 5 = trun zisL tb m x → mem' 261 3 = mem 261 3 → mem' 261 4 = mem 261 4 → mem' 261 6 = mem 261 6 → mem' 261 7 = tW tb (min (6 - c).toNat (trun zisL tb m x - x).toNat) x w → mem' 261 12 = (if bp = -1 ∧ c ≤ 6 ∧ 6 - c < trun zisL tb m x - x then x + (6 - c) else bp) → Q mem') → L_m_ahead_204 X d rf Q mem x 1 0 6 c
  | 0, x, c, w, bp, mem, h2, hb, h0, hx, hc, hc2, hw, hp, hpI, hwr, kk => by
    refine s_m_ahead_204 hR ?_
    rw [h2]
    refine ⟨by omega, fun _ => kk _ (zFA.rfl.up (by decide)) (zup_at _ _ _ _) (zup_ne _ _ _ _ (by decide)) (zup_ne _ _ _ _ (by decide)) (zup_ne _ _ _ _ (by decide)) ?_ ?_, fun q => absurd (by omega) q⟩
    · rw [zup_ne _ _ _ _ (by decide), hw]
      have e : (trun zisL tb 0 x - x).toNat = 0 := by unfold trun; omega
      rw [e, Nat.min_zero]
      rfl
    · rw [zup_ne _ _ _ _ (by decide), hp, if_neg]
      unfold trun
      omega
  | m + 1, x, c, w, bp, mem, h2, hb, h0, hx, hc, hc2, hw, hp, hpI, hwr, kk => by
    have bx := hbt x.toNat (by omega)
    have ex := hb x.toNat (by omega)
    refine s_m_ahead_204 hR ?_
    rw [h2, ex]
    refine ⟨by omega, fun q => absurd q (by omega), fun _ => ⟨by decide, fun q => absurd q (by decide), fun _ => ⟨by omega, t_isL hR (by omega) ?_⟩⟩⟩
    by_cases hl : zisL (tb x.toNat) = true
    · rw [if_pos hl]
      refine ⟨by decide, fun q => absurd q (by decide), fun _ => ?_⟩
      have er : trun zisL tb (m + 1) x = trun zisL tb m (x + 1) := by
        show (if zisL (tb x.toNat) = true then trun zisL tb m (x + 1) else x) = _
        rw [if_pos hl]
      have rg := trun_rng (P := zisL) (tb := tb) m (x + 1)
      rw [er] at kk
      -- on to the next letter
      have go : ∀ (m2 : zF) (w2 bp2 : Int), zFA mem m2 → m2 261 3 = mem 261 3 → m2 261 4 = mem 261 4 → m2 261 6 = mem 261 6 → m2 261 7 = w2 → m2 261 12 = bp2 → inI bp2 → tB w2 (c + 1) → tW tb (min (6 - (c + 1)).toNat (trun zisL tb m (x + 1) - (x + 1)).toNat) (x + 1) w2 = tW tb (min (6 - c).toNat (trun zisL tb m (x + 1) - x).toNat) x w → (if bp2 = -1 ∧ c + 1 ≤ 6 ∧ 6 - (c + 1) < trun zisL tb m (x + 1) - (x + 1) then x + 1 + (6 - (c + 1)) else bp2) = (if bp = -1 ∧ c ≤ 6 ∧ 6 - c < trun zisL tb m (x + 1) - x then x + (6 - c) else bp) → L_m_ahead_204 X d rf Q m2 (x + 1) 1 0 6 (c + 1) := by
        intro m2 w2 bp2 f2 e3 e4 e6 e7 e12 hI hB h7 h12
        refine t_word hR hn hbt m (by rw [f2.2 2 (by decide) (by decide) (by decide) (by decide) (by decide) (by decide)]; exact h2) (fun j hj => by rw [f2.1 262 (by decide)]; exact hb j hj) (by omega) (by omega) (by omega) (by omega) e7 e12 hI hB ?_
        intro m3 f3 g5 g3 g4 g6 g7 g12
        exact kk m3 (f2.trans f3) g5 (g3.trans e3) (g4.trans e4) (g6.trans e6) (g7.trans h7) (g12.trans h12)
      unfold tB at hwr
      by_cases c6 : c < 6
      · refine s_m_ahead_243 hR ⟨by omega, fun _ => ?_, fun q => absurd q (by omega)⟩
        refine s_m_ahead_263 hR ?_
        rw [ex, hw, zltwo (by omega) bx]
        refine ⟨by omega, fun q => absurd q (by omega), fun _ => ⟨by decide, fun q => absurd q (by decide), fun _ => ⟨by omega, by omega, ?_⟩⟩⟩
        refine s_m_ahead_293 hR ⟨by omega, fun q => absurd q (by omega), fun _ => ⟨by decide, fun _ => ?_, fun q => absurd rfl q⟩⟩
        refine go _ (256 * w + tb x.toNat) bp (zFA.rfl.up (by decide)) (zup_ne _ _ _ _ (by decide)) (zup_ne _ _ _ _ (by decide)) (zup_ne _ _ _ _ (by decide)) (zup_at _ _ _ _) (by rw [zup_ne _ _ _ _ (by decide)]; exact hp) hpI (by unfold tB; omega) ?_ ?_
        · have e : min (6 - c).toNat (trun zisL tb m (x + 1) - x).toNat = min (6 - (c + 1)).toNat (trun zisL tb m (x + 1) - (x + 1)).toNat + 1 := by omega
          rw [e]
          rfl
        · by_cases q : bp = -1 ∧ c ≤ 6 ∧ 6 - c < trun zisL tb m (x + 1) - x
          · rw [if_pos q, if_pos (by omega)]; omega
          · rw [if_neg q, if_neg (by omega)]
      · have same : ∀ (m2 : zF) (bp2 : Int), zFA mem m2 → m2 261 3 = mem 261 3 → m2 261 4 = mem 261 4 → m2 261 6 = mem 261 6 → m2 261 7 = w → m2 261 12 = bp2 → inI bp2 → bp2 = (if bp = -1 ∧ c ≤ 6 ∧ 6 - c < trun zisL tb m (x + 1) - x then x + (6 - c) else bp) → L_m_ahead_263 X d rf Q m2 x 1 0 6 c := by
          intro m2 bp2 f2 e3 e4 e6 e7 e12 hI h12
          refine s_m_ahead_263 hR ⟨by omega, fun _ => ?_, fun q => absurd (by omega) q⟩
          refine s_m_ahead_293 hR ⟨by omega, fun _ => ?_, fun q => absurd (by omega) q⟩
          refine go m2 w bp2 f2 e3 e4 e6 e7 e12 hI (by unfold tB; omega) ?_ ?_
          · have e : (6 - c).toNat = 0 := by omega
            have e1 : (6 - (c + 1)).toNat = 0 := by omega
            rw [e, e1, Nat.zero_min, Nat.zero_min]
            rfl
          · rw [if_neg (by omega)]; exact h12
        refine s_m_ahead_243 hR ⟨by omega, fun q => ?_, fun q => ?_⟩
        · exact same mem bp zFA.rfl rfl rfl rfl hw hp hpI (by rw [if_neg (by omega)])
        · rw [hp]
          refine ⟨hpI, fun q2 => ?_, fun q2 => ?_⟩
          · exact same mem bp zFA.rfl rfl rfl rfl hw hp hpI (by rw [if_neg (by omega)])
          · refine same (zup mem 261 12 x) x (zFA.rfl.up (by decide)) (zup_ne _ _ _ _ (by decide)) (zup_ne _ _ _ _ (by decide)) (zup_ne _ _ _ _ (by decide)) (by rw [zup_ne _ _ _ _ (by decide)]; exact hw) (zup_at _ _ _ _) (by omega) ?_
            rw [if_pos (by omega)]
            omega
    · rw [if_neg hl]
      have er : trun zisL tb (m + 1) x = x := by
        show (if zisL (tb x.toNat) = true then trun zisL tb m (x + 1) else x) = _
        rw [if_neg hl]
      rw [er] at kk
      refine ⟨by decide, fun _ => kk _ (zFA.rfl.up (by decide)) (zup_at _ _ _ _) (zup_ne _ _ _ _ (by decide)) (zup_ne _ _ _ _ (by decide)) (zup_ne _ _ _ _ (by decide)) ?_ ?_, fun q => absurd rfl q⟩
      · rw [zup_ne _ _ _ _ (by decide), hw]
        have e : (x - x).toNat = 0 := by omega
        rw [e, Nat.min_zero]
        rfl
      · rw [zup_ne _ _ _ _ (by decide), hp, if_neg (by omega)]
end AHEAD
