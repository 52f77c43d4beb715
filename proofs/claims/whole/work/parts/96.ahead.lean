/-! the reference's next token: all of it -/
abbrev tAdj (tb : Nat → Int) (s : Int) : Prop := 0 < s ∧ (zisL (tb (s - 1).toNat) = true ∨ zisD (tb (s - 1).toNat) = true)
def tBad (tb : Nat → Int) (s e mx : Int) : Int := if tAdj tb s then s else if mx < e - s then s + mx else -1
/-- the token that begins at s, as the reference holds it -/
def TKR (mem : zF) (tb : Nat → Int) (n s : Int) : Prop :=
  mem 261 4 = s ∧
  ((s = n ∧ mem 261 3 = 0 ∧ mem 261 5 = s ∧ mem 261 12 = -1) ∨
   (s < n ∧ zisL (tb s.toNat) = true ∧ mem 261 3 = 1 ∧ mem 261 5 = trun zisL tb (n - s).toNat s ∧ mem 261 6 = 0 ∧ mem 261 7 = tW tb (min 6 (trun zisL tb (n - s).toNat s - s).toNat) s 0 ∧ mem 261 12 = tBad tb s (trun zisL tb (n - s).toNat s) 6) ∨
   (s < n ∧ zisL (tb s.toNat) = false ∧ zisD (tb s.toNat) = true ∧ mem 261 3 = 2 ∧ mem 261 5 = trun zisD tb (n - s).toNat s ∧ mem 261 7 = 0 ∧ mem 261 6 = tV tb (min 4 (trun zisD tb (n - s).toNat s - s).toNat) s 0 ∧ mem 261 12 = tBad tb s (trun zisD tb (n - s).toNat s) 4) ∨
   (s < n ∧ zisL (tb s.toNat) = false ∧ zisD (tb s.toNat) = false ∧ mem 261 3 = 3 ∧ mem 261 5 = s + 1 ∧ mem 261 6 = tb s.toNat ∧ mem 261 7 = 0 ∧ mem 261 12 = -1))
section AHEAD3
variable {X : zX} {rf mem : zF} {d : Nat} {tb : Nat → Int} {n : Int}
theorem t_ahead {D : Nat} {Q : zF → Prop} (hR : zall rf zRK = true) (hD : 1 ≤ D) (hn : 0 ≤ n ∧ n ≤ 1600) (h2 : mem 261 2 = n) (hb : ∀ j : Nat, (j : Int) < n → mem 262 j = tb j ∧ 0 ≤ tb j ∧ tb j ≤ 255) (h5 : 0 ≤ mem 261 5 ∧ mem 261 5 ≤ n) (kk : ∀ mem', zFA mem mem' → TKR mem' tb n (tskp tb n (mem 261 5)) → Q mem') : Cv X D 202 [(2, 261)] rf mem Q := by
  obtain ⟨d, rfl⟩ : ∃ d, D = d + 1 := ⟨D - 1, by omega⟩
  have rg := trun_rng (P := zisB) (tb := tb) (n - mem 261 5).toNat (mem 261 5)
  refine s_m_ahead hR (t_ahead_5 hR ⟨h2, hn⟩ hb (n - mem 261 5).toNat (by omega) (by omega) ?_)
  show L_m_ahead_41 X d rf Q mem (tskp tb n (mem 261 5))
  have rs : 0 ≤ tskp tb n (mem 261 5) ∧ tskp tb n (mem 261 5) ≤ n := by unfold tskp; omega
  generalize tskp tb n (mem 261 5) = s at kk rs ⊢
  refine s_m_ahead_41 hR ?_
  rw [h2]
  generalize hm1 : zup (zup (zup (zup mem 261 4 s) 261 5 s) 261 3 0) 261 12 (-1) = m1
  have f1 : zFA mem m1 := by rw [← hm1]; exact (((zFA.rfl.up (by decide)).up (by decide)).up (by decide)).up (by decide)
  have a4 : m1 261 4 = s := by rw [← hm1, zup_ne _ _ _ _ (by decide), zup_ne _ _ _ _ (by decide), zup_ne _ _ _ _ (by decide), zup_at]
  have a5 : m1 261 5 = s := by rw [← hm1, zup_ne _ _ _ _ (by decide), zup_ne _ _ _ _ (by decide), zup_at]
  have a3 : m1 261 3 = 0 := by rw [← hm1, zup_ne _ _ _ _ (by decide), zup_at]
  have a12 : m1 261 12 = -1 := by rw [← hm1, zup_at]
  refine ⟨by omega, fun q => ⟨by omega, ?_⟩, fun q => kk m1 f1 ⟨a4, Or.inl ⟨by omega, a3, a5, a12⟩⟩⟩
  have bs := hb s.toNat (by omega)
  have e262 : ∀ m2 : zF, zFA mem m2 → ∀ j : Nat, (j : Int) < n → m2 262 j = tb j := fun m2 f2 j hj => by rw [f2.1 262 (by decide)]; exact (hb j hj).1
  have e2 : ∀ m2 : zF, zFA mem m2 → m2 261 2 = n := fun m2 f2 => by rw [f2.2 2 (by decide) (by decide) (by decide) (by decide) (by decide) (by decide)]; exact h2
  have hbt : ∀ j : Nat, (j : Int) < n → 0 ≤ tb j ∧ tb j ≤ 255 := fun j hj => (hb j hj).2
  rw [bs.1]
  refine t_isL hR (by omega) ⟨by omega, ?_⟩
  rw [e262 m1 f1 _ (by omega)]
  refine t_isD hR (by omega) ?_
  -- the start of a word or number
  have word : ∀ (m2 : zF) (bp : Int), zFA m1 m2 → m2 261 4 = s → m2 261 12 = bp → inI bp → bp = (if tAdj tb s then s else -1) → zisL (tb s.toNat) = true → L_m_ahead_135 X d rf Q m2 s 1 (if zisD (tb s.toNat) = true then 1 else 0) := by
    intro m2 bp f2 b4 b12 hI hbp hl
    have hd0 : zisD (tb s.toNat) = false := by
      have := of_decide_eq_true hl
      unfold zisD
      exact decide_eq_false (by omega)
    rw [hd0, if_neg (by decide)]
    refine s_m_ahead_135 hR ⟨by decide, fun _ => ⟨by decide, fun q => absurd q (by decide), fun _ => ?_⟩, fun q => absurd q (by decide)⟩
    refine s_m_ahead_186 hR ⟨by decide, fun q => absurd q (by decide), fun _ => ?_⟩
    generalize hm3 : zup (zup (zup (zup (zup m2 261 6 0) 261 7 0) 261 3 3) 261 5 (s + 1)) 261 3 1 = m3
    have f3 : zFA m2 m3 := by rw [← hm3]; exact ((((zFA.rfl.up (by decide)).up (by decide)).up (by decide)).up (by decide)).up (by decide)
    have F3 := f1.trans (f2.trans f3)
    have c6 : m3 261 6 = 0 := by rw [← hm3, zup_ne _ _ _ _ (by decide), zup_ne _ _ _ _ (by decide), zup_ne _ _ _ _ (by decide), zup_ne _ _ _ _ (by decide), zup_at]
    have c7 : m3 261 7 = 0 := by rw [← hm3, zup_ne _ _ _ _ (by decide), zup_ne _ _ _ _ (by decide), zup_ne _ _ _ _ (by decide), zup_at]
    have c3 : m3 261 3 = 1 := by rw [← hm3, zup_at]
    have c4 : m3 261 4 = s := by rw [← hm3, zup_ne _ _ _ _ (by decide), zup_ne _ _ _ _ (by decide), zup_ne _ _ _ _ (by decide), zup_ne _ _ _ _ (by decide), zup_ne _ _ _ _ (by decide)]; exact b4
    have c12 : m3 261 12 = bp := by rw [← hm3, zup_ne _ _ _ _ (by decide), zup_ne _ _ _ _ (by decide), zup_ne _ _ _ _ (by decide), zup_ne _ _ _ _ (by decide), zup_ne _ _ _ _ (by decide)]; exact b12
    refine t_word hR hn hbt (n - s).toNat (e2 m3 F3) (e262 m3 F3) rs.1 (by omega) (by decide) rs.1 c7 c12 hI (by unfold tB; omega) (fun m4 f4 g5 g3 g4 g6 g7 g12 => ?_)
    refine kk m4 (F3.trans f4) ⟨g4.trans c4, Or.inr (Or.inl ⟨q, hl, g3.trans c3, g5, g6.trans c6, g7, ?_⟩)⟩
    rw [g12]
    unfold tBad
    by_cases ha : tAdj tb s
    · rw [if_pos ha] at hbp ⊢
      rw [if_neg (by omega)]
      exact hbp
    · rw [if_neg ha] at hbp ⊢
      by_cases e : 6 < trun zisL tb (n - s).toNat s - s
      · rw [if_pos (by omega), if_pos e]; omega
      · rw [if_neg (by omega), if_neg e]; exact hbp
  have numb : ∀ (m2 : zF) (bp : Int), zFA m1 m2 → m2 261 4 = s → m2 261 12 = bp → inI bp → bp = (if tAdj tb s then s else -1) → zisL (tb s.toNat) = false → zisD (tb s.toNat) = true → L_m_ahead_135 X d rf Q m2 s 0 1 := by
    intro m2 bp f2 b4 b12 hI hbp hl hd1
    refine s_m_ahead_135 hR ⟨by decide, fun q => absurd rfl q, fun _ => ⟨by decide, fun _ => ⟨by decide, fun _ => ?_, fun q => absurd rfl q⟩, fun q => absurd q (by decide)⟩⟩
    refine s_m_ahead_186 hR ⟨by decide, fun _ => ?_, fun q => absurd rfl q⟩
    generalize hm3 : zup (zup (zup (zup (zup m2 261 6 0) 261 7 0) 261 3 3) 261 5 (s + 1)) 261 3 2 = m3
    have f3 : zFA m2 m3 := by rw [← hm3]; exact ((((zFA.rfl.up (by decide)).up (by decide)).up (by decide)).up (by decide)).up (by decide)
    have F3 := f1.trans (f2.trans f3)
    have c6 : m3 261 6 = 0 := by rw [← hm3, zup_ne _ _ _ _ (by decide), zup_ne _ _ _ _ (by decide), zup_ne _ _ _ _ (by decide), zup_ne _ _ _ _ (by decide), zup_at]
    have c7 : m3 261 7 = 0 := by rw [← hm3, zup_ne _ _ _ _ (by decide), zup_ne _ _ _ _ (by decide), zup_ne _ _ _ _ (by decide), zup_at]
    have c3 : m3 261 3 = 2 := by rw [← hm3, zup_at]
    have c4 : m3 261 4 = s := by rw [← hm3, zup_ne _ _ _ _ (by decide), zup_ne _ _ _ _ (by decide), zup_ne _ _ _ _ (by decide), zup_ne _ _ _ _ (by decide), zup_ne _ _ _ _ (by decide)]; exact b4
    have c12 : m3 261 12 = bp := by rw [← hm3, zup_ne _ _ _ _ (by decide), zup_ne _ _ _ _ (by decide), zup_ne _ _ _ _ (by decide), zup_ne _ _ _ _ (by decide), zup_ne _ _ _ _ (by decide)]; exact b12
    refine t_num hR hn hbt (n - s).toNat (e2 m3 F3) (e262 m3 F3) rs.1 (by omega) (by decide) rs.1 c6 c12 hI (by unfold tD; omega) (fun m4 f4 g5 g3 g4 g6 g7 g12 => ?_)
    refine kk m4 (F3.trans f4) ⟨g4.trans c4, Or.inr (Or.inr (Or.inl ⟨q, hl, hd1, g3.trans c3, g5, g6.trans c7, g7, ?_⟩))⟩
    rw [g12]
    unfold tBad
    by_cases ha : tAdj tb s
    · rw [if_pos ha] at hbp ⊢
      rw [if_neg (by omega)]
      exact hbp
    · rw [if_neg ha] at hbp ⊢
      by_cases e : 4 < trun zisD tb (n - s).toNat s - s
      · rw [if_pos (by omega), if_pos e]; omega
      · rw [if_neg (by omega), if_neg e]; exact hbp
  -- does it touch the token before it?
  have adj : ∀ (a b : Int), (∀ (m2 : zF) (bp : Int), zFA m1 m2 → m2 261 4 = s → m2 261 12 = bp → inI bp → bp = (if tAdj tb s then s else -1) → L_m_ahead_135 X d rf Q m2 s a b) → L_m_ahead_98 X d rf Q m1 s a b := by
    intro a b go
    refine s_m_ahead_98 hR ⟨by omega, fun q0 => go m1 (-1) zFA.rfl a4 a12 (by decide) (by rw [if_neg (fun c => by have := c.1; omega)]), fun q0 => ⟨by omega, ?_⟩⟩
    have bp1 := hbt (s - 1).toNat (by omega)
    rw [e262 m1 f1 _ (by omega)]
    refine t_isL hR (by omega) ?_
    have yes : tAdj tb s → L_m_ahead_135 X d rf Q (zup m1 261 12 s) s a b := fun ha => go _ s (zFA.rfl.up (by decide)) (by rw [zup_ne _ _ _ _ (by decide)]; exact a4) (zup_at _ _ _ _) (by omega) (by rw [if_pos ha])
    by_cases hl : zisL (tb (s - 1).toNat) = true
    · rw [if_pos hl]
      exact ⟨by decide, fun _ => yes ⟨by omega, Or.inl hl⟩, fun q => absurd q (by decide)⟩
    · rw [if_neg hl]
      refine ⟨by decide, fun q => absurd rfl q, fun _ => ⟨by omega, ?_⟩⟩
      rw [e262 m1 f1 _ (by omega)]
      refine t_isD hR (by omega) ?_
      by_cases hd1 : zisD (tb (s - 1).toNat) = true
      · rw [if_pos hd1]
        exact ⟨by decide, fun q => absurd q (by decide), fun _ => yes ⟨by omega, Or.inr hd1⟩⟩
      · rw [if_neg hd1]
        exact ⟨by decide, fun _ => go m1 (-1) zFA.rfl a4 a12 (by decide) (by rw [if_neg (fun c => by rcases c.2 with c | c; exact hl c; exact hd1 c)]), fun q => absurd rfl q⟩
  by_cases hl : zisL (tb s.toNat) = true
  · rw [if_pos hl]
    exact ⟨by decide, fun _ => adj 1 _ (fun m2 bp a b c e f => word m2 bp a b c e f hl), fun q => absurd q (by decide)⟩
  · have hl' : zisL (tb s.toNat) = false := Bool.eq_false_iff.mpr hl
    rw [if_neg hl]
    refine ⟨by decide, fun q => absurd rfl q, fun _ => ?_⟩
    by_cases hd1 : zisD (tb s.toNat) = true
    · rw [if_pos hd1]
      exact ⟨by decide, fun q => absurd q (by decide), fun _ => adj 0 1 (fun m2 bp a b c e f => numb m2 bp a b c e f hl' hd1)⟩
    · have hd' : zisD (tb s.toNat) = false := Bool.eq_false_iff.mpr hd1
      rw [if_neg hd1]
      refine ⟨by decide, fun _ => ?_, fun q => absurd rfl q⟩
      refine s_m_ahead_135 hR ⟨by decide, fun q => absurd rfl q, fun _ => ⟨by decide, fun q => absurd rfl q, fun _ => ⟨by omega, ?_⟩⟩⟩
      rw [e262 m1 f1 _ (by omega)]
      generalize hm3 : zup (zup (zup (zup (zup m1 261 6 0) 261 7 0) 261 3 3) 261 5 (s + 1)) 261 6 (tb s.toNat) = m3
      have f3 : zFA m1 m3 := by rw [← hm3]; exact ((((zFA.rfl.up (by decide)).up (by decide)).up (by decide)).up (by decide)).up (by decide)
      refine kk m3 (f1.trans f3) ⟨?_, Or.inr (Or.inr (Or.inr ⟨q, hl', hd', ?_, ?_, ?_, ?_, ?_⟩))⟩
      · rw [← hm3, zup_ne _ _ _ _ (by decide), zup_ne _ _ _ _ (by decide), zup_ne _ _ _ _ (by decide), zup_ne _ _ _ _ (by decide), zup_ne _ _ _ _ (by decide)]; exact a4
      · rw [← hm3, zup_ne _ _ _ _ (by decide), zup_ne _ _ _ _ (by decide), zup_at]
      · rw [← hm3, zup_ne _ _ _ _ (by decide), zup_at]
      · rw [← hm3, zup_at]
      · rw [← hm3, zup_ne _ _ _ _ (by decide), zup_ne _ _ _ _ (by decide), zup_ne _ _ _ _ (by decide), zup_at]
      · rw [← hm3, zup_ne _ _ _ _ (by decide), zup_ne _ _ _ _ (by decide), zup_ne _ _ _ _ (by decide), zup_ne _ _ _ _ (by decide), zup_ne _ _ _ _ (by decide)]; exact a12
end AHEAD3
