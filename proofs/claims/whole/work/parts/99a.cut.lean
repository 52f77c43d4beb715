/-! the program's tokens: one, all, the next -/
def TBy (tb : Nat → Int) (n : Int) : Prop := ∀ k : Int, 0 ≤ k → k < n → 0 ≤ tb k.toNat ∧ tb k.toNat ≤ 255
theorem tCod_L {tb : Nat → Int} {n s : Int} (h : s < n) (hl : zisL (tb s.toNat) = true) : tBp tb n s = tBad tb s (trun zisL tb (n - s).toNat s) 6 ∧ tEnd tb n s = trun zisL tb (n - s).toNat s ∧ tCod tb n s = if tBp tb n s ≠ -1 then -1 else tWc (zn5 (tL tb (trun zisL tb (n - s).toNat s - s).toNat s)) := by
  refine ⟨?_, ?_, ?_⟩
  · unfold tBp; rw [if_neg (by omega), if_pos hl]
  · unfold tEnd; rw [if_neg (by omega), if_pos hl]
  · unfold tCod; rw [if_neg (by omega), if_pos hl]
theorem tCod_D {tb : Nat → Int} {n s : Int} (h : s < n) (hl : zisL (tb s.toNat) = false) (hd : zisD (tb s.toNat) = true) : tBp tb n s = tBad tb s (trun zisD tb (n - s).toNat s) 4 ∧ tEnd tb n s = trun zisD tb (n - s).toNat s ∧ tCod tb n s = if tBp tb n s ≠ -1 then -1 else tV tb (trun zisD tb (n - s).toNat s - s).toNat s 0 := by
  have hl2 : ¬ zisL (tb s.toNat) = true := by rw [hl]; decide
  refine ⟨?_, ?_, ?_⟩
  · unfold tBp; rw [if_neg (by omega), if_neg hl2, if_pos hd]
  · unfold tEnd; rw [if_neg (by omega), if_neg hl2, if_pos hd]
  · unfold tCod; rw [if_neg (by omega), if_neg hl2, if_pos hd]
theorem tCod_S {tb : Nat → Int} {n s : Int} (h : s < n) (hl : zisL (tb s.toNat) = false) (hd : zisD (tb s.toNat) = false) : tBp tb n s = -1 ∧ tEnd tb n s = s + 1 ∧ tCod tb n s = 10000 + tb s.toNat := by
  have hl2 : ¬ zisL (tb s.toNat) = true := by rw [hl]; decide
  have hd2 : ¬ zisD (tb s.toNat) = true := by rw [hd]; decide
  have e : tBp tb n s = -1 := by unfold tBp; rw [if_neg (by omega), if_neg hl2, if_neg hd2]
  refine ⟨e, ?_, ?_⟩
  · unfold tEnd; rw [if_neg (by omega), if_neg hl2, if_neg hd2]
  · unfold tCod; rw [if_neg (by omega), if_neg hl2, if_neg hd2, if_neg (by rw [e]; decide)]
theorem tCod_E {tb : Nat → Int} {n s : Int} (h : n ≤ s) : tCod tb n s = -2 := by unfold tCod; rw [if_pos h]
theorem tWc_rng {v : Int} (hv : 0 ≤ v ∧ v < 1073741824) : (20000 ≤ tWc v ∧ tWc v ≤ 20026) ∨ (tWc v = 1073741824 + v) := by
  unfold tWc
  split
  · exact Or.inr rfl
  · have := aFd_rng (P := fun k => decide (zow.getD k.toNat 0 = v)) 27 0
    unfold tOwn
    unfold tOwn at *
    omega
theorem tBad_no {tb : Nat → Int} {s e mx : Int} (hs : 0 ≤ s) (hm : 0 ≤ mx) (h : ¬ tBad tb s e mx ≠ -1) : e - s ≤ mx ∧ ¬ tAdj tb s := by
  unfold tBad at h
  by_cases a : tAdj tb s
  · rw [if_pos a] at h
    omega
  · rw [if_neg a] at h
    by_cases c : mx < e - s
    · rw [if_pos c] at h
      omega
    · exact ⟨by omega, a⟩
theorem tZ {tb : Nat → Int} {n s : Int} (he : trun zisL tb (n - s).toNat s - s ≤ 6) : 0 ≤ zn5 (tL tb (trun zisL tb (n - s).toNat s - s).toNat s) ∧ zn5 (tL tb (trun zisL tb (n - s).toNat s - s).toNat s) < 1073741824 := by
  have inr := trun_in (P := zisL) (tb := tb) (n - s).toNat s
  have rg := trun_rng (P := zisL) (tb := tb) (n - s).toNat s
  generalize trun zisL tb (n - s).toNat s = e at he inr rg ⊢
  have hz := zn5_rng (tL tb (e - s).toNat s) (tL_in (e - s).toNat s (fun i a b => inr i a (by omega)))
  rw [tL_len] at hz
  have hp : (32 : Int) ^ (e - s).toNat ≤ 1073741824 := by
    have : (e - s).toNat = 0 ∨ (e - s).toNat = 1 ∨ (e - s).toNat = 2 ∨ (e - s).toNat = 3 ∨ (e - s).toNat = 4 ∨ (e - s).toNat = 5 ∨ (e - s).toNat = 6 := by omega
    rcases this with x | x | x | x | x | x | x <;> rw [x] <;> decide
  omega
theorem tN {tb : Nat → Int} {n s : Int} (he : trun zisD tb (n - s).toNat s - s ≤ 4) : 0 ≤ tV tb (trun zisD tb (n - s).toNat s - s).toNat s 0 ∧ tV tb (trun zisD tb (n - s).toNat s - s).toNat s 0 < 10000 := by
  have inr := trun_in (P := zisD) (tb := tb) (n - s).toNat s
  have rg := trun_rng (P := zisD) (tb := tb) (n - s).toNat s
  generalize trun zisD tb (n - s).toNat s = e at he inr rg ⊢
  have hz := tV_rng (tb := tb) (e - s).toNat s (fun i a b => inr i a (by omega))
  have hp : (10 : Int) ^ (e - s).toNat ≤ 10000 := by
    have : (e - s).toNat = 0 ∨ (e - s).toNat = 1 ∨ (e - s).toNat = 2 ∨ (e - s).toNat = 3 ∨ (e - s).toNat = 4 := by omega
    rcases this with x | x | x | x | x <;> rw [x] <;> decide
  omega
/-- what a token can be -/
theorem tCod_rng {tb : Nat → Int} {n s : Int} (hb : TBy tb n) (hs : 0 ≤ s) : (n ≤ s ∧ tCod tb n s = -2) ∨ (s < n ∧ tCod tb n s = -1) ∨ (s < n ∧ 0 ≤ tCod tb n s ∧ tCod tb n s < 10000) ∨ (s < n ∧ 10000 ≤ tCod tb n s ∧ tCod tb n s ≤ 10255) ∨ (s < n ∧ 20000 ≤ tCod tb n s ∧ tCod tb n s ≤ 20026) ∨ (s < n ∧ 1073741824 ≤ tCod tb n s ∧ tCod tb n s < 2147483648) := by
  by_cases h : s < n
  · by_cases hl : zisL (tb s.toNat) = true
    · have h3 := tCod_L h hl
      by_cases q : tBp tb n s ≠ -1
      · exact Or.inr (Or.inl ⟨h, by rw [h3.2.2, if_pos q]⟩)
      · rw [h3.2.2, if_neg q]
        rw [h3.1] at q
        have hz := tZ (tBad_no hs (by decide) q).1
        rcases tWc_rng hz with c | c
        · exact Or.inr (Or.inr (Or.inr (Or.inr (Or.inl ⟨h, c⟩))))
        · exact Or.inr (Or.inr (Or.inr (Or.inr (Or.inr ⟨h, by omega, by omega⟩))))
    · have hl2 : zisL (tb s.toNat) = false := Bool.eq_false_iff.mpr hl
      by_cases hd : zisD (tb s.toNat) = true
      · have h3 := tCod_D h hl2 hd
        by_cases q : tBp tb n s ≠ -1
        · exact Or.inr (Or.inl ⟨h, by rw [h3.2.2, if_pos q]⟩)
        · rw [h3.2.2, if_neg q]
          rw [h3.1] at q
          have hz := tN (tBad_no hs (by decide) q).1
          exact Or.inr (Or.inr (Or.inl ⟨h, by omega, by omega⟩))
      · have h3 := tCod_S h hl2 (Bool.eq_false_iff.mpr hd)
        have := hb s hs h
        rw [h3.2.2]
        exact Or.inr (Or.inr (Or.inr (Or.inl ⟨h, by omega, by omega⟩)))
  · exact Or.inl ⟨by omega, tCod_E (by omega)⟩
theorem tCod_I {tb : Nat → Int} {n s : Int} (hb : TBy tb n) (hs : 0 ≤ s) : inI (tCod tb n s) := by
  rcases tCod_rng hb hs with h | h | h | h | h | h <;> omega
/-- the tokens along the text -/
def tI (tb : Nat → Int) (n : Int) : Nat → Int
  | 0 => tskp tb n 0
  | i + 1 => tNxt tb n (tI tb n i)
theorem tNxt_le {tb : Nat → Int} {n s : Int} (h : s ≤ n) : s ≤ tNxt tb n s ∧ tNxt tb n s ≤ n := by
  by_cases q : s < n
  · have := tNxt_rng (tb := tb) q; omega
  · have e : s = n := by omega
    unfold tNxt tEnd
    rw [if_pos (by omega), e, tskp_e]
    omega
theorem tI_rng {tb : Nat → Int} {n : Int} (hn : 0 ≤ n) : ∀ i : Nat, 0 ≤ tI tb n i ∧ tI tb n i ≤ n
  | 0 => tskp_rng hn
  | i + 1 => by
    have h1 := tI_rng (tb := tb) hn i
    have h2 := tNxt_le (tb := tb) h1.2
    show 0 ≤ tNxt tb n (tI tb n i) ∧ tNxt tb n (tI tb n i) ≤ n
    omega
theorem tAdj_end {tb : Nat → Int} {n s : Int} (hb : TBy tb n) (hs : 0 ≤ s) (h : s < n) (hc : tCod tb n s ≠ -1) : tAdj tb (tEnd tb n s) ↔ ¬ (10000 ≤ tCod tb n s ∧ tCod tb n s < 20000) := by
  by_cases hl : zisL (tb s.toNat) = true
  · have h3 := tCod_L h hl
    have inr := trun_in (P := zisL) (tb := tb) (n - s).toNat s
    have rg := trun_pos (P := zisL) (tb := tb) h hl
    have hq : ¬ tBp tb n s ≠ -1 := fun q => hc (by rw [h3.2.2, if_pos q])
    rw [h3.2.2, if_neg hq, h3.2.1]
    rw [h3.1] at hq
    have hw := tWc_rng (tZ (tBad_no hs (by decide) hq).1)
    have hz := tZ (tBad_no hs (by decide) hq).1
    exact ⟨fun _ => by omega, fun _ => ⟨by omega, Or.inl (inr _ (by omega) (by omega))⟩⟩
  · have hl2 : zisL (tb s.toNat) = false := Bool.eq_false_iff.mpr hl
    by_cases hd : zisD (tb s.toNat) = true
    · have h3 := tCod_D h hl2 hd
      have inr := trun_in (P := zisD) (tb := tb) (n - s).toNat s
      have rg := trun_pos (P := zisD) (tb := tb) h hd
      have hq : ¬ tBp tb n s ≠ -1 := fun q => hc (by rw [h3.2.2, if_pos q])
      rw [h3.2.2, if_neg hq, h3.2.1]
      rw [h3.1] at hq
      have hz := tN (tBad_no hs (by decide) hq).1
      exact ⟨fun _ => by omega, fun _ => ⟨by omega, Or.inr (inr _ (by omega) (by omega))⟩⟩
    · have hd2 : zisD (tb s.toNat) = false := Bool.eq_false_iff.mpr hd
      have h3 := tCod_S h hl2 hd2
      have hr := hb s hs h
      have e1 : s + 1 - 1 = s := by omega
      rw [h3.2.1, h3.2.2]
      constructor
      · intro ⟨_, q⟩
        rw [e1, hl2, hd2] at q
        rcases q with q | q <;> exact absurd q (by decide)
      · intro q
        omega
section CUT3
variable {X : zX} {rf : zF} {p : Nat} {pl sc : zF} {tb : Nat → Int} {n : Int}
theorem TX.by {mem : zF} (h : TX rf mem p pl sc tb n) : TBy tb n := fun _ h0 h1 => h.b h0 h1
/-- one token -/
theorem u_one {D : Nat} {Q : Int → zF → Prop} {mem : zF} {s nb : Int} (hD : 2 ≤ D) (hT : TX rf mem p pl sc tb n) (hs : 0 ≤ s ∧ s < n) (h7 : mem 4 7 = s) (hnb : nb = if tAdj tb s then 1 else 0) (kk : ∀ mem', zFK mem mem' → (tCod tb n s = -1 → mem' 4 5 = tBp tb n s ∧ inI (mem' 4 7)) → (tCod tb n s ≠ -1 → mem' 4 7 = tEnd tb n s) → Q (tCod tb n s) mem') : Ci X D 128 [(2, 4), (2, 1), (0, tb s.toNat), (0, nb)] rf mem Q := by
  obtain ⟨d, rfl⟩ : ∃ d, D = d + 2 := ⟨D - 2, by omega⟩
  have hc := hT.b hs.1 hs.2
  have hn := hT.len
  have hI : inI nb := by rw [hnb]; split <;> decide
  have a1 : tAdj tb s → nb = 1 := fun a => by rw [hnb, if_pos a]
  have a0 : ¬ tAdj tb s → nb = 0 := fun a => by rw [hnb, if_neg a]
  refine s_tokens_cutOne hT.1.r (u_isL hT.1.r (by omega) ⟨hI, ?_⟩)
  have bad : tAdj tb s → (zisL (tb s.toNat) = true ∨ (zisL (tb s.toNat) = false ∧ zisD (tb s.toNat) = true)) → Q (-1) (zup mem 4 5 (mem 4 7)) := by
    intro ha hld
    have e5 : (zup mem 4 5 (mem 4 7)) 4 5 = s := by rw [zup_at, h7]
    have e7 : (zup mem 4 5 (mem 4 7)) 4 7 = s := by rw [zup_ne _ _ _ _ (by decide), h7]
    have eb : tBp tb n s = s := by
      rcases hld with hl | hd
      · rw [(tCod_L hs.2 hl).1]
        unfold tBad
        rw [if_pos ha]
      · rw [(tCod_D hs.2 hd.1 hd.2).1]
        unfold tBad
        rw [if_pos ha]
    have ec : tCod tb n s = -1 := by
      rcases hld with hl | hd
      · rw [(tCod_L hs.2 hl).2.2, if_pos (by rw [eb]; omega)]
      · rw [(tCod_D hs.2 hd.1 hd.2).2.2, if_pos (by rw [eb]; omega)]
    have := kk _ (zFK.rfl.up (Or.inl rfl)) (fun _ => ⟨by rw [e5, eb], by rw [e7]; omega⟩) (fun q => absurd ec q)
    rw [ec] at this
    exact this
  by_cases hl : zisL (tb s.toNat) = true
  · rw [if_pos hl]
    have h3 := tCod_L hs.2 hl
    refine ⟨fun q0 => ?_, fun q0 => ⟨by decide, fun _ => bad ?_ (Or.inl hl), fun q => absurd q (by decide)⟩⟩
    · have na : ¬ tAdj tb s := fun a => by rw [a1 a] at q0; exact absurd q0 (by decide)
      have rg := trun_rng (P := zisL) (tb := tb) (n - s).toNat s
      refine s_tokens_cutOne_32 hT.1.r ⟨by decide, fun q => absurd q (by decide), fun _ => s_tokens_cutWord hT.1.r ?_⟩
      refine u_word (m0 := mem) (s := s) hs (fun hb mem' f g5 g7 => ?_) (fun hb mem' f g5 g7 => ?_) 6 0 (by decide) hT zFK.rfl rfl (by rw [h7]; omega) (by omega)
      · have eb : tBp tb n s = s + 6 := by
          rw [h3.1]
          unfold tBad
          rw [if_neg na, if_pos hb]
        have ec : tCod tb n s = -1 := by rw [h3.2.2, if_pos (by rw [eb]; omega)]
        have := kk mem' f (fun _ => ⟨by rw [g5, eb], by rw [g7]; omega⟩) (fun q => absurd ec q)
        rw [ec] at this
        exact this
      · have eb : tBp tb n s = -1 := by
          rw [h3.1]
          unfold tBad
          rw [if_neg na, if_neg (by omega)]
        have ec := h3.2.2
        rw [if_neg (by rw [eb]; decide)] at ec
        rw [← ec]
        refine kk mem' f (fun q => ?_) (fun _ => by rw [g7, h3.2.1])
        rw [ec] at q
        have := tWc_rng (tZ hb)
        have := tZ hb
        omega
    · by_cases a : tAdj tb s
      · exact a
      · exact absurd (a0 a) q0
  · have hl2 : zisL (tb s.toNat) = false := Bool.eq_false_iff.mpr hl
    rw [if_neg hl]
    have go : (¬ tAdj tb s ∨ zisD (tb s.toNat) = false) → L_tokens_cutOne_32 X (d + 1) rf Q mem (tb s.toNat) 0 := by
      intro hor
      refine s_tokens_cutOne_32 hT.1.r ⟨by decide, fun _ => u_isD hT.1.r (by omega) ?_, fun q => absurd rfl q⟩
      by_cases hd : zisD (tb s.toNat) = true
      · rw [if_pos hd]
        have na : ¬ tAdj tb s := by
          rcases hor with a | a
          · exact a
          · rw [a] at hd; exact absurd hd (by decide)
        have h3 := tCod_D hs.2 hl2 hd
        have rg := trun_rng (P := zisD) (tb := tb) (n - s).toNat s
        refine ⟨by decide, fun q => absurd q (by decide), fun _ => s_tokens_cutNumber hT.1.r ?_⟩
        refine u_num (m0 := mem) (s := s) hs (fun hb mem' f g5 g7 => ?_) (fun hb mem' f g5 g7 => ?_) 4 0 (by decide) hT zFK.rfl rfl (by rw [h7]; omega) (by omega)
        · have eb : tBp tb n s = s + 4 := by
            rw [h3.1]
            unfold tBad
            rw [if_neg na, if_pos hb]
          have ec : tCod tb n s = -1 := by rw [h3.2.2, if_pos (by rw [eb]; omega)]
          have := kk mem' f (fun _ => ⟨by rw [g5, eb], by rw [g7]; omega⟩) (fun q => absurd ec q)
          rw [ec] at this
          exact this
        · have eb : tBp tb n s = -1 := by
            rw [h3.1]
            unfold tBad
            rw [if_neg na, if_neg (by omega)]
          have ec := h3.2.2
          rw [if_neg (by rw [eb]; decide)] at ec
          rw [← ec]
          refine kk mem' f (fun q => ?_) (fun _ => by rw [g7, h3.2.1])
          rw [ec] at q
          have := tN hb
          omega
      · rw [if_neg hd]
        have hd2 : zisD (tb s.toNat) = false := Bool.eq_false_iff.mpr hd
        have h3 := tCod_S hs.2 hl2 hd2
        refine ⟨by decide, fun _ => ?_, fun q => absurd rfl q⟩
        have := kk _ (zFK.rfl.up (j := 7) (v := mem 4 7 + 1) (Or.inr rfl)) (fun q => by rw [h3.2.2] at q; omega) (fun _ => by rw [zup_at, h7, h3.2.1])
        rw [h3.2.2] at this
        exact this
    refine ⟨fun q0 => go (Or.inl (fun a => by rw [a1 a] at q0; exact absurd q0 (by decide))), fun q0 => ⟨by decide, fun q => absurd rfl q, fun _ => u_isD hT.1.r (by omega) ?_⟩⟩
    have ya : tAdj tb s := by
      by_cases a : tAdj tb s
      · exact a
      · exact absurd (a0 a) q0
    by_cases hd : zisD (tb s.toNat) = true
    · rw [if_pos hd]
      exact ⟨by decide, fun q => absurd q (by decide), fun _ => bad ya (Or.inr ⟨hl2, hd⟩)⟩
    · rw [if_neg hd]
      exact ⟨by decide, fun _ => go (Or.inr (Bool.eq_false_iff.mpr hd)), fun q => absurd rfl q⟩
end CUT3
