/-! on: both take the picture up alike -/
theorem oM_rng {pl : zF} {tb : Nat → Int} : ∀ n : Nat, n ≤ 6 → (∀ i : Int, 0 ≤ i → i < n → 0 ≤ tb (4 + i).toNat ∧ tb (4 + i).toNat ≤ 1) → 0 ≤ oM tb n ∧ oM tb n < 64
  | 0, _, _ => by unfold oM; omega
  | n + 1, hn, h => zor_lt (oM_rng (pl := pl) n (by omega) (fun i a b => h i a (by omega))) (zone (h n (by omega) (by omega)) (by omega))
theorem oS_35 {pl : zF} {tb r8 : Nat → Int} {s : Nat} {k : Int} (hs : 3 ≤ s ∧ s ≤ 5) (h0 : 0 ≤ k) : oS pl tb r8 s k.toNat = if k < pl 1 2 then tb (oB pl + 5 * k + ((s : Int) - 1)).toNat else 0 := by
  have e : ((k.toNat : Nat) : Int) = k := by omega
  unfold oS
  rw [if_neg (by omega), if_neg (by omega), if_neg (by omega), if_neg (by omega), if_neg (by omega), if_neg (by omega), e]
theorem oS_1 {pl : zF} {tb r8 : Nat → Int} {k : Int} (h0 : 0 ≤ k) : oS pl tb r8 1 k.toNat = if k < pl 1 1 then oC pl tb (oH pl + 2 * k) else -1 := by
  have e : ((k.toNat : Nat) : Int) = k := by omega
  show (if ((k.toNat : Nat) : Int) < pl 1 1 then oC pl tb (oH pl + 2 * ((k.toNat : Nat) : Int)) else -1) = _
  rw [e]
theorem oS_2 {pl : zF} {tb r8 : Nat → Int} {k : Int} (h0 : 0 ≤ k) : oS pl tb r8 2 k.toNat = if k < pl 1 2 then oC pl tb (oB pl + 5 * k) else -1 := by
  have e : ((k.toNat : Nat) : Int) = k := by omega
  show (if ((k.toNat : Nat) : Int) < pl 1 2 then oC pl tb (oB pl + 5 * ((k.toNat : Nat) : Int)) else -1) = _
  rw [e]
theorem oS_6 {pl : zF} {tb r8 : Nat → Int} {k : Int} (h0 : 0 ≤ k) : oS pl tb r8 6 k.toNat = if k < pl 1 2 then (if tb (oD pl + 3 * k).toNat = 255 then -1 else tb (oD pl + 3 * k).toNat) else -1 := by
  have e : ((k.toNat : Nat) : Int) = k := by omega
  show (if ((k.toNat : Nat) : Int) < pl 1 2 then (if tb (oD pl + 3 * ((k.toNat : Nat) : Int)).toNat = 255 then -1 else tb (oD pl + 3 * ((k.toNat : Nat) : Int)).toNat) else -1) = _
  rw [e]
theorem oS_7 {pl : zF} {tb r8 : Nat → Int} {k : Int} (h0 : 0 ≤ k) : oS pl tb r8 7 k.toNat = if k < pl 1 2 then 256 * tb (oD pl + 3 * k + 1).toNat + tb (oD pl + 3 * k + 2).toNat else 0 := by
  have e : ((k.toNat : Nat) : Int) = k := by omega
  show (if ((k.toNat : Nat) : Int) < pl 1 2 then 256 * tb (oD pl + 3 * ((k.toNat : Nat) : Int) + 1).toNat + tb (oD pl + 3 * ((k.toNat : Nat) : Int) + 2).toNat else 0) = _
  rw [e]
theorem aFlo_6 (sc : zF) : aFlo sc ≤ 6 := by
  have h0 := zf1_rng (sc 2 0)
  have h1 := zf1_rng (sc 2 1)
  have h2 := zf1_rng (sc 2 2)
  have h3 := zf1_rng (sc 2 3)
  have h4 := zf1_rng (sc 2 4)
  have h5 := zf1_rng (sc 2 5)
  unfold aFlo
  omega
theorem WS.told {pl : zF} {tb r8 : Nat → Int} {n : Int} (hP : WP pl) (hb : ∀ j : Nat, (j : Int) ≤ oE pl → 0 ≤ tb j ∧ tb j ≤ 255) (h8 : ∀ j : Nat, j < 24 → inI (r8 j)) (h : oOK pl tb n) : WS pl (oS pl tb r8) ∧ oS pl tb r8 0 0 ≤ 999 := by
  obtain ⟨h1, h2, h4, h5, h6, h7⟩ := h
  have hN := hP.n
  have hcr := hP.cr
  have o := oo pl
  have b0 := hb 0 (by omega)
  have b1 := hb 1 (by omega)
  have hsh := zshl_rng (k := pl 1 2) hN.2.2
  have e00 : oS pl tb r8 0 0 = 256 * tb 0 + tb 1 := rfl
  have cell : ∀ j, oC pl tb j = -1 ∨ zic (pl 0 1) (pl 0 2) (oC pl tb j) := fun j => zcellAt_rng (by omega) (by omega)
  have bz : ∀ j : Int, 0 ≤ j → j ≤ oE pl → 0 ≤ tb j.toNat ∧ tb j.toNat ≤ 255 := fun j a b => hb j.toNat (by omega)
  refine ⟨⟨by rw [e00]; have := h2.1; omega, cell 2, ?_, ⟨by show (0 : Int) ≤ 0; omega, by show (0 : Int) + aFlo (oS pl tb r8) ≤ 6; have := aFlo_6 (oS pl tb r8); omega⟩, ?_, ?_, fun j hj => h8 j hj⟩, by rw [e00]; exact h2.1⟩
  · exact oM_rng (pl := pl) (pl 1 0).toNat (by omega) (fun i a b => ⟨(bz (4 + i) (by omega) (by omega)).1, h4 i a (by omega)⟩)
  · intro k k0 k6
    unfold WB
    rw [oS_1 k0, oS_2 k0, oS_6 k0, oS_7 k0, oS_35 (s := 3) (by decide) k0, oS_35 (s := 4) (by decide) k0, oS_35 (s := 5) (by decide) k0]
    have c3 : (((3 : Nat) : Int) - 1) = 2 := rfl
    have c4 : (((4 : Nat) : Int) - 1) = 3 := rfl
    have c5 : (((5 : Nat) : Int) - 1) = 4 := rfl
    rw [c3, c4, c5]
    have heirs : (k < pl 1 1 → zic (pl 0 1) (pl 0 2) (if k < pl 1 1 then oC pl tb (oH pl + 2 * k) else -1)) ∧ (pl 1 1 ≤ k → (if k < pl 1 1 then oC pl tb (oH pl + 2 * k) else -1) = -1) := by
      refine ⟨fun q => ?_, fun q => by rw [if_neg (by omega)]⟩
      rw [if_pos q]
      rcases cell (oH pl + 2 * k) with c | c
      · exact absurd c (h5 k k0 q).1
      · exact c
    by_cases e : k < pl 1 2
    · have hk := h6 k k0 e
      have hk7 := h7 k k0 e
      have b10 := bz (oD pl + 3 * k) (by omega) (by omega)
      have b11 := bz (oD pl + 3 * k + 1) (by omega) (by omega)
      have b12 := bz (oD pl + 3 * k + 2) (by omega) (by omega)
      rw [if_pos e, if_pos e, if_pos e, if_pos e, if_pos e, if_pos e]
      have own : -1 ≤ (if tb (oD pl + 3 * k).toNat = 255 then -1 else tb (oD pl + 3 * k).toNat) ∧ (if tb (oD pl + 3 * k).toNat = 255 then -1 else tb (oD pl + 3 * k).toNat) < pl 1 1 := by
        by_cases e2 : tb (oD pl + 3 * k).toNat = 255
        · rw [if_pos e2]; omega
        · rw [if_neg e2]
          rcases hk7.1 with c | c
          · exact absurd c e2
          · omega
      refine ⟨heirs.1, heirs.2, ?_, ?_, ?_, ?_, own, fun q => absurd e (by omega), ⟨by omega, hk7.2⟩, fun q => absurd e (by omega)⟩
      · rcases hk with c | c
        · rcases cell (oB pl + 5 * k) with c2 | c2
          · exact absurd c2 c.1
          · exact Or.inr ⟨e, c2⟩
        · exact Or.inl ⟨c.1, c.2.2⟩
      · rcases hk with c | c
        · have := c.2.2.1; omega
        · have := c.2.2.1; omega
      · rcases hk with c | c
        · have := c.2.2.2.1; omega
        · have := c.2.2.2.1; omega
      · rcases hk with c | c
        · have := c.2.2.2.2.1; omega
        · have := c.2.2.2.2; omega
    · rw [if_neg e, if_neg e, if_neg e, if_neg e, if_neg e, if_neg e]
      exact ⟨heirs.1, heirs.2, Or.inl ⟨rfl, rfl, rfl, rfl⟩, by omega, by omega, by omega, by omega, fun _ => rfl, by omega, fun _ => rfl⟩
  · -- each deed in one bubble
    have c5 : (((5 : Nat) : Int) - 1) = 4 := rfl
    have row : ∀ k : Int, 0 ≤ k → oS pl tb r8 5 k.toNat = if k < pl 1 2 then tb (oB pl + 5 * k + 4).toNat else 0 := fun k k0 => by rw [oS_35 (s := 5) (by decide) k0, c5]
    intro k d k0 k6 d0 d6 hbit
    rw [row k k0] at hbit
    have kB : k < pl 1 2 := by
      by_cases e : k < pl 1 2
      · exact e
      · rw [if_neg e, zbit_z ⟨d0, d6⟩] at hbit
        omega
    rw [if_pos kB] at hbit
    have rk := (h6 k k0 kB).e hP
    have dB : d < pl 1 2 := by
      refine zhi rk hN.2.2 ⟨d0, d6⟩ ?_ hbit
      rcases h6 k k0 kB with c | c
      · exact c.2.2.2.2.1.2
      · rw [c.2.2.2.2]; omega
    -- two bubbles never hold the same deed
    have two : ∀ a b : Int, 0 ≤ a → a < b → b < pl 1 2 → zbit (tb (oB pl + 5 * b + 4).toNat) d = 1 → zbit (tb (oB pl + 5 * a + 4).toNat) d = 1 → False := by
      intro a b a0 ab bB hb1 ha1
      have rz := oZ_rng hP (tb := tb) b.toNat (fun i x y => (h6 i x (by omega)).e hP)
      have z := (oZ_bit hP (tb := tb) (k := d) ⟨d0, d6⟩ b.toNat (fun i x y => (h6 i x (by omega)).e hP)).mpr ⟨a, a0, by omega, ha1⟩
      have rb := (h6 b (by omega) bB).e hP
      rcases h6 b (by omega) bB with c | c
      · have := zdis rb rz ⟨d0, d6⟩ c.2.2.2.2.2 hb1
        omega
      · rw [c.2.2.2.2, zbit_z ⟨d0, d6⟩] at hb1
        omega
    refine ⟨dB, ?_, fun k2 k20 k26 hbit2 => ?_⟩
    · rw [oS_6 d0, if_pos dB]
      by_cases e2 : tb (oD pl + 3 * d).toNat = 255
      · rw [if_pos e2]
      · rcases (h7 d d0 dB).1 with c | c
        · exact absurd c e2
        · have z := (oZ_bit hP (tb := tb) (k := d) ⟨d0, d6⟩ (pl 1 2).toNat (fun i x y => (h6 i x (by omega)).e hP)).mpr ⟨k, k0, by omega, hbit⟩
          omega
    · rw [row k2 k20] at hbit2
      have k2B : k2 < pl 1 2 := by
        by_cases e : k2 < pl 1 2
        · exact e
        · rw [if_neg e, zbit_z ⟨d0, d6⟩] at hbit2
          omega
      rw [if_pos k2B] at hbit2
      by_cases e : k2 = k
      · exact e
      · by_cases e3 : k2 < k
        · exact absurd (two k2 k k20 e3 kB hbit hbit2) id
        · exact absurd (two k k2 k0 (by omega) k2B hbit2 hbit) id
section ONR
variable {X : zX} {rf mem : zF} {pl sc : zF} {tb r8 : Nat → Int}
theorem w_174 {D : Nat} {Q : Int → zF → Prop} (hX : RX rf mem pl sc) (hT : TR rf mem pl tb) (hP : PX pl sc) (hD : 2 ≤ D) (h2 : o2 pl tb) (k1 : oAll (o4 tb) (pl 1 0) → oAll (o5 pl tb) (pl 1 1) → oAll (o6 pl tb) (pl 1 2) → oAll (o7 pl tb) (pl 1 2) → ∀ mem', RV mem' 1 pl (oS pl tb r8) → zFV mem mem' → Q 1 mem') (k0 : ¬ (oAll (o4 tb) (pl 1 0) ∧ oAll (o5 pl tb) (pl 1 1) ∧ oAll (o6 pl tb) (pl 1 2) ∧ oAll (o7 pl tb) (pl 1 2)) → ∀ mem', zFV mem mem' → Q 0 mem') : L_m_comesOn_174 X D rf Q mem (oH pl) (oB pl) (oD pl) := by
  have hN := hP.1.n
  have o := oo pl
  have b0 := hT.b (j := 0) (by omega) (by omega)
  have b1 := hT.b (j := 1) (by omega) (by omega)
  have b0' : mem 262 0 = tb 0 ∧ 0 ≤ tb 0 ∧ tb 0 ≤ 255 := b0
  have b1' : mem 262 1 = tb 1 ∧ 0 ≤ tb 1 ∧ tb 1 ≤ 255 := b1
  refine s_m_comesOn_174 hX.1 (t_copies hX.1 hP.1 hP.2.2.1 (by decide) (by decide) (by decide) hX.2.2 (fun m1 r1 f1 => ?_))
  rw [f1.row (show 262 < 293 ∨ 306 < 262 by decide), b0'.1, b1'.1, ztwo b0'.2 b1'.2]
  have g2 : zFV mem (zup m1 293 1 (256 * tb 0 + tb 1)) := f1.fv.up (Or.inl (by unfold zofv; omega))
  refine w_cell (hT.fv g2) (by omega) (by omega) (by omega) ?_
  rw [oW_eq hP.1 h2.2]
  generalize hmm : zup (zup (zup (zup (zup m1 293 1 (256 * tb 0 + tb 1)) 294 1 (oC pl tb 2)) 295 1 0) 303 1 0) 261 79 0 = m3
  have g3 : zFV mem m3 := by
    rw [← hmm]
    exact (((g2.up (Or.inl (by unfold zofv; omega))).up (Or.inl (by unfold zofv; omega))).up (Or.inl (by unfold zofv; omega))).up (Or.inr ⟨rfl, rfl⟩)
  have t3 : m3 293 1 = 256 * tb 0 + tb 1 := by rw [← hmm, zup_row _ _ _ (by decide), zup_row _ _ _ (by decide), zup_row _ _ _ (by decide), zup_row _ _ _ (by decide), zup_at]
  have t4 : m3 294 1 = oC pl tb 2 := by rw [← hmm, zup_row _ _ _ (by decide), zup_row _ _ _ (by decide), zup_row _ _ _ (by decide), zup_at]
  have t5 : m3 295 1 = 0 := by rw [← hmm, zup_row _ _ _ (by decide), zup_row _ _ _ (by decide), zup_at]
  have t6 : m3 303 1 = 0 := by rw [← hmm, zup_row _ _ _ (by decide), zup_at]
  have t7 : m3 261 79 = 0 := by rw [← hmm, zup_at]
  refine w_doors (m0 := m3) hP.1 (fun h4 m4 d4 f4 => ?_) (fun h m4 f4 => k0 (fun c => h c.1) m4 (g3.trans f4)) (pl 1 0).toNat (hT.fv g3) (by decide) (by omega) t5 (fun k a b => by omega) (fun _ _ _ => rfl) zFV.rfl
  have g4' : zFV m3 m4 := fun i j x _ _ _ => f4 i j (fun c => x (by unfold zofv; omega))
  have g4 := g3.trans g4'
  refine w_heirs (m0 := m4) hP.1 hD (fun h5 m5 d5 f5 v5 => ?_) (fun h m5 f5 => k0 (fun c => h c.2.1) m5 (g4.trans f5)) (pl 1 1).toNat (hT.fv g4) (by decide) (by omega) (fun k a b => by omega) (fun k a b => by omega) (fun _ _ => rfl) zFV.rfl
  have g5 := g4.trans v5
  have z5 : m5 261 79 = 0 := by rw [f5 261 (by decide), f4 261 79 (by decide)]; exact t7
  refine w_bubs (m0 := m5) hP.1 hD (fun h6 m6 B6 => ?_) (fun h m6 f6 => k0 (fun c => h c.2.2.1) m6 (g5.trans f6)) (pl 1 2).toNat (hT.fv g5) (by decide) (by omega) ⟨fun k a b => by omega, fun s k a b c d => by omega, z5, fun _ _ _ => rfl, zFV.rfl⟩ (fun k a b => by omega)
  have g6 := g5.trans B6.2.2.2.2
  refine w_deeds (m0 := m6) hP.1 hD h6 B6.2.2.1 (fun h7 m7 D7 => ?_) (fun h m7 f7 => k0 (fun c => h c.2.2.2) m7 (g6.trans f7)) (pl 1 2).toNat (hT.fv g6) (by decide) (by omega) ⟨fun k a b => by omega, fun _ _ _ => rfl, zFV.rfl⟩ (fun k a b => by omega)
  refine k1 h4 h5 h6 h7 m7 ?_ (g6.trans D7.2.2)
  have r7 : ∀ i, i ≠ 301 → i ≠ 302 → m7 i = m6 i := D7.2.1
  have r6 : ∀ i, i ≠ 261 → (i < 297 ∨ 300 < i) → m6 i = m5 i := B6.2.2.2.1
  have c0 : ∀ i, i ≠ 261 → i ≠ 296 → (i < 297 ∨ 302 < i) → m7 i = m4 i := fun i a b c => by rw [r7 i (by omega) (by omega), r6 i a (by omega), f5 i b]
  have z1 : (1 : Int).toNat = 1 := rfl
  refine ⟨⟨?_, ?_, ?_, ?_⟩, fun k a b => ?_, fun s k a b c d => ?_, fun j a b => ?_⟩
  · rw [z1, c0 293 (by decide) (by decide) (by decide), f4 293 1 (by decide), t3]; rfl
  · rw [z1, c0 294 (by decide) (by decide) (by decide), f4 294 1 (by decide), t4]; rfl
  · rw [z1, c0 295 (by decide) (by decide) (by decide), d4]; rfl
  · rw [z1, c0 303 (by decide) (by decide) (by decide), f4 303 1 (by decide), t6]; rfl
  · have e : 6 * 1 + k = 6 + k := by omega
    rw [e, r7 296 (by decide) (by decide), r6 296 (by decide) (by decide), d5 k a b, oS_1 a, if_pos b]
  · have e : 6 * 1 + k = 6 + k := by omega
    rw [e]
    have hs : s = 2 ∨ (3 ≤ s ∧ s ≤ 5) ∨ s = 6 ∨ s = 7 := by omega
    rcases hs with rfl | hs | rfl | rfl
    · rw [oS_2 c, if_pos d]
      show m7 297 _ = _
      rw [r7 297 (by decide) (by decide)]
      exact B6.1 k c d
    · rw [oS_35 hs c, if_pos d, r7 (295 + s) (by omega) (by omega)]
      exact B6.2.1 s k hs.1 hs.2 c d
    · rw [oS_6 c, if_pos d]
      exact (D7.1 k c d).1
    · rw [oS_7 c, if_pos d]
      exact (D7.1 k c d).2
  · have : oS pl tb r8 0 11 = 0 := rfl
    omega
theorem w_100 {D : Nat} {Q : Int → zF → Prop} (hT : TR rf mem pl tb) (hP : WP pl) {a b c K : Int} (hD : 1 ≤ D) (k1 : K = tb (oE pl).toNat → (oC pl tb 2 ≠ -1 ∨ oN tb 2) → L_m_comesOn_174 X D rf Q mem a b c) (k0 : ¬ (K = tb (oE pl).toNat ∧ (oC pl tb 2 ≠ -1 ∨ oN tb 2)) → Q 0 mem) : ∀ (n : Nat) {x v : Int}, 0 ≤ x → x + n = oE pl → 0 ≤ v ∧ v < 251 → oK tb n x v = K → L_m_comesOn_100 X D rf Q mem (oE pl + 1) a b c v x
  | 0, x, v, h0, hx, hv, hk => by
    have hN := hP.n
    have o := oo pl
    have bE := hT.b (j := oE pl) (by omega) (by omega)
    have b2 := hT.b (j := 2) (by omega) (by omega)
    have b3 := hT.b (j := 3) (by omega) (by omega)
    have b2' : mem 262 2 = tb 2 ∧ 0 ≤ tb 2 ∧ tb 2 ≤ 255 := b2
    have b3' : mem 262 3 = tb 3 ∧ 0 ≤ tb 3 ∧ tb 3 ≤ 255 := b3
    have hk2 : v = K := hk
    have e : oE pl + 1 - 1 = oE pl := by omega
    refine s_m_comesOn_100 hT.1 ?_
    rw [e, bE.1]
    refine ⟨by omega, fun _ => ⟨by omega, by omega, fun q => k0 (fun c => q (by rw [hk2]; exact c.1.symm)), fun q => w_none hT (by omega) (by omega) (fun hn => ⟨by decide, fun _ => k1 (by omega) (Or.inr hn), fun q => absurd q (by decide)⟩) (fun hn => ⟨by decide, fun q => absurd rfl q, fun _ => ?_⟩)⟩, fun q => absurd (by omega) q⟩
    rw [b2'.1, b3'.1]
    refine t_cell hT.1 (by omega) hT.2.1 hP (by omega) (by omega) (fun q2 => ⟨by decide, fun _ => k1 (by omega) (Or.inl q2), fun q => absurd q (by decide)⟩) (fun q2 => ⟨by decide, fun q => absurd rfl q, fun _ => k0 (fun c => ?_)⟩)
    rcases c.2 with c | c
    · exact c q2
    · exact hn c
  | n + 1, x, v, h0, hx, hv, hk => by
    have hN := hP.n
    have o := oo pl
    have bx := hT.b (j := x) (by omega) (by omega)
    have e : oE pl + 1 - 1 = oE pl := by omega
    refine s_m_comesOn_100 hT.1 ?_
    rw [e, bx.1]
    refine ⟨by omega, fun q => absurd q (by omega), fun _ => ⟨by omega, by omega, ?_⟩⟩
    rw [Int.tmod_eq_emod_of_nonneg (by omega)]
    exact w_100 hT hP hD k1 k0 n (by omega) (by omega) (by omega) hk
theorem w_comes {D : Nat} {Q : Int → zF → Prop} (hX : RX rf mem pl sc) (hP : PX pl sc) (hD : 3 ≤ D) {n : Int} (hn : 0 ≤ n ∧ n ≤ 1600) (hb : ∀ j : Nat, (j : Int) < n → mem 262 j = tb j ∧ 0 ≤ tb j ∧ tb j ≤ 255) (k1 : pl 0 1 ≠ 0 → oOK pl tb n → ∀ mem', RV mem' 1 pl (oS pl tb r8) → zFV mem mem' → Q 1 mem') (k0 : ¬ (pl 0 1 ≠ 0 ∧ oOK pl tb n) → ∀ mem', zFV mem mem' → Q 0 mem') : Ci X D 315 [(2, 261), (0, n)] rf mem Q := by
  obtain ⟨d, rfl⟩ : ∃ d, D = d + 1 := ⟨D - 1, by omega⟩
  have hN := hP.1.n
  have o := oo pl
  have hB := hX.2.1
  have h50 := hB.2.1
  refine s_m_comesOn hX.1 ?_
  rw [hB.2.2.2.1.1, hB.2.2.2.1.2.1, hB.2.2.2.1.2.2.1]
  have e : 4 + pl 1 0 + 2 * pl 1 1 + 5 * pl 1 2 + 3 * pl 1 2 + 1 = oE pl + 1 := by omega
  rw [e]
  refine ⟨hB.1, hB.1, hB.1, ?_⟩
  by_cases q0 : pl 0 1 = 0
  · rw [h50, if_pos q0]
    exact ⟨by decide, fun _ => k0 (fun c => c.1 q0) mem zFV.rfl, fun q => absurd rfl q⟩
  rw [h50, if_neg q0]
  refine ⟨by decide, fun q => absurd q (by decide), fun _ => ⟨hB.1, by omega, fun q => k0 (fun c => q c.2.1.1) mem zFV.rfl, fun q => ?_⟩⟩
  have hT : TR rf mem pl tb := ⟨hX.1, hB, fun j hj => hb j (by omega)⟩
  have b0 : mem 262 0 = tb 0 ∧ 0 ≤ tb 0 ∧ tb 0 ≤ 255 := hb 0 (by omega)
  have b1 : mem 262 1 = tb 1 ∧ 0 ≤ tb 1 ∧ tb 1 ≤ 255 := hb 1 (by omega)
  rw [b0.1, b1.1, ztwo b0.2 b1.2]
  refine ⟨by omega, fun q2 => ?_, fun q2 => k0 (fun c => q2 c.2.2.1.1) mem zFV.rfl⟩
  rw [q]
  refine w_100 (K := oK tb (oE pl).toNat 0 197) hT hP.1 (by omega) (fun hK hl => ?_) (fun hno => k0 (fun c => hno ⟨c.2.1.2, c.2.2.1.2⟩) mem zFV.rfl) (oE pl).toNat (by decide) (by omega) (by decide) rfl
  exact w_174 (r8 := r8) hX hT hP (by omega) ⟨q2, hl⟩ (fun h4 h5 h6 h7 => k1 q0 ⟨⟨q, hK⟩, ⟨q2, hl⟩, h4, h5, h6, h7⟩) (fun hno => k0 (fun c => hno c.2.2.2))
end ONR
