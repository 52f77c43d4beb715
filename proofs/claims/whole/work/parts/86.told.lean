/-! the reference takes a picture up -/
def zFV (mem mem' : zF) : Prop := ∀ a j, ¬ zofv 1 a j → ¬ (a = 261 ∧ j = 79) → a ≠ 305 → a ≠ 306 → mem' a j = mem a j
theorem zFV.rfl {a : zF} : zFV a a := fun _ _ _ _ _ _ => Eq.refl _
theorem zFV.trans {a b c : zF} (h1 : zFV a b) (h2 : zFV b c) : zFV a c := fun i j x y z w => (h2 i j x y z w).trans (h1 i j x y z w)
theorem zFV.up {m1 m2 : zF} {a j : Nat} {v : Int} (h : zFV m1 m2) (ho : zofv 1 a j ∨ (a = 261 ∧ j = 79)) : zFV m1 (zup m2 a j v) := by
  intro i k x y z w
  rw [zup_get]
  by_cases e : i = a ∧ k = j
  · rw [e.1, e.2] at x y
    rcases ho with ho | ho
    · exact absurd ho x
    · exact absurd ho y
  · rw [if_neg e]
    exact h i k x y z w
theorem zFV.row {m1 m2 : zF} (h : zFV m1 m2) {a : Nat} (ha : (a < 293 ∨ 306 < a) ∧ a ≠ 261) : m2 a = m1 a := by
  funext j
  exact h a j (by unfold zofv; omega) (by omega) (by omega) (by omega)
theorem zFV.s {m1 m2 : zF} (h : zFV m1 m2) {j : Nat} (hj : j ≠ 79) : m2 261 j = m1 261 j := h 261 j (by unfold zofv; omega) (by omega) (by decide) (by decide)
theorem RF.fv {m1 m2 : zF} (h : RF 1 m1 m2) : zFV m1 m2 := fun a j x _ z w => h a j x z w
def TR (rf mem pl : zF) (tb : Nat → Int) : Prop := zall rf zRK = true ∧ RP mem pl ∧ ∀ j : Nat, (j : Int) ≤ oE pl → mem 262 j = tb j ∧ 0 ≤ tb j ∧ tb j ≤ 255
theorem TR.fv {rf m1 m2 pl : zF} {tb : Nat → Int} (h : TR rf m1 pl tb) (f : zFV m1 m2) : TR rf m2 pl tb := ⟨h.1, h.2.1.fr (f.s (by decide)) (f.s (by decide)) (fun a a1 a2 => f.row (by omega)), fun j hj => by rw [f.row (by decide)]; exact h.2.2 j hj⟩
theorem TR.b {rf mem pl : zF} {tb : Nat → Int} (h : TR rf mem pl tb) {j : Int} (h0 : 0 ≤ j) (h1 : j ≤ oE pl) : mem 262 j.toNat = tb j.toNat ∧ 0 ≤ tb j.toNat ∧ tb j.toNat ≤ 255 := h.2.2 j.toNat (by omega)
def oW (tb : Nat → Int) (j : Int) : Int := if tb j.toNat = 255 ∧ tb (j + 1).toNat = 255 then -1 else 8 * tb (j + 1).toNat + tb j.toNat
theorem oC_out {pl : zF} {tb : Nat → Int} (hP : WP pl) {j : Int} (h : oN tb j) : oC pl tb j = -1 := by
  have hcr := hP.cr
  unfold oN at h
  unfold oC zcellAt
  rw [if_neg (by omega)]
theorem oC_in {pl : zF} {tb : Nat → Int} {j : Int} (h : oC pl tb j ≠ -1) : oC pl tb j = 8 * tb (j + 1).toNat + tb j.toNat := by
  unfold oC zcellAt at h ⊢
  by_cases e : 0 ≤ tb j.toNat ∧ tb j.toNat < pl 0 1 ∧ 0 ≤ tb (j + 1).toNat ∧ tb (j + 1).toNat < pl 0 2
  · rw [if_pos e]
  · rw [if_neg e] at h
    exact absurd rfl h
theorem oW_eq {pl : zF} {tb : Nat → Int} (hP : WP pl) {j : Int} (h : oC pl tb j ≠ -1 ∨ oN tb j) : oW tb j = oC pl tb j := by
  unfold oW
  by_cases e : tb j.toNat = 255 ∧ tb (j + 1).toNat = 255
  · rw [if_pos e, oC_out hP e]
  · rw [if_neg e]
    rcases h with h | h
    · exact (oC_in h).symm
    · exact absurd h e
section TOLDR
variable {X : zX} {rf mem : zF} {pl sc : zF} {tb : Nat → Int}
theorem w_none {d : Nat} {Q : Int → zF → Prop} (hT : TR rf mem pl tb) (hE : oE pl ≤ 1000) {j : Int} (h0 : 0 ≤ j ∧ j + 1 ≤ oE pl) (k1 : oN tb j → Q 1 mem) (k0 : ¬ oN tb j → Q 0 mem) : Ci X d 310 [(2, 261), (0, j)] rf mem Q := by
  have b0 := hT.b (j := j) (by omega) (by omega)
  have b1 := hT.b (j := j + 1) (by omega) (by omega)
  refine s_m_isNone hT.1 ?_
  rw [b0.1, b1.1]
  exact ⟨by omega, by omega, fun q => k0 (fun c => q c.1), fun q => ⟨by omega, by omega, fun q2 => k0 (fun c => q2 c.2), fun q2 => k1 ⟨q, q2⟩⟩⟩
theorem w_cell {D : Nat} {Q : Int → zF → Prop} (hT : TR rf mem pl tb) (hE : oE pl ≤ 1000) (hD : 1 ≤ D) {j : Int} (h0 : 0 ≤ j ∧ j + 1 ≤ oE pl) (kk : Q (oW tb j) mem) : Ci X D 311 [(2, 261), (0, j)] rf mem Q := by
  obtain ⟨d, rfl⟩ : ∃ d, D = d + 1 := ⟨D - 1, by omega⟩
  have b0 := hT.b (j := j) (by omega) (by omega)
  have b1 := hT.b (j := j + 1) (by omega) (by omega)
  unfold oW at kk
  refine s_m_cellOn hT.1 (w_none hT hE h0 (fun q => ⟨by decide, fun q2 => absurd q2 (by decide), fun _ => ?_⟩) (fun q => ⟨by decide, fun _ => ⟨by omega, by omega, ?_⟩, fun q2 => absurd rfl q2⟩))
  · rwa [if_pos (show tb j.toNat = 255 ∧ tb (j + 1).toNat = 255 from q)] at kk
  · rw [b0.1, b1.1]
    rwa [if_neg (show ¬ (tb j.toNat = 255 ∧ tb (j + 1).toNat = 255) from q)] at kk
theorem w_doors {D : Nat} {Q : Int → zF → Prop} {m0 : zF} {a b c : Int} (hP : WP pl) (k1 : oAll (o4 tb) (pl 1 0) → ∀ mem', mem' 295 1 = oM tb (pl 1 0).toNat → (∀ i j, ¬ (i = 295 ∧ j = 1) → mem' i j = m0 i j) → L_m_comesOn_294 X D rf Q mem' a b c 0) (k0 : ¬ oAll (o4 tb) (pl 1 0) → ∀ mem', zFV m0 mem' → Q 0 mem') : ∀ (n : Nat) {x : Int} {mem : zF}, TR rf mem pl tb → 0 ≤ x → x + n = pl 1 0 → mem 295 1 = oM tb x.toNat → oAll (o4 tb) x → (∀ i j, ¬ (i = 295 ∧ j = 1) → mem i j = m0 i j) → zFV m0 mem → L_m_comesOn_235 X D rf Q mem a b c x
  | 0, x, mem, hT, h0, hx, hm, ha, hf, ht => by
    have hN := hP.n
    have e : x = pl 1 0 := by omega
    refine s_m_comesOn_235 hT.1 ?_
    rw [hT.2.1.2.2.2.1.1]
    exact ⟨hT.2.1.1, by omega, fun _ => k1 (by rw [← e]; exact ha) mem (by rw [← e]; exact hm) hf, fun q => absurd (by omega) q⟩
  | n + 1, x, mem, hT, h0, hx, hm, ha, hf, ht => by
    have hN := hP.n
    have o := oo pl
    have hb := hT.b (j := 4 + x) (by omega) (by omega)
    refine s_m_comesOn_235 hT.1 ?_
    rw [hT.2.1.2.2.2.1.1, hb.1, hm]
    refine ⟨hT.2.1.1, by omega, fun q => absurd q (by omega), fun _ => ⟨by omega, by omega, fun q => ⟨by omega, ?_⟩, fun q => k0 (fun c => q (c x h0 (by omega))) mem ht⟩⟩
    have g : zFV mem (zup mem 295 1 (zor (oM tb x.toNat) (zshl (tb (4 + x).toNat) x))) := zFV.rfl.up (Or.inl (by unfold zofv; omega))
    refine w_doors hP k1 k0 n (hT.fv g) (by omega) (by omega) ?_ (fun k a b => ?_) (fun i j hij => by rw [zup_get, if_neg hij]; exact hf i j hij) (ht.trans g)
    · have e1 : (x + 1).toNat = x.toNat + 1 := by omega
      have e2 : ((x.toNat : Nat) : Int) = x := by omega
      rw [zup_at, e1]
      show _ = zor (oM tb x.toNat) (zshl (tb (4 + ((x.toNat : Nat) : Int)).toNat) ((x.toNat : Nat) : Int))
      rw [e2]
    · by_cases e : k = x
      · rw [e]; exact q
      · exact ha k a (by omega)
theorem w_heir_45 {d : Nat} {Q : Int → zF → Prop} (hR : zall rf zRK = true) {x c : Int} (hx : 0 ≤ x ∧ x < 6) (hc : inI c) (hI : ∀ k : Int, 0 ≤ k → k < x → inI (mem 296 (6 + k).toNat)) (k1 : (∀ k : Int, 0 ≤ k → k < x → mem 296 (6 + k).toNat ≠ c) → Q 1 (zup mem 296 (6 + x).toNat c)) (k0 : ¬ (∀ k : Int, 0 ≤ k → k < x → mem 296 (6 + k).toNat ≠ c) → Q 0 mem) : ∀ (n : Nat) {y : Int}, 0 ≤ y → y + n = x → (∀ k : Int, 0 ≤ k → k < y → mem 296 (6 + k).toNat ≠ c) → L_m_heirOn_45 X d rf Q mem x c y
  | 0, y, h0, hy, ha => s_m_heirOn_45 hR ⟨by omega, fun _ => ⟨by omega, k1 (fun k a b => ha k a (by omega))⟩, fun q => absurd (by omega) q⟩
  | n + 1, y, h0, hy, ha => by
    refine s_m_heirOn_45 hR ⟨by omega, fun q => absurd q (by omega), fun _ => ⟨by omega, ⟨hI y h0 (by omega), hc⟩, fun q => ?_, fun q => k0 (fun c => c y h0 (by omega) q)⟩⟩
    refine w_heir_45 hR hx hc hI k1 k0 n (by omega) (by omega) (fun k a b => ?_)
    by_cases e : k = y
    · rw [e]; exact q
    · exact ha k a (by omega)
theorem w_heirs {D : Nat} {Q : Int → zF → Prop} {m0 : zF} {b c : Int} (hP : WP pl) (hD : 2 ≤ D) (k1 : oAll (o5 pl tb) (pl 1 1) → ∀ mem', (∀ k : Int, 0 ≤ k → k < pl 1 1 → mem' 296 (6 + k).toNat = oC pl tb (oH pl + 2 * k)) → (∀ i, i ≠ 296 → mem' i = m0 i) → zFV m0 mem' → L_m_comesOn_334 X D rf Q mem' b c 0) (k0 : ¬ oAll (o5 pl tb) (pl 1 1) → ∀ mem', zFV m0 mem' → Q 0 mem') : ∀ (n : Nat) {x : Int} {mem : zF}, TR rf mem pl tb → 0 ≤ x → x + n = pl 1 1 → (∀ k : Int, 0 ≤ k → k < x → mem 296 (6 + k).toNat = oC pl tb (oH pl + 2 * k)) → oAll (o5 pl tb) x → (∀ i, i ≠ 296 → mem i = m0 i) → zFV m0 mem → L_m_comesOn_294 X D rf Q mem (oH pl) b c x
  | 0, x, mem, hT, h0, hx, hm, ha, hf, ht => by
    have hN := hP.n
    have e : x = pl 1 1 := by omega
    refine s_m_comesOn_294 hT.1 ?_
    rw [hT.2.1.2.2.2.1.2.1]
    exact ⟨hT.2.1.1, by omega, fun _ => k1 (by rw [← e]; exact ha) mem (by rw [← e]; exact hm) hf ht, fun q => absurd (by omega) q⟩
  | n + 1, x, mem, hT, h0, hx, hm, ha, hf, ht => by
    obtain ⟨d, rfl⟩ : ∃ d, D = d + 1 := ⟨D - 1, by omega⟩
    have hN := hP.n
    have o := oo pl
    have b0 := hT.b (j := oH pl + 2 * x) (by omega) (by omega)
    have b1 := hT.b (j := oH pl + 2 * x + 1) (by omega) (by omega)
    have hcr := oC_rng (tb := tb) hP (oH pl + 2 * x)
    refine s_m_comesOn_294 hT.1 ?_
    rw [hT.2.1.2.2.2.1.2.1]
    refine ⟨hT.2.1.1, by omega, fun q => absurd q (by omega), fun _ => s_m_heirOn hT.1 ?_⟩
    rw [b0.1, b1.1]
    have bad : ¬ o5 pl tb x → ¬ oAll (o5 pl tb) (pl 1 1) := fun h c => h (c x h0 (by omega))
    refine ⟨by omega, by omega, by omega, by omega, t_cell hT.1 (by omega) hT.2.1 hP (by omega) (by omega) (fun q => ⟨by decide, fun _ => ?_, fun q => absurd q (by decide)⟩) (fun q => ⟨by decide, fun q => absurd rfl q, fun _ => ⟨by decide, fun q => absurd rfl q, fun _ => k0 (bad (fun c => c.1 q)) mem ht⟩⟩)⟩
    have q' : oC pl tb (oH pl + 2 * x) ≠ -1 := q
    rw [← oC_in q']
    refine w_heir_45 hT.1 (by omega) (by omega) (fun k a b => ?_) (fun hall => ⟨by decide, fun _ => ?_, fun q => absurd q (by decide)⟩) (fun hno => ⟨by decide, fun q => absurd rfl q, fun _ => k0 (bad (fun c => hno (fun k a b => by rw [hm k a b]; exact c.2 k a b))) mem ht⟩) x.toNat (by decide) (by omega) (fun k a b => by omega)
    · rw [hm k a b]
      have := oC_rng (tb := tb) hP (oH pl + 2 * k)
      omega
    · have g : zFV mem (zup mem 296 (6 + x).toNat (oC pl tb (oH pl + 2 * x))) := zFV.rfl.up (Or.inl (by unfold zofv; omega))
      refine w_heirs hP hD k1 k0 n (hT.fv g) (by omega) (by omega) (fun k a b => ?_) (fun k a b => ?_) (fun i hi => by rw [zup_row _ _ _ hi]; exact hf i hi) (ht.trans g)
      · by_cases e : k = x
        · rw [e, zup_at]
        · rw [zup_ne _ _ _ _ (by omega)]
          exact hm k a (by omega)
      · by_cases e : k = x
        · rw [e]
          exact ⟨q', fun i a1 b1 => by rw [← hm i a1 b1]; exact hall i a1 b1⟩
        · exact ha k a (by omega)
theorem w_bub_197 {d : Nat} {Q : Int → zF → Prop} (hR : zall rf zRK = true) {x c : Int} (hx : 0 ≤ x ∧ x < 6) (hc : mem 297 (6 + x).toNat = c) (hcI : inI c) (hI : ∀ k : Int, 0 ≤ k → k < x → inI (mem 297 (6 + k).toNat)) (k1 : (∀ k : Int, 0 ≤ k → k < x → mem 297 (6 + k).toNat ≠ c) → Q 1 (zup mem 261 79 (zor (mem 261 79) (mem 300 (6 + x).toNat)))) (k0 : ¬ (∀ k : Int, 0 ≤ k → k < x → mem 297 (6 + k).toNat ≠ c) → Q 0 mem) : ∀ (n : Nat) {y : Int}, 0 ≤ y → y + n = x → (∀ k : Int, 0 ≤ k → k < y → mem 297 (6 + k).toNat ≠ c) → L_m_bubbleOn_197 X d rf Q mem x (6 + x) y
  | 0, y, h0, hy, ha => s_m_bubbleOn_197 hR ⟨by omega, fun _ => ⟨by omega, k1 (fun k a b => ha k a (by omega))⟩, fun q => absurd (by omega) q⟩
  | n + 1, y, h0, hy, ha => by
    refine s_m_bubbleOn_197 hR ?_
    rw [hc]
    refine ⟨by omega, fun q => absurd q (by omega), fun _ => ⟨by omega, by omega, ⟨hI y h0 (by omega), hcI⟩, fun q => ?_, fun q => k0 (fun c => c y h0 (by omega) q)⟩⟩
    refine w_bub_197 hR hx hc hcI hI k1 k0 n (by omega) (by omega) (fun k a b => ?_)
    by_cases e : k = y
    · rw [e]; exact q
    · exact ha k a (by omega)
def oBR (m0 mem pl : zF) (tb : Nat → Int) (x : Int) : Prop := (∀ k : Int, 0 ≤ k → k < x → mem 297 (6 + k).toNat = oC pl tb (oB pl + 5 * k)) ∧ (∀ (s : Nat) (k : Int), 3 ≤ s → s ≤ 5 → 0 ≤ k → k < x → mem (295 + s) (6 + k).toNat = tb (oB pl + 5 * k + ((s : Int) - 1)).toNat) ∧ mem 261 79 = oZ pl tb x.toNat ∧ (∀ i, i ≠ 261 → (i < 297 ∨ 300 < i) → mem i = m0 i) ∧ zFV m0 mem
theorem w_bubs {D : Nat} {Q : Int → zF → Prop} {m0 : zF} {c : Int} (hP : WP pl) (hD : 2 ≤ D) (k1 : oAll (o6 pl tb) (pl 1 2) → ∀ mem', oBR m0 mem' pl tb (pl 1 2) → L_m_comesOn_374 X D rf Q mem' c 0) (k0 : ¬ oAll (o6 pl tb) (pl 1 2) → ∀ mem', zFV m0 mem' → Q 0 mem') : ∀ (n : Nat) {x : Int} {mem : zF}, TR rf mem pl tb → 0 ≤ x → x + n = pl 1 2 → oBR m0 mem pl tb x → oAll (o6 pl tb) x → L_m_comesOn_334 X D rf Q mem (oB pl) c x
  | 0, x, mem, hT, h0, hx, hm, ha => by
    have hN := hP.n
    have e : x = pl 1 2 := by omega
    refine s_m_comesOn_334 hT.1 ?_
    rw [hT.2.1.2.2.2.1.2.2.1]
    exact ⟨hT.2.1.1, by omega, fun _ => k1 (by rw [← e]; exact ha) mem (by rw [← e]; exact hm), fun q => absurd (by omega) q⟩
  | n + 1, x, mem, hT, h0, hx, hm, ha => by
    obtain ⟨d, rfl⟩ : ∃ d, D = d + 1 := ⟨D - 1, by omega⟩
    have hN := hP.n
    have o := oo pl
    have b0 := hT.b (j := oB pl + 5 * x) (by omega) (by omega)
    have b1 := hT.b (j := oB pl + 5 * x + 1) (by omega) (by omega)
    have b2 := hT.b (j := oB pl + 5 * x + 2) (by omega) (by omega)
    have b3 := hT.b (j := oB pl + 5 * x + 3) (by omega) (by omega)
    have b4 := hT.b (j := oB pl + 5 * x + 4) (by omega) (by omega)
    have hcr := oC_rng (tb := tb) hP (oB pl + 5 * x)
    have hz := oZ_rng hP x.toNat (tb := tb) (fun i a b => (ha i a (by omega)).e hP)
    have hsh := zshl_rng (k := pl 1 2) hN.2.2
    have e2 : ((x.toNat : Nat) : Int) = x := by omega
    have e1 : (x + 1).toNat = x.toNat + 1 := by omega
    have bad : ¬ o6 pl tb x → ¬ oAll (o6 pl tb) (pl 1 2) := fun h c => h (c x h0 (by omega))
    refine s_m_comesOn_334 hT.1 ?_
    rw [hT.2.1.2.2.2.1.2.2.1]
    refine ⟨hT.2.1.1, by omega, fun q => absurd q (by omega), fun _ => s_m_bubbleOn hT.1 (w_cell hT (by omega) (by omega) (by omega) ?_)⟩
    rw [b2.1, b3.1, b4.1]
    refine ⟨by omega, by omega, by omega, by omega, by omega, by omega, by omega, ?_⟩
    generalize hmm : zup (zup (zup (zup mem 297 (6 + x).toNat (oW tb (oB pl + 5 * x))) 298 (6 + x).toNat (tb (oB pl + 5 * x + 2).toNat)) 299 (6 + x).toNat (tb (oB pl + 5 * x + 3).toNat)) 300 (6 + x).toNat (tb (oB pl + 5 * x + 4).toNat) = m4
    have g4 : zFV mem m4 := by
      rw [← hmm]
      exact (((zFV.rfl.up (Or.inl (by unfold zofv; omega))).up (Or.inl (by unfold zofv; omega))).up (Or.inl (by unfold zofv; omega))).up (Or.inl (by unfold zofv; omega))
    have hT4 := hT.fv g4
    have r2 : m4 297 (6 + x).toNat = oW tb (oB pl + 5 * x) := by rw [← hmm, zup_row _ _ _ (by decide), zup_row _ _ _ (by decide), zup_row _ _ _ (by decide), zup_at]
    have r3 : m4 298 (6 + x).toNat = tb (oB pl + 5 * x + 2).toNat := by rw [← hmm, zup_row _ _ _ (by decide), zup_row _ _ _ (by decide), zup_at]
    have r4 : m4 299 (6 + x).toNat = tb (oB pl + 5 * x + 3).toNat := by rw [← hmm, zup_row _ _ _ (by decide), zup_at]
    have r5 : m4 300 (6 + x).toNat = tb (oB pl + 5 * x + 4).toNat := by rw [← hmm, zup_at]
    have ne : ∀ i k, k ≠ (6 + x).toNat → m4 i k = mem i k := fun i k e => by rw [← hmm, zup_ne _ _ _ _ e, zup_ne _ _ _ _ e, zup_ne _ _ _ _ e, zup_ne _ _ _ _ e]
    have fo : ∀ i, (i < 297 ∨ 300 < i) → m4 i = mem i := fun i hi => by rw [← hmm, zup_row _ _ _ (by omega), zup_row _ _ _ (by omega), zup_row _ _ _ (by omega), zup_row _ _ _ (by omega)]
    have z79 : m4 261 79 = oZ pl tb x.toNat := by rw [fo 261 (by decide)]; exact hm.2.2.1
    have F4 := hm.2.2.2.2.trans g4
    -- on to the next
    have next : ∀ m5 : zF, (∀ i j, ¬ (i = 261 ∧ j = 79) → m5 i j = m4 i j) → m5 261 79 = oZ pl tb (x + 1).toNat → oW tb (oB pl + 5 * x) = oC pl tb (oB pl + 5 * x) → o6 pl tb x → L_m_comesOn_334 X (d + 1) rf Q m5 (oB pl) c (x + 1) := by
      intro m5 f5 h79 hw ho
      have g5 : zFV m4 m5 := fun i j _ y _ _ => f5 i j y
      have row5 : ∀ i, i ≠ 261 → m5 i = m4 i := fun i hi => by funext j; exact f5 i j (by omega)
      refine w_bubs hP hD k1 k0 n (hT4.fv g5) (by omega) (by omega) ⟨fun k a b => ?_, fun s k a b c d => ?_, h79, fun i i1 i2 => by rw [row5 i i1, fo i i2]; exact hm.2.2.2.1 i i1 i2, F4.trans g5⟩ (fun k a b => ?_)
      · rw [row5 297 (by decide)]
        by_cases e : k = x
        · rw [e, r2]; exact hw
        · rw [ne 297 _ (by omega)]; exact hm.1 k a (by omega)
      · rw [row5 (295 + s) (by omega)]
        by_cases e : k = x
        · rw [e]
          have h345 : s = 3 ∨ s = 4 ∨ s = 5 := by omega
          rcases h345 with rfl | rfl | rfl
          · exact r3
          · exact r4
          · exact r5
        · rw [ne (295 + s) _ (by omega)]
          exact hm.2.1 s k a b c (by omega)
      · by_cases e : k = x
        · rw [e]; exact ho
        · exact ha k a (by omega)
    refine w_none hT4 (by omega) (by omega) (fun hn => ⟨by decide, fun q => absurd q (by decide), fun _ => ?_⟩) (fun hn => ⟨by decide, fun _ => ⟨by omega, by omega, ?_⟩, fun q => absurd rfl q⟩)
    · have hco := oC_out (pl := pl) hP hn
      rw [r3, r4, r5]
      have no : ∀ P : Prop, (o6 pl tb x → P) → ¬ P → ¬ oAll (o6 pl tb) (pl 1 2) := fun P h1 h2 => bad (fun c => h2 (h1 c))
      have get : o6 pl tb x → tb (oB pl + 5 * x + 2).toNat = 0 ∧ tb (oB pl + 5 * x + 3).toNat = 0 ∧ tb (oB pl + 5 * x + 4).toNat = 0 := by
        rintro (h | h)
        · exact absurd hco h.1
        · exact h.2.2
      refine ⟨by omega, by omega, fun q => ⟨by decide, fun q => absurd rfl q, fun _ => k0 (bad (fun c => q (get c).1)) m4 F4⟩, fun q => ⟨by omega, by omega, fun q2 => ⟨by decide, fun q => absurd rfl q, fun _ => k0 (bad (fun c => q2 (get c).2.1)) m4 F4⟩, fun q2 => ⟨by omega, by omega, fun q3 => ⟨by decide, fun q => absurd rfl q, fun _ => k0 (bad (fun c => q3 (get c).2.2)) m4 F4⟩, fun q3 => ⟨by decide, fun _ => ?_, fun q => absurd q (by decide)⟩⟩⟩⟩
      refine next m4 (fun _ _ _ => rfl) ?_ (oW_eq hP (Or.inr hn)) (Or.inr ⟨hco, hn, q, q2, q3⟩)
      rw [z79, e1]
      show oZ pl tb x.toNat = zor (oZ pl tb x.toNat) (tb (oB pl + 5 * ((x.toNat : Nat) : Int) + 4).toNat)
      rw [e2, q3, zor_nat hz (by decide)]
      show oZ pl tb x.toNat = (((oZ pl tb x.toNat).toNat ||| 0 : Nat) : Int)
      rw [Nat.or_zero]
      omega
    · rw [(hT4.b (j := oB pl + 5 * x) (by omega) (by omega)).1, (hT4.b (j := oB pl + 5 * x + 1) (by omega) (by omega)).1]
      refine t_cell hT4.1 (by omega) hT4.2.1 hP (by omega) (by omega) (fun q => ⟨by decide, fun q => absurd q (by decide), fun _ => ⟨by omega, ?_⟩⟩) (fun q => ⟨by decide, fun _ => ⟨by decide, fun q => absurd rfl q, fun _ => k0 (bad (fun c => ?_)) m4 F4⟩, fun q => absurd rfl q⟩)
      · have q' : oC pl tb (oB pl + 5 * x) ≠ -1 := q
        have get : o6 pl tb x → (∀ i : Int, 0 ≤ i → i < x → oC pl tb (oB pl + 5 * i) ≠ oC pl tb (oB pl + 5 * x)) ∧ (1 ≤ tb (oB pl + 5 * x + 2).toNat ∧ tb (oB pl + 5 * x + 2).toNat ≤ 99) ∧ (1 ≤ tb (oB pl + 5 * x + 3).toNat ∧ tb (oB pl + 5 * x + 3).toNat ≤ 9) ∧ (1 ≤ tb (oB pl + 5 * x + 4).toNat ∧ tb (oB pl + 5 * x + 4).toNat < zshl 1 (pl 1 2)) ∧ zand (tb (oB pl + 5 * x + 4).toNat) (oZ pl tb x.toNat) = 0 := by
          rintro (h | h)
          · exact h.2
          · exact absurd h.1 q'
        have no : ∀ {Q' : Prop}, Q' → ((inI 0) ∧ ((¬ (0 : Int) = 0 → L_m_comesOn_334 X (d + 1) rf Q m4 (oB pl) c (x + 1)) ∧ ((0 : Int) = 0 → Q'))) := fun h => ⟨by decide, fun q => absurd rfl q, fun _ => h⟩
        have hw := oW_eq (tb := tb) hP (Or.inl q')
        rw [r3]
        refine t_is hT4.1 (by omega) (by decide) (by decide) ?_
        by_cases c1 : 1 ≤ tb (oB pl + 5 * x + 2).toNat ∧ tb (oB pl + 5 * x + 2).toNat ≤ 99
        · rw [if_pos c1]
          refine ⟨by decide, fun q => absurd q (by decide), fun _ => ⟨by omega, ?_⟩⟩
          rw [r4]
          refine t_is hT4.1 (by omega) (by decide) (by decide) ?_
          by_cases c2 : 1 ≤ tb (oB pl + 5 * x + 3).toNat ∧ tb (oB pl + 5 * x + 3).toNat ≤ 9
          · rw [if_pos c2]
            refine ⟨by decide, fun _ => ⟨by omega, hT4.2.1.1, ?_⟩, fun q => absurd q (by decide)⟩
            rw [r5, hT4.2.1.2.2.2.1.2.2.1]
            refine t_is hT4.1 (by omega) (by decide) (by omega) ?_
            by_cases c3 : 1 ≤ tb (oB pl + 5 * x + 4).toNat ∧ tb (oB pl + 5 * x + 4).toNat ≤ zshl 1 (pl 1 2) - 1
            · rw [if_pos c3]
              refine ⟨by decide, fun q => absurd q (by decide), fun _ => ⟨by omega, ?_⟩⟩
              rw [z79, r5]
              refine ⟨zand_inI _ _, fun q4 => ?_, fun q4 => no (k0 (bad (fun c => q4 (get c).2.2.2.2)) m4 F4)⟩
              refine w_bub_197 hT4.1 (by omega) r2 (by rw [hw]; omega) (fun k a b => ?_) (fun hall => ⟨by decide, fun _ => ?_, fun q => absurd q (by decide)⟩) (fun hno => no (k0 (bad (fun c => hno (fun k a b => ?_))) m4 F4)) x.toNat (by decide) (by omega) (fun k a b => by omega)
              · rw [ne 297 _ (by omega), hm.1 k a b]
                have := oC_rng (tb := tb) hP (oB pl + 5 * k)
                omega
              · rw [ne 297 _ (by omega), hm.1 k a b, hw]
                exact (get c).1 k a b
              · refine next (zup m4 261 79 (zor (m4 261 79) (m4 300 (6 + x).toNat))) (fun i j hij => by rw [zup_get, if_neg hij]) ?_ hw (Or.inl ⟨q', fun i a b => ?_, c1, c2, by omega, q4⟩)
                · rw [zup_at, z79, r5, e1]
                  show _ = zor (oZ pl tb x.toNat) (tb (oB pl + 5 * ((x.toNat : Nat) : Int) + 4).toNat)
                  rw [e2]
                · have := hall i a b
                  rw [ne 297 _ (by omega), hm.1 i a b, hw] at this
                  exact this
            · rw [if_neg c3]
              exact ⟨by decide, fun _ => no (k0 (bad (fun c => c3 (by have := (get c).2.2.2.1; omega))) m4 F4), fun q => absurd rfl q⟩
          · rw [if_neg c2]
            exact ⟨by decide, fun q => absurd rfl q, fun _ => no (k0 (bad (fun c => c2 (get c).2.2.1)) m4 F4)⟩
        · rw [if_neg c1]
          exact ⟨by decide, fun _ => no (k0 (bad (fun c => c1 (get c).2.1)) m4 F4), fun q => absurd rfl q⟩
      · rcases c with c | c
        · exact c.1 q
        · exact hn c.2.1
def oDR (m0 mem pl : zF) (tb : Nat → Int) (x : Int) : Prop := (∀ k : Int, 0 ≤ k → k < x → mem 301 (6 + k).toNat = (if tb (oD pl + 3 * k).toNat = 255 then -1 else tb (oD pl + 3 * k).toNat) ∧ mem 302 (6 + k).toNat = 256 * tb (oD pl + 3 * k + 1).toNat + tb (oD pl + 3 * k + 2).toNat) ∧ (∀ i, i ≠ 301 → i ≠ 302 → mem i = m0 i) ∧ zFV m0 mem
theorem w_deeds {D : Nat} {Q : Int → zF → Prop} {m0 : zF} (hP : WP pl) (hD : 2 ≤ D) (h6 : oAll (o6 pl tb) (pl 1 2)) (h79 : m0 261 79 = oZ pl tb (pl 1 2).toNat) (k1 : oAll (o7 pl tb) (pl 1 2) → ∀ mem', oDR m0 mem' pl tb (pl 1 2) → Q 1 mem') (k0 : ¬ oAll (o7 pl tb) (pl 1 2) → ∀ mem', zFV m0 mem' → Q 0 mem') : ∀ (n : Nat) {x : Int} {mem : zF}, TR rf mem pl tb → 0 ≤ x → x + n = pl 1 2 → oDR m0 mem pl tb x → oAll (o7 pl tb) x → L_m_comesOn_374 X D rf Q mem (oD pl) x
  | 0, x, mem, hT, h0, hx, hm, ha => by
    have hN := hP.n
    have e : x = pl 1 2 := by omega
    refine s_m_comesOn_374 hT.1 ?_
    rw [hT.2.1.2.2.2.1.2.2.1]
    exact ⟨hT.2.1.1, by omega, fun _ => k1 (by rw [← e]; exact ha) mem (by rw [← e]; exact hm), fun q => absurd (by omega) q⟩
  | n + 1, x, mem, hT, h0, hx, hm, ha => by
    obtain ⟨d, rfl⟩ : ∃ d, D = d + 1 := ⟨D - 1, by omega⟩
    have hN := hP.n
    have o := oo pl
    have b0 := hT.b (j := oD pl + 3 * x) (by omega) (by omega)
    have b1 := hT.b (j := oD pl + 3 * x + 1) (by omega) (by omega)
    have b2 := hT.b (j := oD pl + 3 * x + 2) (by omega) (by omega)
    have bad : ¬ o7 pl tb x → ¬ oAll (o7 pl tb) (pl 1 2) := fun h c => h (c x h0 (by omega))
    have hz := oZ_rng hP (pl 1 2).toNat (tb := tb) (fun i a b => (h6 i a (by omega)).e hP)
    have hz01 := zbit_01 hz (k := x) (by omega)
    refine s_m_comesOn_374 hT.1 ?_
    rw [hT.2.1.2.2.2.1.2.2.1]
    refine ⟨hT.2.1.1, by omega, fun q => absurd q (by omega), fun _ => s_m_deedOn hT.1 ?_⟩
    rw [b0.1]
    have main : ∀ v : Int, v = (if tb (oD pl + 3 * x).toNat = 255 then -1 else tb (oD pl + 3 * x).toNat) → L_m_deedOn_30 X d rf (fun r26 mem27 => (inI r26) ∧ ((¬ r26 = 0 → L_m_comesOn_374 X (d + 1) rf Q mem27 (oD pl) (x + 1)) ∧ (r26 = 0 → Q 0 mem27))) mem x (oD pl + 3 * x) (6 + x) v := by
      intro v hv
      refine s_m_deedOn_30 hT.1 ?_
      rw [b0.1, b1.1, b2.1, ztwo b1.2 b2.2]
      generalize hmm : zup (zup mem 301 (6 + x).toNat v) 302 (6 + x).toNat (256 * tb (oD pl + 3 * x + 1).toNat + tb (oD pl + 3 * x + 2).toNat) = m3
      have g3 : zFV mem m3 := by rw [← hmm]; exact (zFV.rfl.up (Or.inl (by unfold zofv; omega))).up (Or.inl (by unfold zofv; omega))
      have r2 : m3 301 (6 + x).toNat = v := by rw [← hmm, zup_row _ _ _ (by decide), zup_at]
      have r3 : m3 302 (6 + x).toNat = 256 * tb (oD pl + 3 * x + 1).toNat + tb (oD pl + 3 * x + 2).toNat := by rw [← hmm, zup_at]
      have ne : ∀ i k, k ≠ (6 + x).toNat → m3 i k = mem i k := fun i k e => by rw [← hmm, zup_ne _ _ _ _ e, zup_ne _ _ _ _ e]
      have fo : ∀ i, i ≠ 301 → i ≠ 302 → m3 i = mem i := fun i i1 i2 => by rw [← hmm, zup_row _ _ _ i2, zup_row _ _ _ i1]
      have F3 := hm.2.2.trans g3
      have hT3 := hT.fv g3
      have no : ∀ {Q' : Prop}, Q' → ((inI 0) ∧ ((¬ (0 : Int) = 0 → L_m_comesOn_374 X (d + 1) rf Q m3 (oD pl) (x + 1)) ∧ ((0 : Int) = 0 → Q'))) := fun h => ⟨by decide, fun q => absurd rfl q, fun _ => h⟩
      rw [r3]
      have next : (tb (oD pl + 3 * x).toNat = 255 ∨ (tb (oD pl + 3 * x).toNat < pl 1 1 ∧ zbit (oZ pl tb (pl 1 2).toNat) x = 0)) → 256 * tb (oD pl + 3 * x + 1).toNat + tb (oD pl + 3 * x + 2).toNat ≤ 999 → ((inI 1) ∧ ((¬ (1 : Int) = 0 → L_m_comesOn_374 X (d + 1) rf Q m3 (oD pl) (x + 1)) ∧ ((1 : Int) = 0 → Q 0 m3))) := by
        intro hok hr
        refine ⟨by decide, fun _ => ?_, fun q => absurd q (by decide)⟩
        refine w_deeds hP hD h6 h79 k1 k0 n hT3 (by omega) (by omega) ⟨fun k a b => ?_, fun i i1 i2 => by rw [fo i i1 i2]; exact hm.2.1 i i1 i2, F3⟩ (fun k a b => ?_)
        · by_cases e : k = x
          · rw [e, r2, r3]; exact ⟨hv, rfl⟩
          · rw [ne 301 _ (by omega), ne 302 _ (by omega)]
            exact hm.1 k a (by omega)
        · by_cases e : k = x
          · rw [e]; exact ⟨hok, hr⟩
          · exact ha k a (by omega)
      refine ⟨by omega, by omega, by omega, by omega, by omega, by omega, fun q => no (k0 (bad (fun c => by have := c.2; omega)) m3 F3), fun q => ⟨by omega, by omega, fun q2 => next (Or.inl q2) (by omega), fun q2 => ⟨by omega, ?_⟩⟩⟩
      have e70 : ∀ {Q' : Int → zF → Prop}, ((0 ≤ tb (oD pl + 3 * x).toNat ∧ tb (oD pl + 3 * x).toNat < pl 1 1) → Q' 1 m3) → (¬ (0 ≤ tb (oD pl + 3 * x).toNat ∧ tb (oD pl + 3 * x).toNat < pl 1 1) → Q' 0 m3) → Ci X d 270 [(2, 261), (0, tb (oD pl + 3 * x).toNat)] rf m3 Q' := by
        intro Q' a b
        refine s_m_isHeir hT3.1 ?_
        rw [hT3.2.1.2.2.2.1.2.1]
        exact ⟨by omega, fun _ => b (by omega), fun _ => ⟨hT3.2.1.1, by omega, fun _ => b (by omega), fun _ => a (by omega)⟩⟩
      refine e70 (fun h => ⟨by decide, fun q => absurd q (by decide), fun _ => ?_⟩) (fun h => ⟨by decide, fun _ => no (k0 (bad (fun c => ?_)) m3 F3), fun q => absurd rfl q⟩)
      · have e79 : m3 261 79 = oZ pl tb (pl 1 2).toNat := by rw [fo 261 (by decide) (by decide), hm.2.1 261 (by decide) (by decide)]; exact h79
        rw [e79]
        refine t_has2 hT3.1 hz (by omega) ⟨by omega, fun q3 => no (k0 (bad (fun c => ?_)) m3 F3), fun q3 => next (Or.inr ⟨h.2, q3⟩) (by omega)⟩
        rcases c.1 with c | c
        · exact q2 c
        · exact q3 c.2
      · rcases c.1 with c | c
        · exact q2 c
        · exact h ⟨by omega, c.1⟩
    refine ⟨by omega, by omega, fun q => ⟨by omega, main _ (by rw [if_neg q])⟩, fun q => main _ (by rw [if_pos q])⟩
end TOLDR
