/-! the program takes a picture up -/
def zF3 (mem mem' : zF) : Prop := (∀ i, i ≠ 234 → mem' i = mem i) ∧ ∀ j, j ≠ 3 → mem' 234 j = mem 234 j
def zFT (mem mem' : zF) : Prop := (∀ i, i ≠ 234 → (i < 236 ∨ 243 < i) → mem' i = mem i) ∧ ∀ j, j ≠ 3 → mem' 234 j = mem 234 j
theorem zF3.ft {a b : zF} (h : zF3 a b) : zFT a b := ⟨fun i x _ => h.1 i x, h.2⟩
theorem zF3.trans {a b c : zF} (h1 : zF3 a b) (h2 : zF3 b c) : zF3 a c := ⟨fun i x => (h2.1 i x).trans (h1.1 i x), fun j x => (h2.2 j x).trans (h1.2 j x)⟩
theorem zFT.rfl {a : zF} : zFT a a := ⟨fun _ _ _ => Eq.refl _, fun _ _ => Eq.refl _⟩
theorem zFT.trans {a b c : zF} (h1 : zFT a b) (h2 : zFT b c) : zFT a c := ⟨fun i x y => (h2.1 i x y).trans (h1.1 i x y), fun j x => (h2.2 j x).trans (h1.2 j x)⟩
theorem zFT.up {mem : zF} {a j : Nat} {v : Int} (h : 236 ≤ a ∧ a ≤ 243) : zFT mem (zup mem a j v) := ⟨fun i x y => zup_row _ _ _ (by omega), fun k x => by rw [zup_row _ _ _ (by omega)]⟩
theorem CX.ft {rf mem mem' : zF} {p : Nat} {pl sc : zF} (h : CX rf mem p pl sc) (f : zFT mem mem') : CX rf mem' p pl sc := by
  have hp := h.e
  exact ⟨h.1, h.pc.fr (fun s h1 h2 => f.1 _ (by omega) (by omega)), h.s.fr (fun i i1 i2 => f.1 i (by omega) (by omega))⟩
def TC (rf mem : zF) (p : Nat) (pl sc : zF) (tb : Nat → Int) : Prop := CX rf mem p pl sc ∧ TP mem tb ∧ mem 1 1 = oE pl + 1
theorem TP.ft {mem mem' : zF} {tb : Nat → Int} (h : TP mem tb) (f : zFT mem mem') : TP mem' tb := by
  unfold TP
  rw [f.1 1 (by decide) (by decide), f.1 2 (by decide) (by decide), f.1 261 (by decide) (by decide), f.1 262 (by decide) (by decide)]
  exact h
theorem TC.ft {rf mem mem' : zF} {p : Nat} {pl sc : zF} {tb : Nat → Int} (h : TC rf mem p pl sc tb) (f : zFT mem mem') : TC rf mem' p pl sc tb := ⟨h.1.ft f, h.2.1.ft f, by rw [f.1 1 (by decide) (by decide)]; exact h.2.2⟩
theorem TC.b {rf mem : zF} {p : Nat} {pl sc : zF} {tb : Nat → Int} (h : TC rf mem p pl sc tb) {j : Int} (h0 : 0 ≤ j) (h1 : j ≤ oE pl) : 0 ≤ tb j.toNat ∧ tb j.toNat ≤ 255 := (h.2.1.2.2 j.toNat (by rw [h.2.2]; omega)).2.2
theorem oo (pl : zF) : oH pl = 4 + pl 1 0 ∧ oB pl = oH pl + 2 * pl 1 1 ∧ oD pl = oB pl + 5 * pl 1 2 ∧ oE pl = oD pl + 3 * pl 1 2 := ⟨rfl, rfl, rfl, rfl⟩
theorem zand0_tab : ∀ y : Fin 64, zand 0 (y.val : Int) = 0 := by decide +kernel
theorem zand0 {y : Int} (hy : 0 ≤ y ∧ y < 64) : zand 0 y = 0 := by
  have h := zand0_tab ⟨y.toNat, by omega⟩
  simp only at h
  rwa [Int.toNat_of_nonneg hy.1] at h
theorem oC_rng {pl : zF} {tb : Nat → Int} (hP : WP pl) (j : Int) : -1 ≤ oC pl tb j ∧ oC pl tb j < 64 := by
  have hcr := hP.cr
  have := zcellAt_rng (C := pl 0 1) (R := pl 0 2) (x := tb j.toNat) (y := tb (j + 1).toNat) (by omega) (by omega)
  unfold zic at this
  unfold oC
  omega
theorem oZ_rng {pl : zF} {tb : Nat → Int} (hP : WP pl) : ∀ n : Nat, (∀ i : Int, 0 ≤ i → i < n → (0 ≤ tb (oB pl + 5 * i + 4).toNat ∧ tb (oB pl + 5 * i + 4).toNat < 64)) → 0 ≤ oZ pl tb n ∧ oZ pl tb n < 64
  | 0, _ => by unfold oZ; omega
  | n + 1, h => zor_lt (oZ_rng hP n (fun i a b => h i a (by omega))) (h n (by omega) (by omega))
theorem o6.e {pl : zF} {tb : Nat → Int} {k : Int} (hP : WP pl) (h : o6 pl tb k) : 0 ≤ tb (oB pl + 5 * k + 4).toNat ∧ tb (oB pl + 5 * k + 4).toNat < 64 := by
  have := zshl_rng (k := pl 1 2) hP.n.2.2
  rcases h with h | h
  · have := h.2.2.2.2.1
    omega
  · have := h.2.2.2.2
    omega
theorem oZ_bit {pl : zF} {tb : Nat → Int} (hP : WP pl) {k : Int} (hk : 0 ≤ k ∧ k < 6) : ∀ n : Nat, (∀ i : Int, 0 ≤ i → i < n → (0 ≤ tb (oB pl + 5 * i + 4).toNat ∧ tb (oB pl + 5 * i + 4).toNat < 64)) → (zbit (oZ pl tb n) k = 1 ↔ ∃ i : Int, 0 ≤ i ∧ i < n ∧ zbit (tb (oB pl + 5 * i + 4).toNat) k = 1)
  | 0, _ => by
    show zbit 0 k = 1 ↔ _
    rw [zbit_z hk]
    exact ⟨fun h => absurd h (by decide), fun ⟨i, a, b, _⟩ => by omega⟩
  | n + 1, h => by
    have ih := oZ_bit hP hk n (fun i a b => h i a (by omega))
    show zbit (zor (oZ pl tb n) (tb (oB pl + 5 * (n : Int) + 4).toNat)) k = 1 ↔ _
    rw [zbit_or (oZ_rng hP n (fun i a b => h i a (by omega))) (h n (by omega) (by omega)) hk, ih]
    constructor
    · rintro (⟨i, a, b, c⟩ | c)
      · exact ⟨i, a, by omega, c⟩
      · exact ⟨n, by omega, by omega, c⟩
    · rintro ⟨i, a, b, c⟩
      by_cases e : i = n
      · rw [e] at c; exact Or.inr c
      · exact Or.inl ⟨i, a, by omega, c⟩
theorem aFd_hit {P : Int → Bool} : ∀ (n : Nat) (b : Int) {k : Int}, b ≤ k → k < b + n → P k = true → 0 ≤ b → aFd P b n ≠ -1
  | 0, b, k, h1, h2, _, _ => by omega
  | n + 1, b, k, h1, h2, h3, h0 => by
    unfold aFd
    by_cases e : P b = true
    · rw [if_pos e]; omega
    · rw [if_neg e]
      exact aFd_hit n (b + 1) (k := k) (by by_cases e2 : b = k; · rw [e2] at e; exact absurd h3 e
                                           · omega) (by omega) h3 (by omega)
section TOLD
variable {X : zX} {rf mem : zF} {p : Nat} {pl sc : zF} {tb : Nat → Int}
theorem v_take {D : Nat} {Q : Int → zF → Prop} (hT : TC rf mem p pl sc tb) (hD : 1 ≤ D) {j : Int} (hj : mem 234 3 = j) (h0 : 0 ≤ j ∧ j ≤ oE pl) (kk : ∀ mem', mem' 234 3 = j + 1 → zF3 mem mem' → Q (tb j.toNat) mem') : Ci X D 13 [(2, 234), (2, 1)] rf mem Q := by
  obtain ⟨d, rfl⟩ : ∃ d, D = d + 1 := ⟨D - 1, by omega⟩
  have hl := hT.2.1.2.1
  have hn := hT.2.2
  have f : zF3 mem (zup mem 234 3 (j + 1)) := ⟨fun i x => zup_row _ _ _ x, fun k x => zup_ne _ _ _ _ x⟩
  refine s_images_take hT.1.r ?_
  rw [hj]
  have e : j + 1 - 1 = j := by omega
  rw [e]
  refine u_at (hT.ft f.ft).1 (hT.ft f.ft).2.1 (by omega) ?_
  rw [zup_row _ _ _ (by decide), if_pos (by omega)]
  exact kk _ (zup_at _ _ _ _) f
theorem v_two {D : Nat} {Q : Int → zF → Prop} (hT : TC rf mem p pl sc tb) (hD : 2 ≤ D) {j j1 : Int} (hj : mem 234 3 = j) (h0 : 0 ≤ j ∧ j1 ≤ oE pl) (hj1 : j1 = j + 1) (kk : ∀ mem', mem' 234 3 = j + 2 → zF3 mem mem' → Q (256 * tb j.toNat + tb j1.toNat) mem') : Ci X D 14 [(2, 234), (2, 1)] rf mem Q := by
  obtain ⟨d, rfl⟩ : ∃ d, D = d + 1 := ⟨D - 1, by omega⟩
  refine s_images_takeTwo hT.1.r (v_take hT (by omega) hj (by omega) (fun m1 c1 f1 => v_take (hT.ft f1.ft) (by omega) (j := j1) (by omega) (by omega) (fun m2 c2 f2 => kk m2 (by omega) (f1.trans f2))))
theorem v_chk_43 {D : Nat} {Q : Int → zF → Prop} (hT : TC rf mem p pl sc tb) (hP : WP pl) {K : Int} (k1 : K = tb (oE pl).toNat → Q 1 mem) (k0 : ¬ K = tb (oE pl).toNat → Q 0 mem) : ∀ (n : Nat) {x a : Int}, 0 ≤ x → x + n = oE pl → 0 ≤ a ∧ a < 251 → oK tb n x a = K → L_images_isChecked_43 X D rf Q mem p (oE pl + 1) a x
  | 0, x, a, h0, hx, ha, hk => by
    have hN := hP.n
    have o := oo pl
    have hl := hT.2.1.2.1
    have hn := hT.2.2
    have hb := hT.b (j := oE pl) (by omega) (by omega)
    have hk2 : a = K := hk
    have e : oE pl + 1 - 1 = oE pl := by omega
    refine s_images_isChecked_43 hT.1.r hT.1.p ?_
    rw [e]
    refine ⟨by omega, fun _ => u_at hT.1 hT.2.1 (by omega) ?_, fun q => absurd (by omega) q⟩
    rw [if_pos (by omega)]
    exact ⟨by omega, fun q => k0 (by rw [← hk2]; exact q), fun q => k1 (by rw [← hk2]; exact q)⟩
  | n + 1, x, a, h0, hx, ha, hk => by
    have hN := hP.n
    have o := oo pl
    have hl := hT.2.1.2.1
    have hn := hT.2.2
    have hb := hT.b (j := x) (by omega) (by omega)
    have e : oE pl + 1 - 1 = oE pl := by omega
    refine s_images_isChecked_43 hT.1.r hT.1.p ?_
    rw [e]
    refine ⟨by omega, fun q => absurd q (by omega), fun _ => u_at hT.1 hT.2.1 (by omega) ?_⟩
    rw [if_pos (by omega)]
    refine s_images_checkOn hT.1.r ⟨by omega, ?_⟩
    rw [Int.tmod_eq_emod_of_nonneg (by omega)]
    exact v_chk_43 hT hP k1 k0 n (by omega) (by omega) (by omega) hk
theorem v_chk {D : Nat} {Q : Int → zF → Prop} (hX : CX rf mem p pl sc) (hT : TP mem tb) (hP : WP pl) (hD : 1 ≤ D) (k1 : o1 pl tb (mem 1 1) → Q 1 mem) (k0 : ¬ o1 pl tb (mem 1 1) → Q 0 mem) : Ci X D 12 [(2, 234), (2, 1), (2, p)] rf mem Q := by
  obtain ⟨d, rfl⟩ : ∃ d, D = d + 1 := ⟨D - 1, by omega⟩
  have hN := hP.n
  have o := oo pl
  have hl := hT.2.1
  refine s_images_isChecked hX.r hX.p (u_many hX.r hX.p hX.pc (by decide) (u_many hX.r hX.p hX.pc (by decide) (u_many hX.r hX.p hX.pc (by decide) ?_)))
  show (inI (mem 1 1) ∧ inI (5 + pl 1 0 + 2 * pl 1 1 + 8 * pl 1 2)) ∧ (mem 1 1 = 5 + pl 1 0 + 2 * pl 1 1 + 8 * pl 1 2 → L_images_isChecked_43 X d rf Q mem p (5 + pl 1 0 + 2 * pl 1 1 + 8 * pl 1 2) 197 0) ∧ (¬ mem 1 1 = 5 + pl 1 0 + 2 * pl 1 1 + 8 * pl 1 2 → Q 0 mem)
  have e : 5 + pl 1 0 + 2 * pl 1 1 + 8 * pl 1 2 = oE pl + 1 := by omega
  rw [e]
  refine ⟨by omega, fun q => ?_, fun q => k0 (fun c => q c.1)⟩
  exact v_chk_43 ⟨hX, hT, q⟩ hP (K := oK tb (oE pl).toNat 0 197) (fun h => k1 ⟨q, h⟩) (fun h => k0 (fun c => h c.2)) (oE pl).toNat (by decide) (by omega) (by decide) rfl
theorem v_out {d : Nat} {Q : Int → zF → Prop} (hR : zall rf zRK = true) {x y : Int} (hx : inI x) (hy : inI y) (k1 : x = 255 ∧ y = 255 → Q 1 mem) (k0 : ¬ (x = 255 ∧ y = 255) → Q 0 mem) : Ci X d 16 [(0, x), (0, y)] rf mem Q := s_images_isOutside hR ⟨hx, fun q => k0 (fun c => q c.1), fun q => ⟨hy, fun q2 => k0 (fun c => q2 c.2), fun q2 => k1 ⟨q, q2⟩⟩⟩
theorem v_time {D : Nat} {Q : Int → zF → Prop} (hT : TC rf mem p pl sc tb) (hP : WP pl) (hD : 3 ≤ D) (h3 : mem 234 3 = 0) (k1 : o2 pl tb → ∀ mem', mem' 234 3 = 4 → mem' 236 0 = 256 * tb 0 + tb 1 → mem' 236 1 = oC pl tb 2 → (∀ j, j ≠ 0 → j ≠ 1 → mem' 236 j = mem 236 j) → (∀ i, i ≠ 234 → i ≠ 236 → mem' i = mem i) → zFT mem mem' → Q 1 mem') (k0 : ¬ o2 pl tb → ∀ mem', zFT mem mem' → Q 0 mem') : Ci X D 15 [(2, 234), (2, 1), (2, p)] rf mem Q := by
  obtain ⟨d, rfl⟩ : ∃ d, D = d + 1 := ⟨D - 1, by omega⟩
  have hN := hP.n
  have o := oo pl
  have b0 := hT.b (j := 0) (by omega) (by omega)
  have b1 := hT.b (j := 1) (by omega) (by omega)
  have b2 := hT.b (j := 2) (by omega) (by omega)
  have b3 := hT.b (j := 3) (by omega) (by omega)
  have hc := oC_rng (tb := tb) hP 2
  refine s_images_readTimeAndLamp hT.1.r hT.1.p (v_two hT (by omega) (j := 0) (j1 := 1) h3 (by omega) rfl (fun m1 c1 f1 => ?_))
  show Ci X d 13 [(2, 234), (2, 1)] rf (zup m1 236 0 (256 * tb 0 + tb 1)) _
  have g1 : zFT mem (zup m1 236 0 (256 * tb 0 + tb 1)) := f1.ft.trans (zFT.up (by decide))
  refine v_take (hT.ft g1) (by omega) (j := 2) (by rw [zup_row _ _ _ (by decide)]; exact c1) (by omega) (fun m2 c2 f2 => ?_)
  have g2 := g1.trans f2.ft
  refine v_take (hT.ft g2) (by omega) (j := 3) c2 (by omega) (fun m3 c3 f3 => ?_)
  have g3 := g2.trans f3.ft
  have hX3 := (hT.ft g3).1
  refine u_cellAt hX3.r hX3.p hX3.pc hP (by omega) (by omega) ?_
  have e0 : m3 236 0 = 256 * tb 0 + tb 1 := by rw [f3.1 236 (by decide), f2.1 236 (by decide), zup_at]
  have ec : zcellAt (pl 0 1) (pl 0 2) (tb (2 : Int).toNat) (tb (3 : Int).toNat) = oC pl tb 2 := rfl
  rw [e0, ec]
  have b0' : 0 ≤ tb 0 ∧ tb 0 ≤ 255 := b0
  have b1' : 0 ≤ tb 1 ∧ tb 1 ≤ 255 := b1
  have g4 : zFT mem (zup m3 236 1 (oC pl tb 2)) := g3.trans (zFT.up (by decide))
  have fin : o2 pl tb → Q 1 (zup m3 236 1 (oC pl tb 2)) := fun ho => by
    refine k1 ho _ (by rw [zup_row _ _ _ (by decide)]; exact c3) (by rw [zup_ne _ _ _ _ (by decide)]; exact e0) (zup_at _ _ _ _) (fun j j0 j1 => ?_) (fun i i1 i2 => ?_) g4
    · rw [zup_ne _ _ _ _ j1, f3.1 236 (by decide), f2.1 236 (by decide), zup_ne _ _ _ _ j0, f1.1 236 (by decide)]
    · rw [zup_row _ _ _ i2, f3.1 i i1, f2.1 i i1, zup_row _ _ _ i2, f1.1 i i1]
  refine ⟨by omega, fun q => k0 (fun c => by have := c.1; omega) _ g4, fun q => ⟨by omega, fun q2 => fin ⟨by omega, Or.inl q2⟩, fun q2 => ?_⟩⟩
  refine v_out hX3.r (by omega) (by omega) (fun h => ⟨by decide, fun q => absurd q (by decide), fun _ => fin ⟨by omega, Or.inr h⟩⟩) (fun h => ⟨by decide, fun _ => k0 (fun c => ?_) _ g4, fun q => absurd rfl q⟩)
  rcases c.2 with c | c
  · exact c q2
  · exact h c
theorem v_doors_10 {D : Nat} {Q : Int → zF → Prop} {m0 : zF} (hP : WP pl) (hD : 1 ≤ D) (k1 : oAll (o4 tb) (pl 1 0) → ∀ mem', mem' 234 3 = oH pl → mem' 236 2 = oM tb (pl 1 0).toNat → (∀ j, j ≠ 2 → mem' 236 j = m0 236 j) → (∀ i, i ≠ 234 → i ≠ 236 → mem' i = m0 i) → zFT m0 mem' → Q 1 mem') (k0 : ¬ oAll (o4 tb) (pl 1 0) → ∀ mem', zFT m0 mem' → Q 0 mem') : ∀ (n : Nat) {x : Int} {mem : zF}, TC rf mem p pl sc tb → 0 ≤ x → x + n = pl 1 0 → mem 234 3 = 4 + x → mem 236 2 = oM tb x.toNat → oAll (o4 tb) x → (∀ j, j ≠ 2 → mem 236 j = m0 236 j) → (∀ i, i ≠ 234 → i ≠ 236 → mem i = m0 i) → zFT m0 mem → L_images_readDoors_10 X D rf Q mem p x
  | 0, x, mem, hT, h0, hx, hc, hm, ha, hf, hr, ht => by
    have hN := hP.n
    have o := oo pl
    have e : x = pl 1 0 := by omega
    refine s_images_readDoors_10 hT.1.r hT.1.p (u_many hT.1.r hT.1.p hT.1.pc (by decide) ?_)
    refine ⟨⟨by omega, by show inI (pl 1 0); omega⟩, fun _ => k1 (by rw [← e]; exact ha) mem (by omega) (by rw [← e]; exact hm) hf hr ht, fun q => absurd (show pl 1 0 ≤ x by omega) q⟩
  | n + 1, x, mem, hT, h0, hx, hc, hm, ha, hf, hr, ht => by
    have hN := hP.n
    have o := oo pl
    have hb := hT.b (j := 4 + x) (by omega) (by omega)
    refine s_images_readDoors_10 hT.1.r hT.1.p (u_many hT.1.r hT.1.p hT.1.pc (by decide) ?_)
    refine ⟨⟨by omega, by show inI (pl 1 0); omega⟩, fun q => absurd (show pl 1 0 ≤ x from q) (by omega), fun _ => v_take hT hD hc (by omega) (fun m1 c1 f1 => ⟨by omega, fun q => absurd q (by omega), fun _ => ⟨by omega, fun q => ?_, fun q => k0 (fun c => q (c x h0 (by omega))) m1 (ht.trans f1.ft)⟩⟩)⟩
    rw [f1.1 236 (by decide), hm]
    have g2 : zFT mem (zup m1 236 2 (zor (oM tb x.toNat) (zshl (tb (4 + x).toNat) x))) := f1.ft.trans (zFT.up (by decide))
    refine v_doors_10 hP hD k1 k0 n (hT.ft g2) (by omega) (by omega) (by rw [zup_row _ _ _ (by decide), c1]; omega) ?_ ?_ (fun j hj => by rw [zup_ne _ _ _ _ hj, f1.1 236 (by decide)]; exact hf j hj) (fun i i1 i2 => by rw [zup_row _ _ _ i2, f1.1 i i1]; exact hr i i1 i2) (ht.trans g2)
    · have e1 : (x + 1).toNat = x.toNat + 1 := by omega
      have e2 : ((x.toNat : Nat) : Int) = x := by omega
      rw [zup_at, e1]
      show _ = zor (oM tb x.toNat) (zshl (tb (4 + ((x.toNat : Nat) : Int)).toNat) ((x.toNat : Nat) : Int))
      rw [e2]
    · intro k a b
      by_cases e : k = x
      · rw [e]; exact q
      · exact ha k a (by omega)
theorem v_doors {D : Nat} {Q : Int → zF → Prop} (hT : TC rf mem p pl sc tb) (hP : WP pl) (hD : 2 ≤ D) (h3 : mem 234 3 = 4) (k1 : oAll (o4 tb) (pl 1 0) → ∀ mem', mem' 234 3 = oH pl → mem' 236 2 = oM tb (pl 1 0).toNat → (∀ j, j ≠ 2 → mem' 236 j = mem 236 j) → (∀ i, i ≠ 234 → i ≠ 236 → mem' i = mem i) → zFT mem mem' → Q 1 mem') (k0 : ¬ oAll (o4 tb) (pl 1 0) → ∀ mem', zFT mem mem' → Q 0 mem') : Ci X D 17 [(2, 234), (2, 1), (2, p)] rf mem Q := by
  obtain ⟨d, rfl⟩ : ∃ d, D = d + 1 := ⟨D - 1, by omega⟩
  have hN := hP.n
  have g : zFT mem (zup mem 236 2 0) := zFT.up (by decide)
  exact s_images_readDoors hT.1.r hT.1.p (v_doors_10 hP (by omega) k1 k0 (pl 1 0).toNat (hT.ft g) (by decide) (by omega) (by rw [zup_row _ _ _ (by decide)]; exact h3) (by rw [zup_at]; rfl) (fun k a b => by omega) (fun j hj => zup_ne _ _ _ _ hj) (fun i _ i2 => zup_row _ _ _ i2) g)
theorem v_heirs_13 {D : Nat} {Q : Int → zF → Prop} {m0 : zF} (hP : WP pl) (hD : 1 ≤ D) (k1 : oAll (o5 pl tb) (pl 1 1) → ∀ mem', mem' 234 3 = oB pl → (∀ k : Int, 0 ≤ k → k < 6 → mem' 237 k.toNat = if k < pl 1 1 then oC pl tb (oH pl + 2 * k) else -1) → (∀ i, i ≠ 234 → i ≠ 237 → mem' i = m0 i) → zFT m0 mem' → Q 1 mem') (k0 : ¬ oAll (o5 pl tb) (pl 1 1) → ∀ mem', zFT m0 mem' → Q 0 mem') : ∀ (n : Nat) {x : Int} {mem : zF}, TC rf mem p pl sc tb → 0 ≤ x → x + n = pl 1 1 → mem 234 3 = oH pl + 2 * x → (∀ k : Int, 0 ≤ k → k < 6 → mem 237 k.toNat = if k < x then oC pl tb (oH pl + 2 * k) else -1) → oAll (o5 pl tb) x → (∀ i, i ≠ 234 → i ≠ 237 → mem i = m0 i) → zFT m0 mem → L_images_readHeirs_13 X D rf Q mem p x
  | 0, x, mem, hT, h0, hx, hc, hm, ha, hr, ht => by
    have hN := hP.n
    have o := oo pl
    have e : x = pl 1 1 := by omega
    refine s_images_readHeirs_13 hT.1.r hT.1.p (u_many hT.1.r hT.1.p hT.1.pc (by decide) ?_)
    refine ⟨⟨by omega, by show inI (pl 1 1); omega⟩, fun _ => k1 (by rw [← e]; exact ha) mem (by omega) (by rw [← e]; exact hm) hr ht, fun q => absurd (show pl 1 1 ≤ x by omega) q⟩
  | n + 1, x, mem, hT, h0, hx, hc, hm, ha, hr, ht => by
    have hN := hP.n
    have o := oo pl
    have hb := hT.b (j := oH pl + 2 * x) (by omega) (by omega)
    have hb2 := hT.b (j := oH pl + 2 * x + 1) (by omega) (by omega)
    have hcr := oC_rng (tb := tb) hP (oH pl + 2 * x)
    refine s_images_readHeirs_13 hT.1.r hT.1.p (u_many hT.1.r hT.1.p hT.1.pc (by decide) ?_)
    refine ⟨⟨by omega, by show inI (pl 1 1); omega⟩, fun q => absurd (show pl 1 1 ≤ x from q) (by omega), fun _ => v_take hT hD hc (by omega) (fun m1 c1 f1 => v_take (hT.ft f1.ft) hD c1 (by omega) (fun m2 c2 f2 => ?_))⟩
    have f := f1.trans f2
    have hT2 := hT.ft f.ft
    refine u_cellAt hT2.1.r hT2.1.p hT2.1.pc hP (by omega) (by omega) ?_
    have ec : zcellAt (pl 0 1) (pl 0 2) (tb (oH pl + 2 * x).toNat) (tb (oH pl + 2 * x + 1).toNat) = oC pl tb (oH pl + 2 * x) := rfl
    rw [ec]
    have hm2 : ∀ k : Int, 0 ≤ k → k < 6 → m2 237 k.toNat = if k < x then oC pl tb (oH pl + 2 * k) else -1 := fun k a b => by rw [f.1 237 (by decide)]; exact hm k a b
    refine ⟨by omega, fun q => k0 (fun c => (c x h0 (by omega)).1 q) m2 (ht.trans f.ft), fun q => ?_⟩
    refine u_heirIn (o := 236) (sc := fun s k => m2 (236 + s) k) hT2.1.r (zScn_236 hT2.1.r) (fun s k _ => rfl) (fun k a b => ?_) (by omega) ?_
    · show inI (m2 237 k.toNat)
      rw [hm2 k a b]
      have := oC_rng (tb := tb) hP (oH pl + 2 * k)
      split <;> omega
    have hfd := aFd_rng (P := fun k : Int => decide ((fun s k => m2 (236 + s) k) 1 k.toNat = oC pl tb (oH pl + 2 * x) ∧ oC pl tb (oH pl + 2 * x) ≠ -1)) 6 0
    have hno := aFd_no (P := fun k : Int => decide ((fun s k => m2 (236 + s) k) 1 k.toNat = oC pl tb (oH pl + 2 * x) ∧ oC pl tb (oH pl + 2 * x) ≠ -1)) 6 0
    unfold aHeirIn
    refine ⟨by rcases hfd with h | h <;> omega, fun q2 => ⟨by omega, ?_⟩, fun q2 => ?_⟩
    · have g2 : zFT mem (zup m2 237 x.toNat (oC pl tb (oH pl + 2 * x))) := f.ft.trans (zFT.up (by decide))
      refine v_heirs_13 hP hD k1 k0 n (hT.ft g2) (by omega) (by omega) (by rw [zup_row _ _ _ (by decide), c2]; omega) (fun k a b => ?_) (fun k a b => ?_) (fun i i1 i2 => by rw [zup_row _ _ _ i2, f.1 i i1]; exact hr i i1 i2) (ht.trans g2)
      · by_cases e : k = x
        · rw [e, zup_at, if_pos (by omega)]
        · rw [zup_ne _ _ _ _ (by omega), hm2 k a b]
          by_cases e2 : k < x
          · rw [if_pos e2, if_pos (by omega)]
          · rw [if_neg e2, if_neg (by omega)]
      · by_cases e : k = x
        · rw [e]
          refine ⟨q, fun i a1 b1 c => ?_⟩
          have h5 := aFd_hit (P := fun k : Int => decide ((fun s k => m2 (236 + s) k) 1 k.toNat = oC pl tb (oH pl + 2 * x) ∧ oC pl tb (oH pl + 2 * x) ≠ -1)) 6 0 (k := i) (by omega) (by omega) (decide_eq_true ⟨by show m2 237 i.toNat = _; rw [hm2 i a1 (by omega), if_pos b1]; exact c, q⟩) (by decide)
          exact h5 q2
        · exact ha k a (by omega)
    · refine k0 (fun c => ?_) m2 (ht.trans f.ft)
      rcases hfd with h | h
      · exact q2 h
      · have h5 := of_decide_eq_true h.2.2
        have h6 : m2 237 _ = _ := h5.1
        rw [hm2 _ (by omega) (by omega)] at h6
        by_cases e2 : aFd (fun k : Int => decide ((fun s k => m2 (236 + s) k) 1 k.toNat = oC pl tb (oH pl + 2 * x) ∧ oC pl tb (oH pl + 2 * x) ≠ -1)) 0 6 < x
        · rw [if_pos e2] at h6
          exact (c x h0 (by omega)).2 _ (by omega) e2 h6
        · rw [if_neg e2] at h6
          omega
theorem v_heirs {D : Nat} {Q : Int → zF → Prop} (hT : TC rf mem p pl sc tb) (hP : WP pl) (hD : 2 ≤ D) (h3 : mem 234 3 = oH pl) (k1 : oAll (o5 pl tb) (pl 1 1) → ∀ mem', mem' 234 3 = oB pl → (∀ k : Int, 0 ≤ k → k < 6 → mem' 237 k.toNat = if k < pl 1 1 then oC pl tb (oH pl + 2 * k) else -1) → (∀ i, i ≠ 234 → i ≠ 237 → mem' i = mem i) → zFT mem mem' → Q 1 mem') (k0 : ¬ oAll (o5 pl tb) (pl 1 1) → ∀ mem', zFT mem mem' → Q 0 mem') : Ci X D 18 [(2, 234), (2, 1), (2, p)] rf mem Q := by
  obtain ⟨d, rfl⟩ : ∃ d, D = d + 1 := ⟨D - 1, by omega⟩
  have hN := hP.n
  refine s_images_readHeirs hT.1.r hT.1.p (u_fill (q := 237) (n := 6) rfl (by decide) (fun m1 f1 g1 => ?_))
  have g : zFT mem m1 := ⟨fun i i1 i2 => f1 i (by omega), fun j hj => by rw [f1 234 (by decide)]⟩
  exact v_heirs_13 hP (by omega) k1 k0 (pl 1 1).toNat (hT.ft g) (by decide) (by omega) (by rw [f1 234 (by decide), h3]; omega) (fun k a b => by rw [g1 k.toNat (by omega), if_neg (by omega)]) (fun k a b => by omega) (fun i _ i2 => f1 i i2) g
end TOLD
