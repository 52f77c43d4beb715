/-! room: the two calls around the text -/
theorem WP.congr {pl pl2 : zF} (h : WP pl) (e : ∀ i, i ≤ 8 → pl2 i = pl i) : WP pl2 := by
  unfold WP
  rw [e 0 (by decide), e 1 (by decide), e 3 (by decide), e 4 (by decide), e 5 (by decide), e 6 (by decide), e 7 (by decide), e 8 (by decide)]
  exact h
/-- nothing but bank b, the token, the faults -/
def RFc (m0 mem : zF) (b : Int) : Prop := (∀ i, (i < 261 ∨ i = 262 ∨ 291 < i) → mem i = m0 i) ∧ (∀ j, j ≠ 1 → j ≠ 2 → j ≠ 3 → j ≠ 4 → j ≠ 5 → j ≠ 6 → j ≠ 7 → j ≠ 8 → j ≠ 9 → j ≠ 12 → j ≠ 37 → j ≠ 38 → j ≠ 39 → j ≠ 45 → j ≠ 46 → j ≠ 48 → j ≠ 49 → mem 261 j = m0 261 j) ∧ (∀ a j : Nat, 263 ≤ a → a ≤ 285 → ((j : Int) < wd a * b ∨ wd a * b + wd a ≤ (j : Int)) → mem a j = m0 a j) ∧ mem 261 1 = 0
theorem RFc.b {m0 m1 mem : zF} {b : Int} (h1 : RFc m0 m1 b) (h2 : RFb m1 mem b) : RFc m0 mem b := ⟨fun i hi => (h2.1 i hi).trans (h1.1 i hi), fun j x1 x2 x3 x4 x5 x6 x7 x8 x9 x12 x37 x38 x39 x45 x46 x48 x49 => (h2.2.1 j x3 x4 x5 x6 x7 x8 x9 x12 x37 x39 x45 x46 x48 x49).trans (h1.2.1 j x1 x2 x3 x4 x5 x6 x7 x8 x9 x12 x37 x38 x39 x45 x46 x48 x49), fun a j x y z => (h2.2.2 a j x y z).trans (h1.2.2.1 a j x y z), by rw [h2.2.1 1 (by decide) (by decide) (by decide) (by decide) (by decide) (by decide) (by decide) (by decide) (by decide) (by decide) (by decide) (by decide) (by decide) (by decide)]; exact h1.2.2.2⟩
/-- the other bank keeps its plan -/
theorem RP.other {mem mem' pl : zF} {b : Int} (h : RP mem pl) (hN : WP pl) (hbk : mem 261 13 = 1 - b) (e13 : mem' 261 13 = mem 261 13) (e50 : mem' 261 50 = mem 261 50) (e : ∀ a j : Nat, 263 ≤ a → a ≤ 285 → ((j : Int) < wd a * b ∨ wd a * b + wd a ≤ (j : Int)) → mem' a j = mem a j) : RP mem' pl := by
  have hB := h.bank
  have hn := hN.n
  rw [hbk] at hB
  have s1 : ∀ a, (a = 263 ∨ a = 264 ∨ a = 265 ∨ a = 266 ∨ a = 270 ∨ a = 271 ∨ a = 274 ∨ a = 278) → mem' a (1 - b).toNat = mem a (1 - b).toNat := fun a ha => e a _ (by omega) (by omega) (by rw [wd1 ha]; omega)
  have s6 : ∀ a, ((267 ≤ a ∧ a ≤ 269) ∨ (272 ≤ a ∧ a ≤ 273) ∨ (275 ≤ a ∧ a ≤ 277) ∨ (283 ≤ a ∧ a ≤ 285)) → ∀ k : Int, 0 ≤ k → k < 6 → mem' a (6 * (1 - b) + k).toNat = mem a (6 * (1 - b) + k).toNat := fun a ha k k0 k1 => e a _ (by omega) (by omega) (by rw [wd6 ha]; omega)
  unfold RP at h ⊢
  rw [e13, e50]
  rw [hbk] at h ⊢
  obtain ⟨q1, q2, q3, q4, q5, q6, q7⟩ := h
  refine ⟨q1, q2, by rw [s1 263 (by decide), s1 264 (by decide)]; exact q3, by rw [s1 266 (by decide), s1 271 (by decide), s1 274 (by decide), s1 278 (by decide)]; exact q4, fun k k0 k1 => ?_, fun k k0 k1 => ?_, ?_⟩
  · rw [s6 267 (by decide) k k0 (by omega), s6 268 (by decide) k k0 (by omega), s6 269 (by decide) k k0 (by omega)]
    exact q5 k k0 k1
  · rw [s6 273 (by decide) k k0 (by omega)]
    exact q6 k k0 k1
  · unfold RC at q7 ⊢
    rw [e13, hbk]
    rw [hbk] at q7
    refine ⟨q7.1, fun r hr => ?_, fun j hj => ?_⟩
    · rw [e 279 _ (by decide) (by decide) (by rw [wd3 (by decide)]; omega), e 280 _ (by decide) (by decide) (by rw [wd3 (by decide)]; omega)]
      exact q7.2.1 r hr
    · have w1 : wd 281 = 1600 := rfl
      have w2 : wd 282 = 1600 := rfl
      rw [e 281 _ (by decide) (by decide) (by rw [w1]; omega), e 282 _ (by decide) (by decide) (by rw [w2]; omega)]
      exact q7.2.2 j hj
theorem NM.other {mem mem' pl : zF} {b : Int} (h : NM mem pl) (hN : WP pl) (hb : 0 ≤ b ∧ b < 2) (hbk : mem 261 13 = 1 - b) (e13 : mem' 261 13 = mem 261 13) (e : ∀ a j : Nat, 263 ≤ a → a ≤ 285 → ((j : Int) < wd a * b ∨ wd a * b + wd a ≤ (j : Int)) → mem' a j = mem a j) : NM mem' pl := by
  have hn := hN.n
  intro so k h0 k0 k1
  have hk : k < 6 := by
    have : so = 0 ∨ so = 1 ∨ so = 2 := by omega
    rcases this with rfl | rfl | rfl <;> omega
  have h2 := h so k h0 k0 k1
  rw [hbk] at h2
  rw [e13, hbk, e (283 + so) _ (by omega) (by omega) (by rw [wd6 (by omega)]; omega)]
  exact h2
section CREAD
variable {X : zX} {rf mem : zF} {p : Nat} {D : Nat} {tb : Nat → Int} {n : Int}
theorem u_pclear {Q : zF → Prop} (hR : zall rf zRK = true) (hp : zPln rf p) (hu : zRul rf (p + 9)) (hD : 2 ≤ D) (kk : ∀ mem', (∀ i, (i < p ∨ p + 12 < i) → mem' i = mem i) → Z0 (fun i => mem' (p + i)) → mem' (p + 9) 3 = 0 → Q mem') : Cv X D 59 [(2, ((p : Nat) : Int))] rf mem Q := by
  obtain ⟨d, rfl⟩ : ∃ d, D = d + 2 := ⟨D - 2, by omega⟩
  refine s_plan_clear hR hp ?_
  generalize hm1 : zup (zup (zup (zup (zup (zup mem p 0 0) p 1 0) p 2 0) p 3 (-1)) p 4 0) p 5 0 = m1
  have r1 : ∀ i, i ≠ p → m1 i = mem i := fun i x => by rw [← hm1, zup_row _ _ _ x, zup_row _ _ _ x, zup_row _ _ _ x, zup_row _ _ _ x, zup_row _ _ _ x, zup_row _ _ _ x]
  have z0 : m1 p 0 = 0 := by rw [← hm1, zup_ne _ _ _ _ (by decide), zup_ne _ _ _ _ (by decide), zup_ne _ _ _ _ (by decide), zup_ne _ _ _ _ (by decide), zup_ne _ _ _ _ (by decide), zup_at]
  have z3 : m1 p 3 = -1 := by rw [← hm1, zup_ne _ _ _ _ (by decide), zup_ne _ _ _ _ (by decide), zup_at]
  have z4 : m1 p 4 = 0 := by rw [← hm1, zup_ne _ _ _ _ (by decide), zup_at]
  have z5 : m1 p 5 = 0 := by rw [← hm1, zup_at]
  refine u_fill (zPln_t1 hp) (by decide) (fun m2 f2 v2 => s_rules_clear hR hu ?_)
  refine u_fill (q := p + 9 + 2) (n := 3) hu.2.2.1 (by decide) (fun m3 f3 v3 => ?_)
  refine u_fill (q := p + 9 + 3) (n := 3) hu.2.2.2.1 (by decide) (fun m4 f4 v4 => ?_)
  have rp : m4 p = m1 p := by rw [f4 p (by omega), f3 p (by omega), zup_row _ _ _ (by omega), f2 p (by omega)]
  refine kk m4 (fun i hi => ?_) ⟨?_, ?_, ?_, ?_, ⟨?_, ?_, ?_⟩, fun r hr => ⟨?_, ?_⟩⟩ ?_
  · rw [f4 i (by omega), f3 i (by omega), zup_row _ _ _ (by omega), f2 i (by omega), r1 i (by omega)]
  · show m4 p 0 = 0
    rw [rp]; exact z0
  · show m4 p 3 = -1
    rw [rp]; exact z3
  · show m4 p 4 = 0
    rw [rp]; exact z4
  · show m4 p 5 = 0
    rw [rp]; exact z5
  · show m4 (p + 1) 0 = 0
    rw [f4 (p + 1) (by omega), f3 (p + 1) (by omega), zup_row _ _ _ (by omega)]; exact v2 0 (by decide)
  · show m4 (p + 1) 1 = 0
    rw [f4 (p + 1) (by omega), f3 (p + 1) (by omega), zup_row _ _ _ (by omega)]; exact v2 1 (by decide)
  · show m4 (p + 1) 2 = 0
    rw [f4 (p + 1) (by omega), f3 (p + 1) (by omega), zup_row _ _ _ (by omega)]; exact v2 2 (by decide)
  · show m4 (p + 9 + 2) r = -1
    rw [f4 (p + 9 + 2) (by omega)]; exact v3 r hr
  · show m4 (p + 9 + 3) r = -1
    exact v4 r hr
  · rw [f4 (p + 9) (by omega), f3 (p + 9) (by omega), zup_at]
/-- the program reads the text -/
theorem c_read {Q : Int → zF → Prop} {q : Nat} {pl sc : zF} (hz : ZX rf p tb n) (hX : CX rf mem q pl sc) (hpq : p = 254 - q) (hT : TP mem tb) (hn : mem 1 1 = n) (hO : ∀ j : Nat, j < 27 → mem 5 j = zow.getD j 0) (hD : 5 ≤ D) (kk : ∀ m2, (∀ i, i ≠ 3 → i ≠ 4 → i ≠ 6 → i ≠ 7 → (i < p ∨ p + 12 < i) → m2 i = mem i) → m2 3 3 = 0 → m2 3 4 = -1 → Z0 (fun i => m2 (p + i)) → CS m2 m2 p tb n (tskp tb n 0) (fun i => m2 (p + i)) [] → ∃ d, D = d + 1 ∧ L_parser_read_29 X d rf Q m2 p 1 0) : Ci X D 25 [(2, 3), (2, 1)] rf mem Q := by
  obtain ⟨d, rfl⟩ : ∃ d, D = d + 1 := ⟨D - 1, by omega⟩
  have hp := hz.2.2.2.2.1
  have hq := hX.e
  refine s_parser_read hz.1 hz.2.1 hz.2.2.1 (u_pclear hz.1 hz.2.1 hz.2.2.2.1 (by omega) (fun m1 f1 z1 e9 => ?_))
  have r1 : ∀ i, i ≠ 3 → (i < p ∨ p + 12 < i) → m1 i = mem i := fun i x y => by rw [f1 i y, zup_row _ _ _ x, zup_row _ _ _ x]
  have e33 : m1 3 3 = 0 := by rw [f1 3 (by omega), zup_ne _ _ _ _ (by decide), zup_at]
  have e34 : m1 3 4 = -1 := by rw [f1 3 (by omega), zup_at]
  have hT1 : TX rf m1 q pl sc tb n := by
    refine ⟨⟨hX.1, hX.pc.fr (fun s h1 h2 => r1 _ (by omega) (by omega)), hX.s.fr (fun i i1 i2 => r1 i (by omega) (by omega))⟩, ?_, ?_, fun j hj => ?_⟩
    · unfold TP
      rw [r1 1 (by decide) (by omega), r1 2 (by decide) (by omega), r1 261 (by decide) (by omega), r1 262 (by decide) (by omega)]
      exact hT
    · rw [r1 1 (by decide) (by omega)]; exact hn
    · rw [r1 5 (by decide) (by omega)]; exact hO j hj
  refine u_cut (by omega) hT1 (fun m2 f2 t2 => ?_)
  have e : ∀ i, i ≠ 4 → i ≠ 6 → i ≠ 7 → m2 i = m1 i := f2
  have z2 : Z0 (fun i => m2 (p + i)) := by
    have ez : (fun i => m2 (p + i)) 0 = (fun i => m1 (p + i)) 0 := e _ (by omega) (by omega) (by omega)
    have e1 : (fun i => m2 (p + i)) 1 = (fun i => m1 (p + i)) 1 := e _ (by omega) (by omega) (by omega)
    have e11 : (fun i => m2 (p + i)) 11 = (fun i => m1 (p + i)) 11 := e _ (by omega) (by omega) (by omega)
    have e12 : (fun i => m2 (p + i)) 12 = (fun i => m1 (p + i)) 12 := e _ (by omega) (by omega) (by omega)
    unfold Z0
    rw [ez, e1, e11, e12]
    exact z1
  obtain ⟨d2, h1, h2⟩ := kk m2 (fun i x3 x4 x6 x7 y => by rw [e i x4 x6 x7, r1 i x3 y]) (by rw [e 3 (by decide) (by decide) (by decide)]; exact e33) (by rw [e 3 (by decide) (by decide) (by decide)]; exact e34) z2 ⟨t2, ⟨fun _ _ _ _ => rfl, rfl, rfl⟩, fun _ _ _ _ => rfl, by rw [e (p + 9) (by omega) (by omega) (by omega)]; exact e9, fun i hi => absurd hi (by simp)⟩
  have : d2 = d := by omega
  subst this
  exact h2
end CREAD
section TROOM
variable {X : zX} {rg mem : zF} {D : Nat} {tb : Nat → Int} {n b : Int}
/-- the reference comes to the text -/
theorem t_room0 {Q : Int → zF → Prop} {pl : zF} (hR : zall rg zRK = true) (hb : TBy tb n) (hn : 0 ≤ n ∧ n ≤ 1600) (hbb : 0 ≤ b ∧ b < 2) (h13 : mem 261 13 = 1 - b) (h1 : mem 261 1 = n) (ht : ∀ j : Nat, (j : Int) < n → mem 262 j = tb j) (hZ : Z0 pl) (hD : 3 ≤ D) (kk : ∀ m4 m5 c0 r0, RFc mem m4 b → RSs m4 m5 b tb n (tskp tb n 0) (bR pl c0 r0) [] → ∃ d, D = d + 1 ∧ Cv X d 228 [(2, 261)] rg m5 (fun m6 => Cv X d 237 [(2, 261), (0, 1)] rg m6 (fun m7 => L_m_room_150 X d rg Q m7 1))) : Ci X D 238 [(2, 261)] rg mem Q := by
  obtain ⟨d, rfl⟩ : ∃ d, D = d + 1 := ⟨D - 1, by omega⟩
  refine s_m_room hR ?_
  rw [h13, h1]
  have eb : 1 - (1 - b) = b := by omega
  rw [eb]
  refine ⟨by omega, by omega, by omega, by omega, by omega, by omega, ?_⟩
  generalize hmA : zup (zup (zup (zup (zup (zup (zup (zup (zup (zup (zup (zup mem 261 2 n) 261 1 0) 261 5 0) 261 8 0) 261 9 (-1)) 261 38 b) 265 b.toNat (-1)) 266 b.toNat 0) 270 b.toNat 0) 271 b.toNat 0) 274 b.toNat 0) 278 b.toNat 0 = mA
  have r0 : ∀ i, i ≠ 261 → i ≠ 265 → i ≠ 266 → i ≠ 270 → i ≠ 271 → i ≠ 274 → i ≠ 278 → mA i = mem i := fun i a1 a2 a3 a4 a5 a6 a7 => by rw [← hmA, zup_row _ _ _ a7, zup_row _ _ _ a6, zup_row _ _ _ a5, zup_row _ _ _ a4, zup_row _ _ _ a3, zup_row _ _ _ a2, zup_row _ _ _ a1, zup_row _ _ _ a1, zup_row _ _ _ a1, zup_row _ _ _ a1, zup_row _ _ _ a1, zup_row _ _ _ a1]
  have r261 : mA 261 = (zup (zup (zup (zup (zup (zup mem 261 2 n) 261 1 0) 261 5 0) 261 8 0) 261 9 (-1)) 261 38 b) 261 := by rw [← hmA, zup_row _ _ _ (by decide), zup_row _ _ _ (by decide), zup_row _ _ _ (by decide), zup_row _ _ _ (by decide), zup_row _ _ _ (by decide), zup_row _ _ _ (by decide)]
  have rj : ∀ j, j ≠ 1 → j ≠ 2 → j ≠ 5 → j ≠ 8 → j ≠ 9 → j ≠ 38 → mA 261 j = mem 261 j := fun j x1 x2 x5 x8 x9 x38 => by rw [r261, zup_ne _ _ _ _ x38, zup_ne _ _ _ _ x9, zup_ne _ _ _ _ x8, zup_ne _ _ _ _ x5, zup_ne _ _ _ _ x1, zup_ne _ _ _ _ x2]
  have s38 : mA 261 38 = b := by rw [r261, zup_at]
  have s9 : mA 261 9 = -1 := by rw [r261, zup_ne _ _ _ _ (by decide), zup_at]
  have s8 : mA 261 8 = 0 := by rw [r261, zup_ne _ _ _ _ (by decide), zup_ne _ _ _ _ (by decide), zup_at]
  have s5 : mA 261 5 = 0 := by rw [r261, zup_ne _ _ _ _ (by decide), zup_ne _ _ _ _ (by decide), zup_ne _ _ _ _ (by decide), zup_at]
  have s1 : mA 261 1 = 0 := by rw [r261, zup_ne _ _ _ _ (by decide), zup_ne _ _ _ _ (by decide), zup_ne _ _ _ _ (by decide), zup_ne _ _ _ _ (by decide), zup_at]
  have s2 : mA 261 2 = n := by rw [r261, zup_ne _ _ _ _ (by decide), zup_ne _ _ _ _ (by decide), zup_ne _ _ _ _ (by decide), zup_ne _ _ _ _ (by decide), zup_ne _ _ _ _ (by decide), zup_at]
  have v265 : mA 265 b.toNat = -1 := by rw [← hmA, zup_row _ _ _ (by decide), zup_row _ _ _ (by decide), zup_row _ _ _ (by decide), zup_row _ _ _ (by decide), zup_row _ _ _ (by decide), zup_at]
  have v266 : mA 266 b.toNat = 0 := by rw [← hmA, zup_row _ _ _ (by decide), zup_row _ _ _ (by decide), zup_row _ _ _ (by decide), zup_row _ _ _ (by decide), zup_at]
  have v270 : mA 270 b.toNat = 0 := by rw [← hmA, zup_row _ _ _ (by decide), zup_row _ _ _ (by decide), zup_row _ _ _ (by decide), zup_at]
  have v271 : mA 271 b.toNat = 0 := by rw [← hmA, zup_row _ _ _ (by decide), zup_row _ _ _ (by decide), zup_at]
  have v274 : mA 274 b.toNat = 0 := by rw [← hmA, zup_row _ _ _ (by decide), zup_at]
  have v278 : mA 278 b.toNat = 0 := by rw [← hmA, zup_at]
  have cA : RFc mem mA b := by
    refine ⟨fun i hi => r0 i (by omega) (by omega) (by omega) (by omega) (by omega) (by omega) (by omega), fun j x1 x2 _ _ x5 _ _ x8 x9 _ _ x38 _ _ _ _ _ => rj j x1 x2 x5 x8 x9 x38, fun a j x y z => ?_, s1⟩
    by_cases q : a = 265 ∨ a = 266 ∨ a = 270 ∨ a = 271 ∨ a = 274 ∨ a = 278
    · rw [wd1 (by omega)] at z
      have ne : j ≠ b.toNat := by omega
      rw [← hmA, zup_ne _ _ _ _ ne, zup_ne _ _ _ _ ne, zup_ne _ _ _ _ ne, zup_ne _ _ _ _ ne, zup_ne _ _ _ _ ne, zup_ne _ _ _ _ ne, zup_row _ _ _ (by omega), zup_row _ _ _ (by omega), zup_row _ _ _ (by omega), zup_row _ _ _ (by omega), zup_row _ _ _ (by omega), zup_row _ _ _ (by omega)]
    · rw [r0 a (by omega) (by omega) (by omega) (by omega) (by omega) (by omega) (by omega)]
  -- the rules of the bank
  have step : ∀ (m : zF) (x : Int), m 261 = mA 261 → 3 * b ≤ x → x < 3 * b + 3 → L_m_room_105 X d rg Q (zup m 279 x.toNat (-1)) (x + 1) → L_m_room_105 X d rg Q m x := by
    intro m x e x0 x1 hq
    refine s_m_room_105 hR ?_
    rw [e, s38]
    exact ⟨by omega, fun q => absurd q (by omega), fun _ => ⟨by omega, hq⟩⟩
  refine step mA (3 * b) rfl (by omega) (by omega) (step _ (3 * b + 1) (by rw [zup_row _ _ _ (by decide)]) (by omega) (by omega) (step _ (3 * b + 1 + 1) (by rw [zup_row _ _ _ (by decide), zup_row _ _ _ (by decide)]) (by omega) (by omega) ?_))
  generalize hmB : zup (zup (zup mA 279 (3 * b).toNat (-1)) 279 (3 * b + 1).toNat (-1)) 279 (3 * b + 1 + 1).toNat (-1) = mB
  have rB : ∀ i, i ≠ 279 → mB i = mA i := fun i x => by rw [← hmB, zup_row _ _ _ x, zup_row _ _ _ x, zup_row _ _ _ x]
  have vB : ∀ r : Nat, r < 3 → mB 279 (3 * b + (r : Int)).toNat = -1 := by
    intro r hr
    have : r = 0 ∨ r = 1 ∨ r = 2 := by omega
    rcases this with rfl | rfl | rfl
    · have e0 : (3 * b + ((0 : Nat) : Int)).toNat = (3 * b).toNat := by omega
      rw [e0, ← hmB, zup_ne _ _ _ _ (by omega), zup_ne _ _ _ _ (by omega), zup_at]
    · have e0 : (3 * b + ((1 : Nat) : Int)).toNat = (3 * b + 1).toNat := by omega
      rw [e0, ← hmB, zup_ne _ _ _ _ (by omega), zup_at]
    · have e0 : (3 * b + ((2 : Nat) : Int)).toNat = (3 * b + 1 + 1).toNat := by omega
      rw [e0, ← hmB, zup_at]
  refine s_m_room_105 hR ?_
  rw [rB 261 (by decide), s38]
  refine ⟨by omega, fun _ => ?_, fun q => absurd (by omega) q⟩
  generalize hm4 : zup mB 261 37 0 = m4
  have r4 : ∀ i, i ≠ 261 → m4 i = mB i := fun i x => by rw [← hm4, zup_row _ _ _ x]
  have j4 : ∀ j, j ≠ 37 → m4 261 j = mA 261 j := fun j x => by rw [← hm4, zup_ne _ _ _ _ x, rB 261 (by decide)]
  have c4 : RFc mem m4 b := by
    obtain ⟨y1, y2, y3, y4⟩ := cA
    refine ⟨fun i hi => by rw [r4 i (by omega), rB i (by omega)]; exact y1 i hi, fun j x1 x2 x3 x4 x5 x6 x7 x8 x9 x12 x37 x38 x39 x45 x46 x48 x49 => by rw [j4 j x37]; exact y2 j x1 x2 x3 x4 x5 x6 x7 x8 x9 x12 x37 x38 x39 x45 x46 x48 x49, fun a j x y z => ?_, by rw [j4 1 (by decide)]; exact y4⟩
    rw [r4 a (by omega)]
    by_cases q : a = 279
    · subst q
      rw [← y3 279 j x y z]
      rw [wd3 (by decide)] at z
      rw [← hmB, zup_ne _ _ _ _ (by omega), zup_ne _ _ _ _ (by omega), zup_ne _ _ _ _ (by omega)]
    · rw [rB a q]
      exact y3 a j x y z
  have e5 : m4 261 5 = 0 := by rw [j4 5 (by decide)]; exact s5
  refine t_ahead (tb := tb) (n := n) hR (by omega) hn (by rw [j4 2 (by decide)]; exact s2) (fun j hj => ⟨?_, ?_⟩) (by rw [e5]; omega) (fun m5 f5 t5 => ?_)
  · rw [c4.1 262 (by decide)]; exact ht j hj
  · have := hb (j : Int) (by omega) hj
    rw [Int.toNat_natCast] at this
    exact this
  rw [e5] at t5
  have R5 : RSs m4 m5 b tb n (tskp tb n 0) (bR pl (m4 263 b.toNat) (m4 264 b.toNat)) [] := by
    have g : ∀ i, i ≠ 261 → m5 i = m4 i := f5.1
    have g1 : ∀ j, j ≠ 3 → j ≠ 4 → j ≠ 5 → j ≠ 6 → j ≠ 7 → j ≠ 12 → m5 261 j = m4 261 j := f5.2
    have u : ∀ i, i ≠ 261 → i ≠ 279 → m5 i = mA i := fun i x y => by rw [g i x, r4 i x, rB i y]
    have pb1 : ∀ i, i ≠ 0 → (bR pl (m4 263 b.toNat) (m4 264 b.toNat)) i = pl i := fun i x => by unfold bR; rw [zup_row _ _ _ x, zup_row _ _ _ x]
    have pb0 : ∀ k, k ≠ 1 → k ≠ 2 → (bR pl (m4 263 b.toNat) (m4 264 b.toNat)) 0 k = pl 0 k := fun k x y => by unfold bR; rw [zup_ne _ _ _ _ y, zup_ne _ _ _ _ x]
    have pbc : (bR pl (m4 263 b.toNat) (m4 264 b.toNat)) 0 1 = m4 263 b.toNat := by unfold bR; rw [zup_ne _ _ _ _ (by decide), zup_at]
    have pbr : (bR pl (m4 263 b.toNat) (m4 264 b.toNat)) 0 2 = m4 264 b.toNat := by unfold bR; rw [zup_at]
    obtain ⟨hz0, hz3, hz4, hz5, ⟨hk0, hk1, hk2⟩, hru⟩ := hZ
    refine ⟨⟨t5, ?_, ⟨fun j hj => ?_, ?_⟩, ?_⟩, ⟨fun i hi => g i (by omega), fun j x1 x2 x3 x4 x5 x6 x7 x8 x9 x10 x11 x12 x13 x14 => g1 j x1 x2 x3 x4 x5 x8, fun a j x y z => by rw [g a (by omega)]⟩, ⟨?_, hbb⟩, ⟨?_, fun i hi => absurd hi (by simp)⟩, ?_⟩
    · rw [g1 2 (by decide) (by decide) (by decide) (by decide) (by decide) (by decide), j4 2 (by decide)]; exact s2
    · rw [g 262 (by decide), c4.1 262 (by decide)]; exact ht j hj
    · rw [g1 9 (by decide) (by decide) (by decide) (by decide) (by decide) (by decide), j4 9 (by decide)]; exact s9
    · rw [g1 8 (by decide) (by decide) (by decide) (by decide) (by decide) (by decide), j4 8 (by decide)]; exact s8
    · rw [g1 38 (by decide) (by decide) (by decide) (by decide) (by decide) (by decide), j4 38 (by decide)]; exact s38
    · rw [g1 37 (by decide) (by decide) (by decide) (by decide) (by decide) (by decide), ← hm4, zup_at]; rfl
    · refine ⟨by rw [g 263 (by decide), g 264 (by decide), pbc, pbr]; exact ⟨rfl, rfl⟩, ?_, ?_, fun k k0 k1 => ?_, fun k k0 k1 => ?_, fun k k0 k1 => ?_, fun so k h0 k0 k1 => ?_, fun r hr => ?_⟩
      · rw [u 265 (by decide) (by decide), u 278 (by decide) (by decide), u 270 (by decide) (by decide), pb0 3 (by decide) (by decide), pb0 4 (by decide) (by decide), pb0 5 (by decide) (by decide), hz3, hz4, hz5]
        exact ⟨v265, v278, v270⟩
      · rw [u 266 (by decide) (by decide), u 271 (by decide) (by decide), u 274 (by decide) (by decide), pb1 1 (by decide), hk0, hk1, hk2]
        exact ⟨v266, v271, v274⟩
      · rw [pb1 1 (by decide), hk0] at k1; omega
      · rw [pb1 1 (by decide), hk1] at k1; omega
      · rw [pb1 1 (by decide), hk2] at k1; omega
      · rw [pb1 1 (by decide)] at k1
        have : so = 0 ∨ so = 1 ∨ so = 2 := by omega
        rcases this with rfl | rfl | rfl <;> omega
      · rw [pb1 11 (by decide), (hru r hr).1, g 279 (by decide), r4 279 (by decide)]
        exact ⟨vB r hr, fun c => absurd rfl c⟩
  obtain ⟨d2, hd, hq⟩ := kk m4 m5 _ _ c4 R5
  have : d2 = d := by omega
  subst this
  exact hq
end TROOM
