/-! the program takes a picture up: bubbles, deeds, all -/
section TOLD2
variable {X : zX} {rf mem : zF} {p : Nat} {pl sc : zF} {tb : Nat → Int}
theorem v_bubIn_2 {d : Nat} {Q : Int → zF → Prop} (hR : zall rf zRK = true) {c : Int} (hc : inI c) (hI : ∀ k : Int, 0 ≤ k → k < 6 → inI (mem 238 k.toNat)) (k1 : (∃ k : Int, 0 ≤ k ∧ k < 6 ∧ mem 238 k.toNat = c) → Q 1 mem) (k0 : ¬ (∃ k : Int, 0 ≤ k ∧ k < 6 ∧ mem 238 k.toNat = c) → Q 0 mem) : ∀ (n : Nat) {x : Int}, 0 ≤ x → x + n = 6 → (∀ k : Int, 0 ≤ k → k < x → mem 238 k.toNat ≠ c) → L_images_isBubbleIn_2 X d rf Q mem c x
  | 0, x, h0, hx, ha => s_images_isBubbleIn_2 hR ⟨by omega, fun _ => k0 (fun ⟨k, a, b, e⟩ => ha k a (by omega) e), fun q => absurd q (by omega)⟩
  | n + 1, x, h0, hx, ha => by
    refine s_images_isBubbleIn_2 hR ⟨by omega, fun q => absurd q (by omega), fun _ => ⟨by omega, ⟨hI x h0 (by omega), hc⟩, fun q => ?_, fun q => k1 ⟨x, h0, by omega, q⟩⟩⟩
    refine v_bubIn_2 hR hc hI k1 k0 n (by omega) (by omega) (fun k a b => ?_)
    by_cases e : k = x
    · rw [e]; exact q
    · exact ha k a (by omega)
theorem v_canBe {d : Nat} {Q : Int → zF → Prop} (hR : zall rf zRK = true) {x c f s e : Int} (hx : 0 ≤ x ∧ x < 6) (h2 : mem 238 x.toNat = c) (h3 : mem 239 x.toNat = f) (h4 : mem 240 x.toNat = s) (h5 : mem 241 x.toNat = e) (hc : inI c) (hf : 0 ≤ f ∧ f ≤ 255) (hs : 0 ≤ s ∧ s ≤ 255) (he : 0 ≤ e ∧ e ≤ 255) (k1 : (c ≠ -1 ∧ (1 ≤ f ∧ f ≤ 99) ∧ (1 ≤ s ∧ s ≤ 9) ∧ e ≠ 0) ∨ (c = -1 ∧ f = 0 ∧ s = 0 ∧ e = 0) → Q 1 mem) (k0 : ¬ ((c ≠ -1 ∧ (1 ≤ f ∧ f ≤ 99) ∧ (1 ≤ s ∧ s ≤ 9) ∧ e ≠ 0) ∨ (c = -1 ∧ f = 0 ∧ s = 0 ∧ e = 0)) → Q 0 mem) : Ci X d 21 [(2, 234), (0, x)] rf mem Q := by
  refine s_images_canBeBubble hR ?_
  rw [h2, h3, h4, h5]
  refine ⟨hx, hx, hx, hx, hc, fun q => ⟨by omega, fun a => k0 (by omega), fun a => ⟨by omega, fun a1 => k0 (by omega), fun a1 => ⟨by omega, fun a2 => k0 (by omega), fun a2 => ⟨by omega, fun a3 => k0 (by omega), fun a3 => ⟨by omega, fun a4 => k0 (by omega), fun a4 => k1 (by omega)⟩⟩⟩⟩⟩, fun q => ⟨by omega, fun a => k0 (by omega), fun a => ⟨by omega, fun a1 => k0 (by omega), fun a1 => ⟨by omega, fun a2 => k0 (by omega), fun a2 => k1 (by omega)⟩⟩⟩⟩
/-- what the rows of the bubbles hold once x are read -/
def BX (m0 mem pl : zF) (tb : Nat → Int) (x : Int) : Prop := (∀ k : Int, 0 ≤ k → k < 6 → mem 238 k.toNat = if k < x then oC pl tb (oB pl + 5 * k) else -1) ∧ (∀ (s : Nat) (k : Int), 3 ≤ s → s ≤ 5 → 0 ≤ k → k < x → mem (236 + s) k.toNat = tb (oB pl + 5 * k + ((s : Int) - 1)).toNat) ∧ (∀ (s : Nat) (k : Int), 3 ≤ s → s ≤ 5 → x ≤ k → k < 6 → mem (236 + s) k.toNat = m0 (236 + s) k.toNat) ∧ (∀ i, i ≠ 234 → (i < 238 ∨ 241 < i) → mem i = m0 i) ∧ zFT m0 mem
theorem BX.ft {m0 m1 m2 : zF} {x : Int} (h : BX m0 m1 pl tb x) (f : zF3 m1 m2) : BX m0 m2 pl tb x := by
  obtain ⟨h1, h2, h3, h4, h5⟩ := h
  exact ⟨fun k a b => by rw [f.1 238 (by decide)]; exact h1 k a b, fun s k a b c d => by rw [f.1 (236 + s) (by omega)]; exact h2 s k a b c d, fun s k a b c d => by rw [f.1 (236 + s) (by omega)]; exact h3 s k a b c d, fun i a b => by rw [f.1 i a]; exact h4 i a b, h5.trans f.ft⟩
theorem v_bubs_27 {D : Nat} {Q : Int → zF → Prop} {m0 : zF} (hP : WP pl) (hD : 1 ≤ D) (k1 : oAll (o6 pl tb) (pl 1 2) → ∀ mem', mem' 234 3 = oD pl → BX m0 mem' pl tb (pl 1 2) → Q 1 mem') (k0 : ¬ oAll (o6 pl tb) (pl 1 2) → ∀ mem', zFT m0 mem' → Q 0 mem') : ∀ (n : Nat) {x : Int} {mem : zF}, TC rf mem p pl sc tb → 0 ≤ x → x + n = pl 1 2 → mem 234 3 = oB pl + 5 * x → BX m0 mem pl tb x → oAll (o6 pl tb) x → L_images_readBubbles_27 X D rf Q mem p (oZ pl tb x.toNat) (zshl 1 (pl 1 2) - 1) x
  | 0, x, mem, hT, h0, hx, hc, hm, ha => by
    have hN := hP.n
    have o := oo pl
    have e : x = pl 1 2 := by omega
    refine s_images_readBubbles_27 hT.1.r hT.1.p (u_many hT.1.r hT.1.p hT.1.pc (by decide) ?_)
    refine ⟨⟨by omega, by show inI (pl 1 2); omega⟩, fun _ => k1 (by rw [← e]; exact ha) mem (by omega) (by rw [← e]; exact hm), fun q => absurd (show pl 1 2 ≤ x by omega) q⟩
  | n + 1, x, mem, hT, h0, hx, hc, hm, ha => by
    have hN := hP.n
    have o := oo pl
    have b0 := hT.b (j := oB pl + 5 * x) (by omega) (by omega)
    have b1 := hT.b (j := oB pl + 5 * x + 1) (by omega) (by omega)
    have b2 := hT.b (j := oB pl + 5 * x + 2) (by omega) (by omega)
    have b3 := hT.b (j := oB pl + 5 * x + 3) (by omega) (by omega)
    have b4 := hT.b (j := oB pl + 5 * x + 4) (by omega) (by omega)
    have hcr := oC_rng (tb := tb) hP (oB pl + 5 * x)
    have hz := oZ_rng hP x.toNat (tb := tb) (fun i a b => (ha i a (by omega)).e hP)
    have hsh := zshl_rng (k := pl 1 2) hN.2.2
    have e2 : ((x.toNat : Nat) : Int) = x := by omega
    -- once cell and answer are known
    have main : ∀ (s0 : Int) (m : zF), zF3 mem m → m 234 3 = oB pl + 5 * x + 2 → (s0 = 0 ∨ s0 = 1) → (s0 = 1 ↔ ((oC pl tb (oB pl + 5 * x) ≠ -1 ∧ ∀ i : Int, 0 ≤ i → i < x → oC pl tb (oB pl + 5 * i) ≠ oC pl tb (oB pl + 5 * x)) ∨ (oC pl tb (oB pl + 5 * x) = -1 ∧ oN tb (oB pl + 5 * x)))) → L_images_readBubbles_91 X D rf Q m p (oZ pl tb x.toNat) (zshl 1 (pl 1 2) - 1) x (oC pl tb (oB pl + 5 * x)) s0 := by
      intro s0 m f0 c0 hs0 hs
      have B0 := hm.ft f0
      have bad : ¬ o6 pl tb x → ¬ oAll (o6 pl tb) (pl 1 2) := fun h c => h (c x h0 (by omega))
      refine s_images_readBubbles_91 hT.1.r hT.1.p (v_take (hT.ft f0.ft) hD c0 (by omega) (fun m1 c1 f1 => ⟨by omega, ?_⟩))
      have g1 : zFT m (zup m1 239 x.toNat (tb (oB pl + 5 * x + 2).toNat)) := f1.ft.trans (zFT.up (by decide))
      refine v_take (hT.ft (f0.ft.trans g1)) hD (j := oB pl + 5 * x + 3) (by rw [zup_row _ _ _ (by decide), c1]; omega) (by omega) (fun m2 c2 f2 => ⟨by omega, ?_⟩)
      have g2 : zFT m (zup m2 240 x.toNat (tb (oB pl + 5 * x + 3).toNat)) := (g1.trans f2.ft).trans (zFT.up (by decide))
      refine v_take (hT.ft (f0.ft.trans g2)) hD (j := oB pl + 5 * x + 4) (by rw [zup_row _ _ _ (by decide), c2]; omega) (by omega) (fun m3 c3 f3 => ?_)
      have g3 := g2.trans f3.ft
      have g3' : zFT m0 m3 := B0.2.2.2.2.trans g3
      refine ⟨by omega, fun q => k0 (bad (fun c => ?_)) m3 g3', fun q => ⟨zand_inI _ _, fun q2 => k0 (bad (fun c => ?_)) m3 g3', fun q2 => ⟨zand_inI _ _, fun q3 => ⟨by omega, by omega, ?_⟩, fun q3 => k0 (bad (fun c => ?_)) m3 g3'⟩⟩⟩
      · have h01 : ¬ s0 = 1 := by omega
        refine h01 (hs.mpr ?_)
        rcases c with c | c
        · exact Or.inl ⟨c.1, c.2.1⟩
        · exact Or.inr ⟨c.1, c.2.1⟩
      · refine q2 ((zmsk b4 hN.2.2).mpr ?_)
        rcases c with c | c
        · exact c.2.2.2.2.1.2
        · rw [c.2.2.2.2]; omega
      · -- the slot is laid
        have fx3 : ∀ i, i ≠ 234 → i ≠ 239 → i ≠ 240 → m3 i = m i := fun i i1 i2 i3 => by rw [f3.1 i i1, zup_row _ _ _ i3, f2.1 i i1, zup_row _ _ _ i2, f1.1 i i1]
        generalize hmm : zup (zup m3 238 x.toNat (oC pl tb (oB pl + 5 * x))) 241 x.toNat (tb (oB pl + 5 * x + 4).toNat) = m4
        have g4 : zFT m m4 := by rw [← hmm]; exact (g3.trans (zFT.up (by decide))).trans (zFT.up (by decide))
        have r2 : m4 238 x.toNat = oC pl tb (oB pl + 5 * x) := by rw [← hmm, zup_row _ _ _ (by decide), zup_at]
        have r3 : m4 239 x.toNat = tb (oB pl + 5 * x + 2).toNat := by rw [← hmm, zup_row _ _ _ (by decide), zup_row _ _ _ (by decide), f3.1 239 (by decide), zup_row _ _ _ (by decide), f2.1 239 (by decide), zup_at]
        have r4 : m4 240 x.toNat = tb (oB pl + 5 * x + 3).toNat := by rw [← hmm, zup_row _ _ _ (by decide), zup_row _ _ _ (by decide), f3.1 240 (by decide), zup_at]
        have r5 : m4 241 x.toNat = tb (oB pl + 5 * x + 4).toNat := by rw [← hmm, zup_at]
        have ne : ∀ s k, 2 ≤ s → s ≤ 5 → k ≠ x.toNat → m4 (236 + s) k = m (236 + s) k := by
          intro s k a b e
          rw [← hmm, zup_ne _ _ _ _ e, zup_ne _ _ _ _ e, f3.1 _ (by omega), zup_ne _ _ _ _ e, f2.1 _ (by omega), zup_ne _ _ _ _ e, f1.1 _ (by omega)]
        have fo : ∀ i, i ≠ 234 → (i < 238 ∨ 241 < i) → m4 i = m i := fun i i1 i2 => by rw [← hmm, zup_row _ _ _ (by omega), zup_row _ _ _ (by omega), fx3 i i1 (by omega) (by omega)]
        have c4 : m4 234 3 = oB pl + 5 * x + 5 := by rw [← hmm, zup_row _ _ _ (by decide), zup_row _ _ _ (by decide), c3]; omega
        have q2' := (zmsk b4 hN.2.2).mp q2
        have hs1 := hs.mp (by omega)
        refine v_canBe hT.1.r (by omega) r2 r3 r4 r5 (by omega) b2 b3 b4 (fun h => ⟨by decide, fun _ => ?_, fun q => absurd q (by decide)⟩) (fun h => ⟨by decide, fun q => absurd rfl q, fun _ => k0 (bad (fun c => h ?_)) m4 (B0.2.2.2.2.trans g4)⟩)
        · have e1 : (x + 1).toNat = x.toNat + 1 := by omega
          have ez : zor (oZ pl tb x.toNat) (tb (oB pl + 5 * x + 4).toNat) = oZ pl tb (x + 1).toNat := by
            rw [e1]
            show _ = zor (oZ pl tb x.toNat) (tb (oB pl + 5 * ((x.toNat : Nat) : Int) + 4).toNat)
            rw [e2]
          rw [ez]
          refine v_bubs_27 hP hD k1 k0 n (hT.ft (f0.ft.trans g4)) (by omega) (by omega) (by rw [c4]; omega) ⟨fun k a b => ?_, fun s k a b c d => ?_, fun s k a b c d => ?_, fun i a b => by rw [fo i a b]; exact B0.2.2.2.1 i a b, B0.2.2.2.2.trans g4⟩ (fun k a b => ?_)
          · by_cases e : k = x
            · rw [e, r2, if_pos (by omega)]
            · have := ne 2 k.toNat (by decide) (by decide) (by omega)
              have t : m4 238 k.toNat = m 238 k.toNat := this
              rw [t, B0.1 k a b]
              by_cases e3 : k < x
              · rw [if_pos e3, if_pos (by omega)]
              · rw [if_neg e3, if_neg (by omega)]
          · by_cases e : k = x
            · rw [e]
              have h345 : s = 3 ∨ s = 4 ∨ s = 5 := by omega
              rcases h345 with rfl | rfl | rfl
              · exact r3
              · exact r4
              · exact r5
            · rw [ne s k.toNat (by omega) b (by omega)]
              exact B0.2.1 s k a b c (by omega)
          · rw [ne s k.toNat (by omega) b (by omega)]
            exact B0.2.2.1 s k a b (by omega) d
          · by_cases e : k = x
            · rw [e]
              rcases h with h | h
              · rcases hs1 with h1 | h1
                · exact Or.inl ⟨h1.1, h1.2, h.2.1, h.2.2.1, by omega, q3⟩
                · exact absurd h1.1 h.1
              · rcases hs1 with h1 | h1
                · exact absurd h.1 h1.1
                · exact Or.inr ⟨h.1, h1.2, h.2.1, h.2.2.1, h.2.2.2⟩
            · exact ha k a (by omega)
        · rcases c with c | c
          · exact Or.inl ⟨c.1, c.2.2.1, c.2.2.2.1, by have := c.2.2.2.2.1.1; omega⟩
          · exact Or.inr ⟨c.1, c.2.2.1, c.2.2.2.1, c.2.2.2.2⟩
      · rcases c with c | c
        · exact q3 c.2.2.2.2.2
        · refine q3 ?_
          rw [c.2.2.2.2]
          exact zand0 hz
    refine s_images_readBubbles_27 hT.1.r hT.1.p (u_many hT.1.r hT.1.p hT.1.pc (by decide) ?_)
    refine ⟨⟨by omega, by show inI (pl 1 2); omega⟩, fun q => absurd (show pl 1 2 ≤ x from q) (by omega), fun _ => v_take hT hD hc (by omega) (fun m1 c1 f1 => v_take (hT.ft f1.ft) hD c1 (by omega) (fun m2 c2 f2 => ?_))⟩
    have f := f1.trans f2
    have hT2 := hT.ft f.ft
    have B2 := hm.ft f
    refine u_cellAt hT2.1.r hT2.1.p hT2.1.pc hP (by omega) (by omega) ?_
    have ec : zcellAt (pl 0 1) (pl 0 2) (tb (oB pl + 5 * x).toNat) (tb (oB pl + 5 * x + 1).toNat) = oC pl tb (oB pl + 5 * x) := rfl
    rw [ec]
    refine ⟨by omega, fun q => ?_, fun q => ?_⟩
    · refine s_images_isBubbleIn hT2.1.r (v_bubIn_2 hT2.1.r (by omega) (fun k a b => ?_) (fun ⟨k, a, b, e⟩ => ⟨by decide, fun _ => main 0 m2 f (by omega) (Or.inl rfl) ⟨fun h => absurd h (by decide), fun h => ?_⟩, fun q => absurd q (by decide)⟩) (fun hno => ⟨by decide, fun q => absurd rfl q, fun _ => main 1 m2 f (by omega) (Or.inr rfl) ⟨fun _ => Or.inl ⟨q, fun i a b c => ?_⟩, fun _ => rfl⟩⟩) 6 (by omega) (by omega) (fun k a b => by omega))
      · rw [B2.1 k a b]
        have := oC_rng (tb := tb) hP (oB pl + 5 * k)
        split <;> omega
      · rw [B2.1 k a b] at e
        rcases h with h | h
        · by_cases e3 : k < x
          · rw [if_pos e3] at e
            exact absurd e (h.2 k a e3)
          · rw [if_neg e3] at e
            omega
        · exact absurd h.1 q
      · exact hno ⟨i, a, by omega, by rw [B2.1 i a (by omega), if_pos b]; exact c⟩
    · refine v_out hT2.1.r (by omega) (by omega) (fun h => main 1 m2 f (by omega) (Or.inr rfl) ⟨fun _ => Or.inr ⟨q, h⟩, fun _ => rfl⟩) (fun h => main 0 m2 f (by omega) (Or.inl rfl) ⟨fun h => absurd h (by decide), fun h2 => ?_⟩)
      rcases h2 with h2 | h2
      · exact absurd q h2.1
      · exact absurd h2.2 h
theorem v_bubs {D : Nat} {Q : Int → zF → Prop} (hT : TC rf mem p pl sc tb) (hP : WP pl) (hD : 2 ≤ D) (h3 : mem 234 3 = oB pl) (k1 : oAll (o6 pl tb) (pl 1 2) → ∀ mem', mem' 234 3 = oD pl → BX mem mem' pl tb (pl 1 2) → Q 1 mem') (k0 : ¬ oAll (o6 pl tb) (pl 1 2) → ∀ mem', zFT mem mem' → Q 0 mem') : Ci X D 19 [(2, 234), (2, 1), (2, p)] rf mem Q := by
  obtain ⟨d, rfl⟩ : ∃ d, D = d + 1 := ⟨D - 1, by omega⟩
  have hN := hP.n
  refine s_images_readBubbles hT.1.r hT.1.p (u_many hT.1.r hT.1.p hT.1.pc (by decide) (u_fill (q := 238) (n := 6) rfl (by decide) (fun m1 f1 g1 => ?_)))
  have g : zFT mem m1 := ⟨fun i i1 i2 => f1 i (by omega), fun j hj => by rw [f1 234 (by decide)]⟩
  exact v_bubs_27 hP (by omega) k1 k0 (pl 1 2).toNat (x := 0) (hT.ft g) (by decide) (by omega) (by rw [f1 234 (by decide), h3]; omega) ⟨fun k a b => by rw [g1 k.toNat (by omega), if_neg (by omega)], fun s k a b c d => by omega, fun s k a b c d => by rw [f1 (236 + s) (by omega)], fun i _ i2 => f1 i (by omega), g⟩ (fun k a b => by omega)
theorem v_with_2 {d : Nat} {Q : Int → zF → Prop} (hR : zall rf zRK = true) (hI : ∀ k : Int, 0 ≤ k → k < 6 → 0 ≤ mem 241 k.toNat ∧ mem 241 k.toNat < 64) {c : Int} (hc : 0 ≤ c ∧ c < 6) (k1 : ∀ b : Int, 0 ≤ b → b < 6 → zbit (mem 241 b.toNat) c = 1 → Q b mem) (k0 : (∀ b : Int, 0 ≤ b → b < 6 → zbit (mem 241 b.toNat) c ≠ 1) → Q (-1) mem) : ∀ (n : Nat) {x : Int}, 0 ≤ x → x + n = 6 → (∀ b : Int, 0 ≤ b → b < x → zbit (mem 241 b.toNat) c ≠ 1) → L_scene_bubbleWith_2 X d rf Q mem 236 c x
  | 0, x, h0, hx, ha => s_scene_bubbleWith_2 hR (zScn_236 hR) ⟨by omega, fun _ => k0 (fun b a c => ha b a (by omega)), fun q => absurd q (by omega)⟩
  | n + 1, x, h0, hx, ha => by
    refine s_scene_bubbleWith_2 hR (zScn_236 hR) ⟨by omega, fun q => absurd q (by omega), fun _ => ⟨by omega, zbit_inI (hI x h0 (by omega)) hc, fun q => ?_, fun q => k1 x h0 (by omega) q⟩⟩
    refine v_with_2 hR hI hc k1 k0 n (by omega) (by omega) (fun k a b => ?_)
    by_cases e : k = x
    · rw [e]; exact q
    · exact ha k a (by omega)
def DX (m0 mem pl : zF) (tb : Nat → Int) (x : Int) : Prop := (∀ k : Int, 0 ≤ k → k < x → mem 242 k.toNat = (if tb (oD pl + 3 * k).toNat = 255 then -1 else tb (oD pl + 3 * k).toNat) ∧ mem 243 k.toNat = 256 * tb (oD pl + 3 * k + 1).toNat + tb (oD pl + 3 * k + 2).toNat) ∧ (∀ k : Int, x ≤ k → k < 6 → mem 242 k.toNat = m0 242 k.toNat ∧ mem 243 k.toNat = m0 243 k.toNat) ∧ (∀ i, i ≠ 234 → i ≠ 242 → i ≠ 243 → mem i = m0 i) ∧ zFT m0 mem
theorem v_deeds_2 {D : Nat} {Q : Int → zF → Prop} {m0 : zF} (hP : WP pl) (hD : 2 ≤ D) (h6 : oAll (o6 pl tb) (pl 1 2)) (h41 : ∀ k : Int, 0 ≤ k → k < 6 → m0 241 k.toNat = if k < pl 1 2 then tb (oB pl + 5 * k + 4).toNat else 0) (k1 : oAll (o7 pl tb) (pl 1 2) → ∀ mem', DX m0 mem' pl tb (pl 1 2) → Q 1 mem') (k0 : ¬ oAll (o7 pl tb) (pl 1 2) → ∀ mem', zFT m0 mem' → Q 0 mem') : ∀ (n : Nat) {x : Int} {mem : zF}, TC rf mem p pl sc tb → 0 ≤ x → x + n = pl 1 2 → mem 234 3 = oD pl + 3 * x → DX m0 mem pl tb x → oAll (o7 pl tb) x → L_images_readDeeds_2 X D rf Q mem p x
  | 0, x, mem, hT, h0, hx, hc, hm, ha => by
    have hN := hP.n
    have o := oo pl
    have e : x = pl 1 2 := by omega
    refine s_images_readDeeds_2 hT.1.r hT.1.p (u_many hT.1.r hT.1.p hT.1.pc (by decide) ?_)
    refine ⟨⟨by omega, by show inI (pl 1 2); omega⟩, fun _ => k1 (by rw [← e]; exact ha) mem (by rw [← e]; exact hm), fun q => absurd (show pl 1 2 ≤ x by omega) q⟩
  | n + 1, x, mem, hT, h0, hx, hc, hm, ha => by
    have hN := hP.n
    have o := oo pl
    have b0 := hT.b (j := oD pl + 3 * x) (by omega) (by omega)
    have b1 := hT.b (j := oD pl + 3 * x + 1) (by omega) (by omega)
    have b2 := hT.b (j := oD pl + 3 * x + 2) (by omega) (by omega)
    have bad : ¬ o7 pl tb x → ¬ oAll (o7 pl tb) (pl 1 2) := fun h c => h (c x h0 (by omega))
    have hzb := oZ_bit hP (tb := tb) (k := x) (by omega) (pl 1 2).toNat (fun i a b => (h6 i a (by omega)).e hP)
    have hz := oZ_rng hP (pl 1 2).toNat (tb := tb) (fun i a b => (h6 i a (by omega)).e hP)
    have hz01 := zbit_01 hz (k := x) (by omega)
    refine s_images_readDeeds_2 hT.1.r hT.1.p (u_many hT.1.r hT.1.p hT.1.pc (by decide) ?_)
    refine ⟨⟨by omega, by show inI (pl 1 2); omega⟩, fun q => absurd (show pl 1 2 ≤ x from q) (by omega), fun _ => v_take hT (by omega) hc (by omega) (fun m1 c1 f1 => ?_)⟩
    have hT1 := hT.ft f1.ft
    -- the owner's place and the rent
    have two : ∀ (v x5 x6 : Int), v = (if tb (oD pl + 3 * x).toNat = 255 then -1 else tb (oD pl + 3 * x).toNat) → inI x5 → inI x6 → ((x5 ≠ 0 ∨ x6 ≠ 0) ↔ (tb (oD pl + 3 * x).toNat = 255 ∨ (tb (oD pl + 3 * x).toNat < pl 1 1 ∧ zbit (oZ pl tb (pl 1 2).toNat) x = 0))) → L_images_readDeeds_81 X D rf Q m1 p x x5 x6 x v := by
      intro v x5 x6 hv h5 h6' hiff
      have g2 : zFT m1 (zup m1 242 x.toNat v) := zFT.up (by decide)
      refine s_images_readDeeds_81 hT.1.r hT.1.p ⟨by omega, v_two (hT1.ft g2) (by omega) (j := oD pl + 3 * x + 1) (j1 := oD pl + 3 * x + 2) (by rw [zup_row _ _ _ (by decide)]; exact c1) (by omega) (by omega) (fun m2 c2 f2 => ?_)⟩
      generalize hmm : zup m2 243 x.toNat (256 * tb (oD pl + 3 * x + 1).toNat + tb (oD pl + 3 * x + 2).toNat) = m3
      have g3 : zFT mem m3 := by rw [← hmm]; exact ((f1.ft.trans g2).trans f2.ft).trans (zFT.up (by decide))
      have r3 : m3 243 x.toNat = 256 * tb (oD pl + 3 * x + 1).toNat + tb (oD pl + 3 * x + 2).toNat := by rw [← hmm, zup_at]
      have r2 : m3 242 x.toNat = v := by rw [← hmm, zup_row _ _ _ (by decide), f2.1 242 (by decide), zup_at]
      have fo : ∀ i, i ≠ 234 → i ≠ 242 → i ≠ 243 → m3 i = mem i := fun i i1 i2 i3 => by rw [← hmm, zup_row _ _ _ i3, f2.1 i i1, zup_row _ _ _ i2, f1.1 i i1]
      have ne2 : ∀ k, k ≠ x.toNat → m3 242 k = mem 242 k := fun k e => by rw [← hmm, zup_ne _ _ _ _ e, f2.1 242 (by decide), zup_ne _ _ _ _ e, f1.1 242 (by decide)]
      have ne3 : ∀ k, k ≠ x.toNat → m3 243 k = mem 243 k := fun k e => by rw [← hmm, zup_ne _ _ _ _ e, f2.1 243 (by decide), zup_ne _ _ _ _ e, f1.1 243 (by decide)]
      have c3 : m3 234 3 = oD pl + 3 * x + 3 := by rw [← hmm, zup_row _ _ _ (by decide), c2]; omega
      have next : (x5 ≠ 0 ∨ x6 ≠ 0) → L_images_readDeeds_106 X D rf Q m3 p x := by
        intro hok
        refine s_images_readDeeds_106 hT.1.r hT.1.p ?_
        rw [r3]
        refine ⟨by omega, by omega, fun q => ?_, fun q => k0 (bad (fun c => q c.2)) m3 (hm.2.2.2.trans g3)⟩
        refine v_deeds_2 hP hD h6 h41 k1 k0 n (hT.ft g3) (by omega) (by omega) (by rw [c3]; omega) ⟨fun k a b => ?_, fun k a b => ?_, fun i i1 i2 i3 => by rw [fo i i1 i2 i3]; exact hm.2.2.1 i i1 i2 i3, hm.2.2.2.trans g3⟩ (fun k a b => ?_)
        · by_cases e : k = x
          · rw [e, r2, r3]; exact ⟨hv, rfl⟩
          · rw [ne2 _ (by omega), ne3 _ (by omega)]
            exact hm.1 k a (by omega)
        · rw [ne2 _ (by omega), ne3 _ (by omega)]
          exact hm.2.1 k (by omega) b
        · by_cases e : k = x
          · rw [e]; exact ⟨hiff.mp hok, q⟩
          · exact ha k a (by omega)
      refine ⟨by omega, h5, fun q => next (Or.inl q), fun q => ⟨h6', fun q2 => k0 (bad (fun c => ?_)) m3 (hm.2.2.2.trans g3), fun q2 => next (Or.inr q2)⟩⟩
      rcases hiff.mpr c.1 with h | h
      · exact h q
      · exact h q2
    have mid : ∀ (x5 x6 : Int), ((x5 = 1 ∧ tb (oD pl + 3 * x).toNat = 255) ∨ (x5 = 0 ∧ tb (oD pl + 3 * x).toNat ≠ 255)) → inI x6 → (x6 ≠ 0 ↔ (tb (oD pl + 3 * x).toNat < pl 1 1 ∧ zbit (oZ pl tb (pl 1 2).toNat) x = 0)) → L_images_readDeeds_60 X D rf Q m1 p x (tb (oD pl + 3 * x).toNat) x5 x6 := by
      intro x5 x6 h5 h6' hiff
      refine s_images_readDeeds_60 hT.1.r hT.1.p ⟨by omega, fun q => two _ x5 x6 ?_ (by omega) h6' ?_, fun q => two _ x5 x6 ?_ (by omega) h6' ?_⟩
      · rw [if_neg (by omega)]
      · rw [← hiff]; constructor
        · rintro (h | h)
          · exact absurd q h
          · exact Or.inr h
        · rintro (h | h)
          · omega
          · exact Or.inr h
      · rw [if_pos (by omega)]
      · constructor
        · intro _; exact Or.inl (by omega)
        · intro _; exact Or.inl q
    have start : ∀ x5 : Int, ((x5 = 1 ∧ tb (oD pl + 3 * x).toNat = 255) ∨ (x5 = 0 ∧ tb (oD pl + 3 * x).toNat ≠ 255)) → L_images_readDeeds_31 X D rf Q m1 p x (tb (oD pl + 3 * x).toNat) x5 := by
      intro x5 h5
      refine s_images_readDeeds_31 hT.1.r hT.1.p (u_isThere hT1.1.r hT1.1.p hT1.1.pc hP (by omega) (by decide) (by omega) (fun h => ⟨by decide, fun q => absurd q (by decide), fun _ => ?_⟩) (fun h => ⟨by decide, fun _ => mid x5 0 h5 (by decide) ⟨fun q => absurd rfl q, fun q => ?_⟩, fun q => absurd rfl q⟩))
      · unfold zthere at h
        have hlt : tb (oD pl + 3 * x).toNat < pl 1 1 := h.2.2.2.2
        have h41' : ∀ k : Int, 0 ≤ k → k < 6 → m1 241 k.toNat = if k < pl 1 2 then tb (oB pl + 5 * k + 4).toNat else 0 := fun k a b => by
          rw [f1.1 241 (by decide), hm.2.2.1 241 (by decide) (by decide) (by decide)]; exact h41 k a b
        refine s_scene_bubbleWith hT1.1.r (zScn_236 hT1.1.r) (v_with_2 hT1.1.r (fun k a b => ?_) (by omega) (fun b a c e => ⟨by omega, fun _ => mid x5 0 h5 (by decide) ⟨fun q => absurd rfl q, fun q => ?_⟩, fun q => absurd q (by omega)⟩) (fun hno => ⟨by decide, fun q => absurd rfl q, fun _ => mid x5 1 h5 (by decide) ⟨fun _ => ⟨hlt, ?_⟩, fun _ => by decide⟩⟩) 6 (by omega) (by omega) (fun b a c => by omega))
        · rw [h41' k a b]
          split
          · next q => exact (h6 k a q).e hP
          · omega
        · rw [h41' b a c] at e
          by_cases e3 : b < pl 1 2
          · rw [if_pos e3] at e
            have := hzb.mpr ⟨b, a, by omega, e⟩
            omega
          · rw [if_neg e3, zbit_z (by omega)] at e
            omega
        · rcases hz01 with h | h
          · exact h
          · obtain ⟨i, a, b, c⟩ := hzb.mp h
            refine absurd ?_ (hno i a (by omega))
            rw [h41' i a (by omega), if_pos (by omega)]
            exact c
      · unfold zthere at h
        exact absurd ⟨by omega, by omega, by decide, by decide, q.1⟩ h
    exact ⟨by omega, fun q => start 0 (Or.inr ⟨rfl, q⟩), fun q => start 1 (Or.inl ⟨rfl, q⟩)⟩
theorem v_read {D : Nat} {Q : Int → zF → Prop} (hX : CX rf mem p pl sc) (hT : TP mem tb) (hP : WP pl) (hD : 6 ≤ D) (k1 : oOK pl tb (mem 1 1) → ∀ mem', SC mem' 236 (oS pl tb (mem 244)) → zFT mem mem' → Q 1 mem') (k0 : ¬ oOK pl tb (mem 1 1) → ∀ mem', zFT mem mem' → Q 0 mem') : Ci X D 11 [(2, 234), (2, 1), (2, p)] rf mem Q := by
  obtain ⟨d, rfl⟩ : ∃ d, D = d + 1 := ⟨D - 1, by omega⟩
  have hp := hX.e
  have hN := hP.n
  have z3 : ∀ {Q' : Int → zF → Prop} {m : zF}, Q' 0 m → ((inI 0) ∧ (((0 : Int) = 0 → Q' 0 m) ∧ (¬ (0 : Int) = 0 → Q' 1 m))) := fun h => ⟨by decide, fun _ => h, fun q => absurd rfl q⟩
  have f0 : zFT mem (zup mem 234 3 0) := ⟨fun i a b => zup_row _ _ _ a, fun j a => zup_ne _ _ _ _ a⟩
  have hX0 := hX.ft f0
  refine s_images_read hX.r hX.p (u_begin (o := 236) hX.r (zScn_236 hX.r) hX.p hP (by omega) (by omega) hX0.pc (fun m1 s1 fs1 e8 => ?_))
  have f1 : zFT mem m1 := f0.trans ⟨fun i a b => by
    by_cases e : i = 244
    · rw [e]; exact e8
    · exact fs1 i (by omega), fun j a => by rw [fs1 234 (by decide)]⟩
  have hX1 := hX.ft f1
  have hT1 := hT.ft f1
  have e11 : m1 1 1 = mem 1 1 := by rw [f1.1 1 (by decide) (by decide)]
  have e244 : m1 244 = mem 244 := f1.1 244 (by decide) (by decide)
  refine v_chk hX1 hT1 hP (by omega) (fun h1 => ⟨by decide, fun q => absurd q (by decide), fun _ => ?_⟩) (fun h => ⟨by decide, fun _ => k0 (fun c => h (by rw [e11]; exact c.1)) m1 f1, fun q => absurd rfl q⟩)
  have TC1 : TC rf m1 p pl sc tb := ⟨hX1, hT1, h1.1⟩
  rw [e11] at h1
  have c1 : m1 234 3 = 0 := by rw [fs1 234 (by decide), zup_at]
  refine v_time TC1 hP (by omega) c1 (fun h2 m2 c2 t0 t1 fr2 ro2 f2 => ⟨by decide, fun q => absurd q (by decide), fun _ => ?_⟩) (fun h m2 f2 => ⟨by decide, fun _ => k0 (fun c => h c.2.1) m2 (f1.trans f2), fun q => absurd rfl q⟩)
  have TC2 := TC1.ft f2
  refine v_doors TC2 hP (by omega) c2 (fun h3 m3 c3 t2 fr3 ro3 f3 => ⟨by decide, fun q => absurd q (by decide), fun _ => ?_⟩) (fun h m3 f3 => ⟨by decide, fun _ => k0 (fun c => h c.2.2.1) m3 (f1.trans (f2.trans f3)), fun q => absurd rfl q⟩)
  have TC3 := TC2.ft f3
  refine v_heirs TC3 hP (by omega) c3 (fun h4 m4 c4 t37 ro4 f4 => ⟨by decide, fun q => absurd q (by decide), fun _ => ?_⟩) (fun h m4 f4 => ⟨by decide, fun _ => k0 (fun c => h c.2.2.2.1) m4 (f1.trans (f2.trans (f3.trans f4))), fun q => absurd rfl q⟩)
  have TC4 := TC3.ft f4
  refine v_bubs TC4 hP (by omega) c4 (fun h5 m5 c5 B5 => ⟨by decide, fun q => absurd q (by decide), fun _ => ?_⟩) (fun h m5 f5 => ⟨by decide, fun _ => k0 (fun c => h c.2.2.2.2.1) m5 (f1.trans (f2.trans (f3.trans (f4.trans f5)))), fun q => absurd rfl q⟩)
  have f5 := B5.2.2.2.2
  have TC5 := TC4.ft f5
  have F5 := f1.trans (f2.trans (f3.trans (f4.trans f5)))
  have rows4 : ∀ i, 238 ≤ i → m4 i = m1 i := fun i hi => by rw [ro4 i (by omega) (by omega), ro3 i (by omega) (by omega), ro2 i (by omega) (by omega)]
  have h41 : ∀ k : Int, 0 ≤ k → k < 6 → m5 241 k.toNat = if k < pl 1 2 then tb (oB pl + 5 * k + 4).toNat else 0 := by
    intro k a b
    by_cases e : k < pl 1 2
    · rw [if_pos e]
      exact B5.2.1 5 k (by decide) (by decide) a e
    · rw [if_neg e]
      have e5 : m5 241 k.toNat = m4 241 k.toNat := B5.2.2.1 5 k (by decide) (by decide) (by omega) b
      rw [e5, rows4 241 (by decide)]
      have := s1 5 k.toNat (by unfold zdom; omega)
      show m1 (236 + 5) k.toNat = 0
      rw [this]
      show (if ((k.toNat : Nat) : Int) < pl 1 2 then zshl 1 ((k.toNat : Nat) : Int) else (0 : Int)) = 0
      rw [if_neg (by omega)]
  obtain ⟨d, rfl⟩ : ∃ e, d = e + 1 := ⟨d - 1, by omega⟩
  refine s_images_readDeeds hX.r hX.p (v_deeds_2 (m0 := m5) hP (by omega) h5 h41 (fun h6 m6 D6 => ⟨by decide, fun q => absurd q (by decide), fun _ => ?_⟩) (fun h m6 f6 => ⟨by decide, fun _ => k0 (fun c => h c.2.2.2.2.2) m6 (F5.trans f6), fun q => absurd rfl q⟩) (pl 1 2).toNat TC5 (by decide) (by omega) (by rw [c5]; omega) ⟨fun k a b => by omega, fun k a b => ⟨rfl, rfl⟩, fun i _ _ _ => rfl, zFT.rfl⟩ (fun k a b => by omega))
  refine k1 ⟨h1, h2, h3, h4, h5, h6⟩ m6 ?_ (F5.trans D6.2.2.2)
  have r6 : ∀ i, i ≠ 234 → (i < 242 ∨ 243 < i) → m6 i = m5 i := fun i a b => D6.2.2.1 i a (by omega) (by omega)
  have r5 : ∀ i, i ≠ 234 → (i < 238 ∨ 241 < i) → m5 i = m4 i := B5.2.2.2.1
  intro s k hz
  have hs : s = 0 ∨ s = 1 ∨ s = 2 ∨ (3 ≤ s ∧ s ≤ 5) ∨ s = 6 ∨ s = 7 ∨ s = 8 := by unfold zdom at hz; omega
  have tk : ((k : Nat) : Int).toNat = k := Int.toNat_natCast k
  rcases hs with rfl | rfl | rfl | hs | rfl | rfl | rfl
  · show m6 236 k = _
    rw [r6 236 (by decide) (by decide), r5 236 (by decide) (by decide), ro4 236 (by decide) (by decide)]
    have hk : k = 0 ∨ k = 1 ∨ k = 2 ∨ k = 11 := by unfold zdom at hz; omega
    rcases hk with rfl | rfl | rfl | rfl
    · rw [fr3 0 (by decide), t0]; rfl
    · rw [fr3 1 (by decide), t1]; rfl
    · rw [t2]; rfl
    · rw [fr3 11 (by decide), fr2 11 (by decide) (by decide)]
      have := s1 0 11 (by unfold zdom; omega)
      exact this
  · have hk : k < 6 := by unfold zdom at hz; omega
    show m6 237 k = if ((k : Nat) : Int) < pl 1 1 then oC pl tb (oH pl + 2 * ((k : Nat) : Int)) else -1
    rw [r6 237 (by decide) (by decide), r5 237 (by decide) (by decide)]
    have := t37 (k : Int) (by omega) (by omega)
    rw [tk] at this
    exact this
  · have hk : k < 6 := by unfold zdom at hz; omega
    show m6 238 k = if ((k : Nat) : Int) < pl 1 2 then oC pl tb (oB pl + 5 * ((k : Nat) : Int)) else -1
    rw [r6 238 (by decide) (by decide)]
    have := B5.1 (k : Int) (by omega) (by omega)
    rw [tk] at this
    exact this
  · have hk : k < 6 := by unfold zdom at hz; omega
    have eS : oS pl tb (mem 244) s k = if ((k : Nat) : Int) < pl 1 2 then tb (oB pl + 5 * ((k : Nat) : Int) + ((s : Int) - 1)).toNat else 0 := by
      unfold oS
      rw [if_neg (by omega), if_neg (by omega), if_neg (by omega), if_neg (by omega), if_neg (by omega), if_neg (by omega)]
    rw [eS, r6 (236 + s) (by omega) (by omega)]
    by_cases e : ((k : Nat) : Int) < pl 1 2
    · rw [if_pos e]
      have := B5.2.1 s (k : Int) hs.1 hs.2 (by omega) e
      rw [tk] at this
      exact this
    · rw [if_neg e]
      have h9 := B5.2.2.1 s (k : Int) hs.1 hs.2 (by omega) (by omega)
      rw [tk] at h9
      rw [h9, rows4 (236 + s) (by omega), s1 s k hz]
      have h345 : s = 3 ∨ s = 4 ∨ s = 5 := by omega
      rcases h345 with rfl | rfl | rfl
      · show (if ((k : Nat) : Int) < pl 1 2 then pl 7 k else (0 : Int)) = 0
        rw [if_neg e]
      · show (if ((k : Nat) : Int) < pl 1 2 then pl 8 k else (0 : Int)) = 0
        rw [if_neg e]
      · show (if ((k : Nat) : Int) < pl 1 2 then zshl 1 ((k : Nat) : Int) else (0 : Int)) = 0
        rw [if_neg e]
  · have hk : k < 6 := by unfold zdom at hz; omega
    show m6 242 k = if ((k : Nat) : Int) < pl 1 2 then (if tb (oD pl + 3 * ((k : Nat) : Int)).toNat = 255 then -1 else tb (oD pl + 3 * ((k : Nat) : Int)).toNat) else -1
    by_cases e : ((k : Nat) : Int) < pl 1 2
    · rw [if_pos e]
      have := (D6.1 (k : Int) (by omega) e).1
      rw [tk] at this
      exact this
    · rw [if_neg e]
      have h9 := (D6.2.1 (k : Int) (by omega) (by omega)).1
      rw [tk] at h9
      rw [h9, r5 242 (by decide) (by decide), rows4 242 (by decide)]
      exact s1 6 k hz
  · have hk : k < 6 := by unfold zdom at hz; omega
    show m6 243 k = if ((k : Nat) : Int) < pl 1 2 then 256 * tb (oD pl + 3 * ((k : Nat) : Int) + 1).toNat + tb (oD pl + 3 * ((k : Nat) : Int) + 2).toNat else 0
    by_cases e : ((k : Nat) : Int) < pl 1 2
    · rw [if_pos e]
      have := (D6.1 (k : Int) (by omega) e).2
      rw [tk] at this
      exact this
    · rw [if_neg e]
      have h9 := (D6.2.1 (k : Int) (by omega) (by omega)).2
      rw [tk] at h9
      rw [h9, r5 243 (by decide) (by decide), rows4 243 (by decide)]
      exact s1 7 k hz
  · show m6 244 k = mem 244 k
    rw [r6 244 (by decide) (by decide), r5 244 (by decide) (by decide), rows4 244 (by decide), e244]
end TOLD2
