/-! feed and feel -/
def tbA (tb : Nat → Int) (n x : Int) : Nat → Int := fun j => if (j : Int) < n then tb j else zand (zshr x (24 - 8 * ((j : Int) - n))) 255
def BY (mem : zF) (n : Int) (tb : Nat → Int) : Prop := mem 1 1 = n ∧ ∀ j : Nat, (j : Int) < n → zand (mem 2 j) 255 = tb j
def BR (mem : zF) (n : Int) (tb : Nat → Int) : Prop := mem 261 1 = n ∧ ∀ j : Nat, (j : Int) < n → mem 262 j = tb j
section FEED
variable {X : zX} {rf : zF} {d : Nat}
theorem u_add_3 {Q : zF → Prop} (hR : zall rf zRK = true) {x n0 : Int} {tb : Nat → Int} (h0 : 0 ≤ n0 ∧ n0 + 4 ≤ 1600) : ∀ (m : Nat) {mem : zF} {s : Int}, m ≤ 4 → s = 8 * (m : Int) - 8 → BY mem (n0 + 4 - m) (tbA tb n0 x) → (∀ mem', BY mem' (n0 + 4) (tbA tb n0 x) → (∀ a, a ≠ 1 → a ≠ 2 → mem' a = mem a) → Q mem') → L_tape_add_3 X d rf Q mem x s
  | 0, mem, s, hm, hs, hb, kk => by
    refine s_tape_add_3 hR ⟨by omega, fun _ => kk mem ?_ (fun _ _ _ => rfl), fun q => absurd (by omega) q⟩
    have e : n0 + 4 - ((0 : Nat) : Int) = n0 + 4 := by omega
    rwa [e] at hb
  | m + 1, mem, s, hm, hs, hb, kk => by
    have e1 := hb.1
    refine s_tape_add_3 hR ?_
    rw [e1]
    refine ⟨by omega, fun q => absurd q (by omega), fun _ => ⟨by omega, fun q => absurd q (by omega), fun _ => ⟨by omega, fun q => absurd q (by omega), fun _ => ⟨by omega, zi2b_rng _, ?_⟩⟩⟩⟩
    refine u_add_3 hR h0 m (by omega) (by omega) ⟨by rw [zup_at]; omega, fun j hj => ?_⟩ (fun m1 g1 f1 => kk m1 g1 (fun a a1 a2 => by rw [f1 a a1 a2, zup_row _ _ _ a1, zup_row _ _ _ a2]))
    rw [zup_row _ _ _ (by decide), zup_get]
    by_cases e : j = (n0 + 4 - ((m + 1 : Nat) : Int)).toNat
    · rw [if_pos ⟨rfl, e⟩, zi2b_255]
      unfold tbA
      rw [if_neg (by omega)]
      congr 2
      omega
    · rw [if_neg (fun q => e q.2)]
      exact hb.2 j (by omega)
theorem u_add {Q : zF → Prop} {mem : zF} (hR : zall rf zRK = true) {x n0 : Int} {tb : Nat → Int} (h0 : 0 ≤ n0 ∧ n0 + 4 ≤ 1600) (hb : BY mem n0 tb) (kk : ∀ mem', BY mem' (n0 + 4) (tbA tb n0 x) → (∀ a, a ≠ 1 → a ≠ 2 → mem' a = mem a) → Q mem') : Cv X d 124 [(2, 1), (0, x)] rf mem Q := by
  refine s_tape_add hR (u_add_3 (tb := tb) hR h0 4 (by decide) (by decide) ?_ kk)
  have e : n0 + 4 - ((4 : Nat) : Int) = n0 := by omega
  rw [e]
  refine ⟨hb.1, fun j hj => ?_⟩
  unfold tbA
  rw [if_pos hj]
  exact hb.2 j hj
theorem t_put_3 {Q : zF → Prop} (hR : zall rf zRK = true) {x n0 : Int} {tb : Nat → Int} (h0 : 0 ≤ n0 ∧ n0 + 4 ≤ 1600) : ∀ (m : Nat) {mem : zF} {s : Int}, m ≤ 4 → s = 8 * (m : Int) - 8 → BR mem (n0 + 4 - m) (tbA tb n0 x) → (∀ mem', BR mem' (n0 + 4) (tbA tb n0 x) → (∀ a, a ≠ 261 → a ≠ 262 → mem' a = mem a) → (∀ j, j ≠ 1 → mem' 261 j = mem 261 j) → Q mem') → L_m_put_3 X d rf Q mem x s
  | 0, mem, s, hm, hs, hb, kk => by
    refine s_m_put_3 hR ⟨by omega, fun _ => kk mem ?_ (fun _ _ _ => rfl) (fun _ _ => rfl), fun q => absurd (by omega) q⟩
    have e : n0 + 4 - ((0 : Nat) : Int) = n0 + 4 := by omega
    rwa [e] at hb
  | m + 1, mem, s, hm, hs, hb, kk => by
    have e1 := hb.1
    refine s_m_put_3 hR ?_
    rw [e1]
    refine ⟨by omega, fun q => absurd q (by omega), fun _ => ⟨by omega, ?_⟩⟩
    refine t_put_3 hR h0 m (by omega) (by omega) ⟨by rw [zup_at]; omega, fun j hj => ?_⟩ (fun m1 g1 f1 f2 => kk m1 g1 (fun a a1 a2 => by rw [f1 a a1 a2, zup_row _ _ _ a1, zup_row _ _ _ a2]) (fun j hj => by rw [f2 j hj, zup_ne _ _ _ _ hj, zup_row _ _ _ (by decide)]))
    rw [zup_row _ _ _ (by decide), zup_get]
    by_cases e : j = (n0 + 4 - ((m + 1 : Nat) : Int)).toNat
    · rw [if_pos ⟨rfl, e⟩]
      unfold tbA
      rw [if_neg (by omega)]
      congr 2
      omega
    · rw [if_neg (fun q => e q.2)]
      exact hb.2 j (by omega)
theorem t_put {Q : zF → Prop} {mem : zF} (hR : zall rf zRK = true) {x n0 : Int} {tb : Nat → Int} (h0 : 0 ≤ n0 ∧ n0 + 4 ≤ 1600) (hb : BR mem n0 tb) (kk : ∀ mem', BR mem' (n0 + 4) (tbA tb n0 x) → (∀ a, a ≠ 261 → a ≠ 262 → mem' a = mem a) → (∀ j, j ≠ 1 → mem' 261 j = mem 261 j) → Q mem') : Cv X d 195 [(2, 261), (0, x)] rf mem Q := by
  refine s_m_put hR (t_put_3 (tb := tb) hR h0 4 (by decide) (by decide) ?_ kk)
  have e : n0 + 4 - ((4 : Nat) : Int) = n0 := by omega
  rw [e]
  refine ⟨hb.1, fun j hj => ?_⟩
  unfold tbA
  rw [if_pos hj]
  exact hb.2 j hj
theorem tbA_rng {tb : Nat → Int} {n x : Int} (h : ∀ j : Nat, (j : Int) < n → 0 ≤ tb j ∧ tb j ≤ 255) (j : Nat) : 0 ≤ tbA tb n x j ∧ tbA tb n x j ≤ 255 := by
  unfold tbA
  split
  · next q => exact h j q
  · rw [zand255]; omega
end FEED
section FPAIR
variable {X : zX} {rf mem : zF} {p : Nat} {pl sc ft : zF} {hs : Int → zF} {c f u : Int} {tb : Nat → Int} {N : Int} {d : Nat}
theorem p_feed (h : G rf mem p pl sc ft hs c f u tb N) (hd : 20 ≤ d) {x1 x2 x3 x4 x5 : Int} : zPR X rf d mem 149 [(2, 0), (0, x1), (0, x2), (0, x3), (0, x4), (0, x5)] 196 [(2, 261), (0, x1), (0, x2), (0, x3), (0, x4), (0, x5)] (fun m2 => GI rf m2 (N + 1)) := by
  obtain ⟨d, rfl⟩ : ∃ e, d = e + 1 := ⟨d - 1, by omega⟩
  obtain ⟨hX, hP, hR, hH, hS, hO⟩ := id h
  have hT := hO.parts.2.1
  have hl := hT.2.1
  refine s_c_feed hX.r hX.p hX.f ⟨by omega, fun q => ?_, fun q => u_refusedN hX (by omega) (by decide) (both_refuse (k := 0) h (by decide) (by decide) (fun {Q} {m1} _ hf kk => ?_))⟩
  · refine u_add hX.r (n0 := mem 1 1) (tb := tb) (by omega) ⟨rfl, fun j hj => (hT.2.2 j hj).1⟩ ?_
    intro m1 b1 f1
    refine u_add hX.r (by omega) b1 ?_
    intro m2 b2 f2
    refine u_add hX.r (by omega) b2 ?_
    intro m3 b3 f3
    refine u_add hX.r (by omega) b3 ?_
    intro m4 b4 f4
    refine u_add hX.r (by omega) b4 ?_
    intro m5 b5 f5
    have fc : ∀ a, a ≠ 1 → a ≠ 2 → m5 a = mem a := fun a a1 a2 => by rw [f5 a a1 a2, f4 a a1 a2, f3 a a1 a2, f2 a a1 a2, f1 a a1 a2]
    refine s_m_feed hX.r ?_
    rw [fc 261 (by decide) (by decide), ← hT.1]
    refine ⟨by omega, fun _ => ?_, fun q2 => absurd q q2⟩
    refine t_put hX.r (n0 := mem 1 1) (tb := tb) (by omega) ⟨by rw [fc 261 (by decide) (by decide)]; exact hT.1.symm, fun j hj => by rw [fc 262 (by decide) (by decide)]; exact (hT.2.2 j hj).2.1⟩ ?_
    intro n1 c1 g1 k1
    refine t_put hX.r (by omega) c1 ?_
    intro n2 c2 g2 k2
    refine t_put hX.r (by omega) c2 ?_
    intro n3 c3 g3 k3
    refine t_put hX.r (by omega) c3 ?_
    intro n4 c4 g4 k4
    refine t_put hX.r (by omega) c4 ?_
    intro n5 c5 g5 k5
    have fr : ∀ a, a ≠ 261 → a ≠ 262 → n5 a = m5 a := fun a a1 a2 => by rw [g5 a a1 a2, g4 a a1 a2, g3 a a1 a2, g2 a a1 a2, g1 a a1 a2]
    have fs : ∀ j, j ≠ 1 → n5 261 j = mem 261 j := fun j hj => by rw [k5 j hj, k4 j hj, k3 j hj, k2 j hj, k1 j hj, fc 261 (by decide) (by decide)]
    have e1 : n5 1 1 = m5 1 1 := by rw [fr 1 (by decide) (by decide)]
    have e2 := b5.1
    have e3 := c5.1
    have r1 : ∀ j, 0 ≤ tbA tb (mem 1 1) x1 j ∧ tbA tb (mem 1 1) x1 j ≤ 255 := tbA_rng (fun j hj => ⟨(hT.2.2 j hj).2.2.1, (hT.2.2 j hj).2.2.2⟩)
    have r2 : ∀ j, 0 ≤ tbA (tbA tb (mem 1 1) x1) (mem 1 1 + 4) x2 j ∧ tbA (tbA tb (mem 1 1) x1) (mem 1 1 + 4) x2 j ≤ 255 := tbA_rng (fun j _ => r1 j)
    have r3 : ∀ j, 0 ≤ tbA (tbA (tbA tb (mem 1 1) x1) (mem 1 1 + 4) x2) (mem 1 1 + 4 + 4) x3 j ∧ tbA (tbA (tbA tb (mem 1 1) x1) (mem 1 1 + 4) x2) (mem 1 1 + 4 + 4) x3 j ≤ 255 := tbA_rng (fun j _ => r2 j)
    have r4 : ∀ j, 0 ≤ tbA (tbA (tbA (tbA tb (mem 1 1) x1) (mem 1 1 + 4) x2) (mem 1 1 + 4 + 4) x3) (mem 1 1 + 4 + 4 + 4) x4 j ∧ tbA (tbA (tbA (tbA tb (mem 1 1) x1) (mem 1 1 + 4) x2) (mem 1 1 + 4 + 4) x3) (mem 1 1 + 4 + 4 + 4) x4 j ≤ 255 := tbA_rng (fun j _ => r3 j)
    have rg := fun j => tbA_rng (n := mem 1 1 + 4 + 4 + 4 + 4) (x := x5) (fun j _ => r4 j) j
    refine ⟨⟨by omega, by omega⟩, by omega, (h.taped (mem' := n5) (fun i i1 i2 i3 i4 => by rw [fr i i3 i4, fc i i1 i2]) fs ⟨by omega, by omega, fun j hj => ⟨?_, c5.2 j (by omega), rg j⟩⟩).gi⟩
    rw [fr 2 (by decide) (by decide)]
    exact b5.2 j (by omega)
  · refine s_m_feed hX.r ?_
    rw [hf 261 (by decide), ← hT.1]
    exact ⟨by omega, fun q2 => absurd q2 q, fun _ => t_refuses hX.r (k := 0) (by decide) kk⟩
/-! what the tape tells -/
theorem u_at {Q : Int → zF → Prop} (hX : CX rf mem p pl sc) (hT : TP mem tb) {k : Int} (hk : inI k) (kk : Q (if 0 ≤ k ∧ k < mem 1 1 then tb k.toNat else -1) mem) : Ci X d 125 [(2, 1), (0, k)] rf mem Q := by
  have hl := hT.2.1
  refine s_tape_at hX.r ⟨hk, fun q => ?_, fun q => ⟨⟨hk, by omega⟩, fun q2 => ?_, fun q2 => ⟨hk, fun q3 => absurd q3 (by omega), fun q3 => ⟨by omega, ?_⟩⟩⟩⟩
  · rwa [if_neg (by omega)] at kk
  · rwa [if_neg (by omega)] at kk
  · rw [(hT.2.2 k.toNat (by omega)).1]
    rwa [if_pos (by omega)] at kk
end FPAIR
