/-! NUMBERS: bits of small sets -/
def zbit (x k : Int) : Int := zand (zshr x k) 1
theorem zbit_tab : ∀ x : Fin 64, ∀ k : Fin 6, zbit (x.val : Int) (k.val : Int) = if (x.val).testBit k.val then 1 else 0 := by decide +kernel
theorem zbit_eq {x k : Int} (hx : 0 ≤ x ∧ x < 64) (hk : 0 ≤ k ∧ k < 6) : zbit x k = if x.toNat.testBit k.toNat then 1 else 0 := by
  have h := zbit_tab ⟨x.toNat, by omega⟩ ⟨k.toNat, by omega⟩
  simp only at h
  rw [Int.toNat_of_nonneg hx.1, Int.toNat_of_nonneg hk.1] at h
  exact h
theorem zbit_01 {x k : Int} (hx : 0 ≤ x ∧ x < 64) (hk : 0 ≤ k ∧ k < 6) : zbit x k = 0 ∨ zbit x k = 1 := by
  rw [zbit_eq hx hk]
  split
  · exact Or.inr rfl
  · exact Or.inl rfl
/-! THE REFERENCE'S LEAVES: what they answer -/
section LEAF
variable {X : zX} {d : Nat} {rf mem : zF} {Q : Int → zF → Prop}
theorem t_is (hR : zall rf zRK = true) {a b c : Int} (ha : inI a) (hb : inI b) (hc : inI c) (k : Q (if b ≤ a ∧ a ≤ c then 1 else 0) mem) : Ci X d 194 [(0, a), (0, b), (0, c)] rf mem Q :=
  s_m_is hR ⟨⟨ha, hb⟩, fun q => by rwa [if_neg (by omega)] at k, fun q => ⟨⟨ha, hc⟩, fun q2 => by rwa [if_neg (by omega)] at k, fun q2 => by rwa [if_pos (by omega)] at k⟩⟩
theorem t_has2 (hR : zall rf zRK = true) {a b : Int} (ha : 0 ≤ a ∧ a < 64) (hb : 0 ≤ b ∧ b < 6) (k : Q (zbit a b) mem) : Ci X d 223 [(0, a), (0, b)] rf mem Q := by
  have h01 := zbit_01 ha hb
  unfold zbit at h01 k
  refine s_m_has2 hR ⟨?_, fun q => ?_, fun q => ?_⟩
  · omega
  · have : zand (zshr a b) 1 = 0 := by omega
    rwa [this] at k
  · rwa [q] at k
theorem t_floats (hR : zall rf zRK = true) {v b : Int} (h : 0 ≤ 6 * v + b ∧ 6 * v + b < 132) (hi : inI (mem 297 (6 * v + b).toNat)) (k : Q (if mem 297 (6 * v + b).toNat = -1 then 0 else 1) mem) : Ci X d 258 [(2, 261), (0, v), (0, b)] rf mem Q :=
  s_m_floats hR ⟨h, hi, fun q => by rwa [if_pos q] at k, fun q => by rwa [if_neg q] at k⟩
/-- the room's cells -/
def zcellAt (C R x y : Int) : Int := if 0 ≤ x ∧ x < C ∧ 0 ≤ y ∧ y < R then 8 * y + x else -1
theorem t_isCell (hR : zall rf zRK = true) {x y C R : Int} (hx : inI x) (hy : inI y) (hb : 0 ≤ mem 261 13 ∧ mem 261 13 < 2) (hC : mem 263 (mem 261 13).toNat = C) (hRR : mem 264 (mem 261 13).toNat = R) (hr : mem 261 50 = 0 ∨ mem 261 50 = 1) (hC0 : 0 ≤ C ∧ C ≤ 7) (hR0 : 0 ≤ R ∧ R ≤ 7) (k : Q (if mem 261 50 = 1 ∧ zcellAt C R x y ≠ -1 then 1 else 0) mem) : Ci X (d + 1) 253 [(2, 261), (0, x), (0, y)] rf mem Q := by
  refine s_m_isCell hR ⟨by omega, fun q => ?_, fun q => ⟨hb, ?_⟩⟩
  · rwa [if_neg (by omega)] at k
  · have h1 : mem 261 50 = 1 := by omega
    refine t_is hR hx (by decide) (by rw [hC]; omega) ?_
    rw [hC]
    by_cases c1 : 0 ≤ x ∧ x ≤ C - 1
    · rw [if_pos c1]
      refine ⟨by decide, fun q => absurd q (by decide), fun _ => ⟨hb, ?_⟩⟩
      refine t_is hR hy (by decide) (by rw [hRR]; omega) ?_
      rw [hRR]
      by_cases c2 : 0 ≤ y ∧ y ≤ R - 1
      · rw [if_pos c2]
        refine ⟨by decide, fun q => absurd q (by decide), fun _ => ?_⟩
        have h2 : zcellAt C R x y = 8 * y + x := by unfold zcellAt; rw [if_pos (by omega)]
        rwa [if_pos ⟨h1, by omega⟩] at k
      · rw [if_neg c2]
        refine ⟨by decide, fun _ => ?_, fun q => absurd rfl q⟩
        have h2 : zcellAt C R x y = -1 := by unfold zcellAt; rw [if_neg (by omega)]
        rwa [if_neg (by omega)] at k
    · rw [if_neg c1]
      refine ⟨by decide, fun _ => ?_, fun q => absurd rfl q⟩
      have h2 : zcellAt C R x y = -1 := by unfold zcellAt; rw [if_neg (by omega)]
      rwa [if_neg (by omega)] at k
end LEAF
