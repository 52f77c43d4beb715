/-! one more door, heir, bubble -/
def GrowP (pl pl' : zF) (so : Nat) (nm c : Int) : Prop :=
  pl' 0 = pl 0 ∧ (pl' 1 so = pl 1 so + 1 ∧ ∀ j, j ≠ so → pl' 1 j = pl 1 j) ∧
  (pl' 2 (6 * (so : Int) + pl 1 so).toNat = nm ∧ ∀ j, j ≠ (6 * (so : Int) + pl 1 so).toNat → pl' 2 j = pl 2 j) ∧
  (pl' 3 (6 * (so : Int) + pl 1 so).toNat = c ∧ ∀ j, j ≠ (6 * (so : Int) + pl 1 so).toNat → pl' 3 j = pl 3 j) ∧
  (∀ i, 4 ≤ i → i ≤ 8 → ∀ j, j ≠ (pl 1 so).toNat → pl' i j = pl i j) ∧ ((so ≠ 0 → pl' 4 = pl 4 ∧ pl' 5 = pl 5) ∧ (so ≠ 1 → pl' 6 = pl 6) ∧ (so ≠ 2 → pl' 7 = pl 7 ∧ pl' 8 = pl 8)) ∧ pl' 11 = pl 11 ∧ pl' 12 = pl 12
def zcr (so : Nat) : Nat := if so = 0 then 266 else if so = 1 then 271 else 274
theorem RQ.grow {mem mem' pl pl' : zF} {b nm c : Int} {so : Nat} (h : RQ mem b pl) (hb : 0 ≤ b ∧ b < 2) (hso : so < 3) (hn : WP pl) (hcnt : pl 1 so < 6) (G : GrowP pl pl' so nm c) (m1 : ∀ a, a ≠ zcr so → mem' a = mem a) (m2 : mem' (zcr so) b.toNat = pl 1 so + 1) (nr : NR nm (mem (283 + so) (6 * b + pl 1 so).toNat)) (at0 : so = 0 → mem 267 (6 * b + pl 1 0).toNat = c ∧ mem 268 (6 * b + pl 1 0).toNat = pl' 4 (pl 1 0).toNat ∧ mem 269 (6 * b + pl 1 0).toNat = pl' 5 (pl 1 0).toNat) (at1 : so = 1 → mem 272 (6 * b + pl 1 1).toNat = c ∧ mem 273 (6 * b + pl 1 1).toNat = pl' 6 (pl 1 1).toNat) (at2 : so = 2 → mem 275 (6 * b + pl 1 2).toNat = c ∧ mem 276 (6 * b + pl 1 2).toNat = pl' 7 (pl 1 2).toNat ∧ mem 277 (6 * b + pl 1 2).toNat = pl' 8 (pl 1 2).toNat) : RQ mem' b pl' := by
  obtain ⟨q1, q2, q3, q4, q5, q6, q7, q8⟩ := h
  obtain ⟨g0, ⟨g1, g1'⟩, ⟨g2, g2'⟩, ⟨g3, g3'⟩, g4, ⟨g5, g6, g7⟩, g8, g9⟩ := G
  have hN := hn.n
  have zr : ∀ a, a ≠ 266 → a ≠ 271 → a ≠ 274 → mem' a = mem a := fun a x y z => m1 a (by
    unfold zcr
    split
    · exact x
    · split
      · exact y
      · exact z)
  have e3 : so = 0 ∨ so = 1 ∨ so = 2 := by omega
  refine ⟨by rw [zr 263 (by decide) (by decide) (by decide), zr 264 (by decide) (by decide) (by decide), g0]; exact q1, by rw [zr 265 (by decide) (by decide) (by decide), zr 278 (by decide) (by decide) (by decide), zr 270 (by decide) (by decide) (by decide), g0]; exact q2, ?_, ?_, ?_, ?_, ?_, by rw [zr 279 (by decide) (by decide) (by decide), zr 280 (by decide) (by decide) (by decide), g8, g9]; exact q8⟩
  · rcases e3 with rfl | rfl | rfl
    · rw [g1, g1' 1 (by decide), g1' 2 (by decide), m1 271 (by decide), m1 274 (by decide)]
      exact ⟨m2, q3.2⟩
    · rw [g1, g1' 0 (by decide), g1' 2 (by decide), m1 266 (by decide), m1 274 (by decide)]
      exact ⟨q3.1, m2, q3.2.2⟩
    · rw [g1, g1' 0 (by decide), g1' 1 (by decide), m1 266 (by decide), m1 271 (by decide)]
      exact ⟨q3.1, q3.2.1, m2⟩
  · intro k k0 k1
    rw [zr 267 (by decide) (by decide) (by decide), zr 268 (by decide) (by decide) (by decide), zr 269 (by decide) (by decide) (by decide)]
    rcases e3 with rfl | rfl | rfl
    · rw [g1] at k1
      by_cases x : k = pl 1 0
      · have := at0 rfl
        have ej : (6 * ((0 : Nat) : Int) + pl 1 0).toNat = (pl 1 0).toNat := by omega
        rw [ej] at g3
        rw [x, g3]
        exact this
      · rw [g3' k.toNat (by omega), g4 4 (by decide) (by decide) k.toNat (by omega), g4 5 (by decide) (by decide) k.toNat (by omega)]
        exact q4 k k0 (by omega)
    · rw [g1' 0 (by decide)] at k1
      rw [g3' k.toNat (by omega), (g5 (by decide)).1, (g5 (by decide)).2]
      exact q4 k k0 k1
    · rw [g1' 0 (by decide)] at k1
      rw [g3' k.toNat (by omega), (g5 (by decide)).1, (g5 (by decide)).2]
      exact q4 k k0 k1
  · intro k k0 k1
    rw [zr 272 (by decide) (by decide) (by decide), zr 273 (by decide) (by decide) (by decide)]
    rcases e3 with rfl | rfl | rfl
    · rw [g1' 1 (by decide)] at k1
      rw [g3' (6 + k).toNat (by omega), g6 (by decide)]
      exact q5 k k0 k1
    · rw [g1] at k1
      by_cases x : k = pl 1 1
      · have := at1 rfl
        have ej : (6 * ((1 : Nat) : Int) + pl 1 1).toNat = (6 + pl 1 1).toNat := by omega
        rw [ej] at g3
        rw [x, g3]
        exact this
      · rw [g3' (6 + k).toNat (by omega), g4 6 (by decide) (by decide) k.toNat (by omega)]
        exact q5 k k0 (by omega)
    · rw [g1' 1 (by decide)] at k1
      rw [g3' (6 + k).toNat (by omega), g6 (by decide)]
      exact q5 k k0 k1
  · intro k k0 k1
    rw [zr 275 (by decide) (by decide) (by decide), zr 276 (by decide) (by decide) (by decide), zr 277 (by decide) (by decide) (by decide)]
    rcases e3 with rfl | rfl | rfl
    · rw [g1' 2 (by decide)] at k1
      rw [g3' (12 + k).toNat (by omega), (g7 (by decide)).1, (g7 (by decide)).2]
      exact q6 k k0 k1
    · rw [g1' 2 (by decide)] at k1
      rw [g3' (12 + k).toNat (by omega), (g7 (by decide)).1, (g7 (by decide)).2]
      exact q6 k k0 k1
    · rw [g1] at k1
      by_cases x : k = pl 1 2
      · have := at2 rfl
        have ej : (6 * ((2 : Nat) : Int) + pl 1 2).toNat = (12 + pl 1 2).toNat := by omega
        rw [ej] at g3
        rw [x, g3]
        exact this
      · rw [g3' (12 + k).toNat (by omega), g4 7 (by decide) (by decide) k.toNat (by omega), g4 8 (by decide) (by decide) k.toNat (by omega)]
        exact q6 k k0 (by omega)
  · intro so2 k hs2 k0 k1
    rw [zr (283 + so2) (by omega) (by omega) (by omega)]
    have hcs : 0 ≤ pl 1 so ∧ pl 1 so ≤ 6 := by rcases e3 with rfl | rfl | rfl <;> omega
    by_cases e : so2 = so
    · subst e
      rw [g1] at k1
      by_cases x : k = pl 1 so2
      · rw [x, g2]
        exact nr
      · rw [g2' _ (by omega)]
        exact q7 so2 k hs2 k0 (by omega)
    · rw [g1' so2 e] at k1
      have hc2 : pl 1 so2 ≤ 6 := by
        have : so2 = 0 ∨ so2 = 1 ∨ so2 = 2 := by omega
        rcases this with rfl | rfl | rfl <;> omega
      rw [g2' _ (by omega)]
      exact q7 so2 k hs2 k0 k1
theorem WX.grow {pl pl' : zF} {L : zC} {nm c : Int} {so : Nat} (h : WX pl L) (hso : so < 3) (hcnt : pl 1 so < 6) (G : GrowP pl pl' so nm c) (hnm : 0 ≤ nm ∧ nm < 1073741824) (hc : zic (pl 0 1) (pl 0 2) c) (at0 : so = 0 → (0 ≤ pl' 4 (pl 1 0).toNat ∧ pl' 4 (pl 1 0).toNat < 4) ∧ (1 ≤ pl' 5 (pl 1 0).toNat ∧ pl' 5 (pl 1 0).toNat ≤ 6)) (at1 : so = 1 → 0 ≤ pl' 6 (pl 1 1).toNat ∧ pl' 6 (pl 1 1).toNat ≤ 9) (at2 : so = 2 → (1 ≤ pl' 7 (pl 1 2).toNat ∧ pl' 7 (pl 1 2).toNat ≤ 99) ∧ (1 ≤ pl' 8 (pl 1 2).toNat ∧ pl' 8 (pl 1 2).toNat ≤ 9)) : WX pl' L := by
  obtain ⟨⟨hn, h3, hnames⟩, hru⟩ := h
  obtain ⟨g0, ⟨g1, g1'⟩, ⟨g2, g2'⟩, ⟨g3, g3'⟩, g4, ⟨g5, g6, g7⟩, g8, g9⟩ := G
  have hN := hn.n
  have e3 : so = 0 ∨ so = 1 ∨ so = 2 := by omega
  have hcs : 0 ≤ pl 1 so ∧ pl 1 so ≤ 6 := by rcases e3 with rfl | rfl | rfl <;> omega
  refine ⟨⟨⟨?_, Or.inr ?_, by rw [g0]; exact hn.lamp, by rw [g0]; exact hn.breath, by rw [g0]; exact hn.opn, ?_, ?_, ?_, trivial, by rw [g0]; exact hn.stm⟩, by rw [g0]; exact h3, ?_⟩, fun r hr => ?_⟩
  · rcases e3 with rfl | rfl | rfl
    · rw [g1, g1' 1 (by decide), g1' 2 (by decide)]; omega
    · rw [g1, g1' 0 (by decide), g1' 2 (by decide)]; omega
    · rw [g1, g1' 0 (by decide), g1' 1 (by decide)]; omega
  · rw [g0]
    have := hn.c0
    omega
  · intro k k0 k1
    rw [g0]
    rcases e3 with rfl | rfl | rfl
    · rw [g1] at k1
      by_cases x : k = pl 1 0
      · have := at0 rfl
        have ej : (6 * ((0 : Nat) : Int) + pl 1 0).toNat = (pl 1 0).toNat := by omega
        rw [ej] at g3
        rw [x, g3]
        exact ⟨hc, this⟩
      · rw [g3' k.toNat (by omega), g4 4 (by decide) (by decide) k.toNat (by omega), g4 5 (by decide) (by decide) k.toNat (by omega)]
        exact hn.door k0 (by omega)
    · rw [g1' 0 (by decide)] at k1
      rw [g3' k.toNat (by omega), (g5 (by decide)).1, (g5 (by decide)).2]
      exact hn.door k0 k1
    · rw [g1' 0 (by decide)] at k1
      rw [g3' k.toNat (by omega), (g5 (by decide)).1, (g5 (by decide)).2]
      exact hn.door k0 k1
  · intro k k0 k1
    rw [g0]
    rcases e3 with rfl | rfl | rfl
    · rw [g1' 1 (by decide)] at k1
      rw [g3' (6 + k).toNat (by omega), g6 (by decide)]
      exact hn.heir k0 k1
    · rw [g1] at k1
      by_cases x : k = pl 1 1
      · have := at1 rfl
        have ej : (6 * ((1 : Nat) : Int) + pl 1 1).toNat = (6 + pl 1 1).toNat := by omega
        rw [ej] at g3
        rw [x, g3]
        exact ⟨hc, this⟩
      · rw [g3' (6 + k).toNat (by omega), g4 6 (by decide) (by decide) k.toNat (by omega)]
        exact hn.heir k0 (by omega)
    · rw [g1' 1 (by decide)] at k1
      rw [g3' (6 + k).toNat (by omega), g6 (by decide)]
      exact hn.heir k0 k1
  · intro k k0 k1
    rw [g0]
    rcases e3 with rfl | rfl | rfl
    · rw [g1' 2 (by decide)] at k1
      rw [g3' (12 + k).toNat (by omega), (g7 (by decide)).1, (g7 (by decide)).2]
      exact hn.bub k0 k1
    · rw [g1' 2 (by decide)] at k1
      rw [g3' (12 + k).toNat (by omega), (g7 (by decide)).1, (g7 (by decide)).2]
      exact hn.bub k0 k1
    · rw [g1] at k1
      by_cases x : k = pl 1 2
      · have := at2 rfl
        have ej : (6 * ((2 : Nat) : Int) + pl 1 2).toNat = (12 + pl 1 2).toNat := by omega
        rw [ej] at g3
        rw [x, g3]
        exact ⟨hc, this⟩
      · rw [g3' (12 + k).toNat (by omega), g4 7 (by decide) (by decide) k.toNat (by omega), g4 8 (by decide) (by decide) k.toNat (by omega)]
        exact hn.bub k0 (by omega)
  · intro so2 k s0 s1 k0 k1
    have es : ((so2.toNat : Nat) : Int) = so2 := Int.toNat_of_nonneg s0
    by_cases e : so2.toNat = so
    · subst e
      rw [g1] at k1
      rw [es] at g2 g2'
      by_cases x : k = pl 1 so2.toNat
      · rw [x, g2]; exact hnm
      · rw [g2' _ (by omega)]
        exact hnames so2 k s0 s1 k0 (by omega)
    · rw [g1' _ e] at k1
      have hc2 : pl 1 so2.toNat ≤ 6 := by
        have : so2.toNat = 0 ∨ so2.toNat = 1 ∨ so2.toNat = 2 := by omega
        rcases this with x | x | x <;> rw [x] <;> omega
      rw [g2' _ (by omega)]
      exact hnames so2 k s0 s1 k0 k1
  · have := hru r hr
    unfold RuOK at this ⊢
    rw [g8, g9]
    exact this
theorem aAdd_G {pl : zF} {so : Nat} {nm c : Int} : aAdd pl (so : Int) nm c 0 = pl 0 ∧ (aAdd pl (so : Int) nm c 1 so = pl 1 so + 1 ∧ ∀ j, j ≠ so → aAdd pl (so : Int) nm c 1 j = pl 1 j) ∧ (aAdd pl (so : Int) nm c 2 (6 * (so : Int) + pl 1 so).toNat = nm ∧ ∀ j, j ≠ (6 * (so : Int) + pl 1 so).toNat → aAdd pl (so : Int) nm c 2 j = pl 2 j) ∧ (aAdd pl (so : Int) nm c 3 (6 * (so : Int) + pl 1 so).toNat = c ∧ ∀ j, j ≠ (6 * (so : Int) + pl 1 so).toNat → aAdd pl (so : Int) nm c 3 j = pl 3 j) ∧ ∀ i, 4 ≤ i → aAdd pl (so : Int) nm c i = pl i := by
  have e : ((so : Int)).toNat = so := Int.toNat_natCast so
  unfold aAdd
  rw [e]
  refine ⟨?_, ⟨zup_at _ _ _ _, fun j hj => ?_⟩, ⟨?_, fun j hj => ?_⟩, ⟨?_, fun j hj => ?_⟩, fun i hi => ?_⟩
  · rw [zup_row _ _ _ (by decide), zup_row _ _ _ (by decide), zup_row _ _ _ (by decide)]
  · rw [zup_ne _ _ _ _ hj, zup_row _ _ _ (by decide), zup_row _ _ _ (by decide)]
  · rw [zup_row _ _ _ (by decide), zup_row _ _ _ (by decide), zup_at]
  · rw [zup_row _ _ _ (by decide), zup_row _ _ _ (by decide), zup_ne _ _ _ _ hj]
  · rw [zup_row _ _ _ (by decide), zup_at]
  · rw [zup_row _ _ _ (by decide), zup_ne _ _ _ _ hj, zup_row _ _ _ (by decide)]
  · rw [zup_row _ _ _ (by omega), zup_row _ _ _ (by omega), zup_row _ _ _ (by omega)]
/-- with rows x and y of its own -/
theorem GrowP.of {pl : zF} {so x y : Nat} {nm c v w : Int} (hx : (so = 0 ∧ x = 4 ∧ y = 5) ∨ (so = 2 ∧ x = 7 ∧ y = 8)) : GrowP pl (zup (zup (aAdd pl (so : Int) nm c) x (pl 1 so).toNat v) y (pl 1 so).toNat w) so nm c := by
  obtain ⟨a0, ⟨a1, a1'⟩, ⟨a2, a2'⟩, ⟨a3, a3'⟩, a4⟩ := aAdd_G (pl := pl) (so := so) (nm := nm) (c := c)
  have r : ∀ i, i ≠ x → i ≠ y → (zup (zup (aAdd pl (so : Int) nm c) x (pl 1 so).toNat v) y (pl 1 so).toNat w) i = aAdd pl (so : Int) nm c i := fun i h1 h2 => by rw [zup_row _ _ _ h2, zup_row _ _ _ h1]
  refine ⟨by rw [r 0 (by omega) (by omega)]; exact a0, by rw [r 1 (by omega) (by omega)]; exact ⟨a1, a1'⟩, by rw [r 2 (by omega) (by omega)]; exact ⟨a2, a2'⟩, by rw [r 3 (by omega) (by omega)]; exact ⟨a3, a3'⟩, fun i h1 h2 j hj => by rw [zup_ne _ _ _ _ hj, zup_ne _ _ _ _ hj, a4 i h1], ⟨fun h => ?_, fun h => ?_, fun h => ?_⟩, by rw [r 11 (by omega) (by omega)]; exact a4 11 (by decide), by rw [r 12 (by omega) (by omega)]; exact a4 12 (by decide)⟩
  · rw [r 4 (by omega) (by omega), r 5 (by omega) (by omega)]; exact ⟨a4 4 (by decide), a4 5 (by decide)⟩
  · rw [r 6 (by omega) (by omega)]; exact a4 6 (by decide)
  · rw [r 7 (by omega) (by omega), r 8 (by omega) (by omega)]; exact ⟨a4 7 (by decide), a4 8 (by decide)⟩
theorem GrowP.of1 {pl : zF} {nm c v : Int} : GrowP pl (zup (aAdd pl ((1 : Nat) : Int) nm c) 6 (pl 1 1).toNat v) 1 nm c := by
  obtain ⟨a0, ⟨a1, a1'⟩, ⟨a2, a2'⟩, ⟨a3, a3'⟩, a4⟩ := aAdd_G (pl := pl) (so := 1) (nm := nm) (c := c)
  have r : ∀ i, i ≠ 6 → (zup (aAdd pl ((1 : Nat) : Int) nm c) 6 (pl 1 1).toNat v) i = aAdd pl ((1 : Nat) : Int) nm c i := fun i h1 => by rw [zup_row _ _ _ h1]
  refine ⟨by rw [r 0 (by omega)]; exact a0, by rw [r 1 (by omega)]; exact ⟨a1, a1'⟩, by rw [r 2 (by omega)]; exact ⟨a2, a2'⟩, by rw [r 3 (by omega)]; exact ⟨a3, a3'⟩, fun i h1 h2 j hj => by rw [zup_ne _ _ _ _ hj, a4 i h1], ⟨fun h => ?_, fun h => absurd rfl h, fun h => ?_⟩, by rw [r 11 (by omega)]; exact a4 11 (by decide), by rw [r 12 (by omega)]; exact a4 12 (by decide)⟩
  · rw [r 4 (by omega), r 5 (by omega)]; exact ⟨a4 4 (by decide), a4 5 (by decide)⟩
  · rw [r 7 (by omega), r 8 (by omega)]; exact ⟨a4 7 (by decide), a4 8 (by decide)⟩
