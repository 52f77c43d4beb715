/-! the reference's next token -/
def tW (tb : Nat → Int) : Nat → Int → Int → Int
  | 0, _, w => w
  | k + 1, x, w => tW tb k (x + 1) (256 * w + tb x.toNat)
def tV (tb : Nat → Int) : Nat → Int → Int → Int
  | 0, _, w => w
  | k + 1, x, w => tV tb k (x + 1) (10 * w + tb x.toNat - 48)
/-- the frame of a token of the reference -/
def zFA (mem mem' : zF) : Prop := (∀ i, i ≠ 261 → mem' i = mem i) ∧ ∀ j, j ≠ 3 → j ≠ 4 → j ≠ 5 → j ≠ 6 → j ≠ 7 → j ≠ 12 → mem' 261 j = mem 261 j
theorem zFA.rfl {a : zF} : zFA a a := ⟨fun _ _ => Eq.refl _, fun _ _ _ _ _ _ _ => Eq.refl _⟩
theorem zFA.trans {a b c : zF} (h1 : zFA a b) (h2 : zFA b c) : zFA a c := ⟨fun i x => (h2.1 i x).trans (h1.1 i x), fun j p q r s t u => (h2.2 j p q r s t u).trans (h1.2 j p q r s t u)⟩
theorem zFA.up {a b : zF} {j : Nat} {v : Int} (h : zFA a b) (hj : j = 3 ∨ j = 4 ∨ j = 5 ∨ j = 6 ∨ j = 7 ∨ j = 12) : zFA a (zup b 261 j v) := ⟨fun i x => by rw [zup_row _ _ _ x]; exact h.1 i x, fun k p q r s t u => by rw [zup_ne _ _ _ _ (by omega)]; exact h.2 k p q r s t u⟩
