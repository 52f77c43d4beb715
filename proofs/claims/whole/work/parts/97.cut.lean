/-! the program's tokens: words and numbers -/
def tL (tb : Nat → Int) : Nat → Int → List Int
  | 0, _ => []
  | k + 1, x => (tb x.toNat - 96) :: tL tb k (x + 1)
theorem tL_len {tb : Nat → Int} : ∀ (k : Nat) (x : Int), (tL tb k x).length = k
  | 0, _ => rfl
  | k + 1, x => by
    show (tL tb k (x + 1)).length + 1 = k + 1
    rw [tL_len k (x + 1)]
theorem tL_snoc {tb : Nat → Int} : ∀ (k : Nat) (x : Int), tL tb (k + 1) x = tL tb k x ++ [tb (x + k).toNat - 96]
  | 0, x => by
    show [tb x.toNat - 96] = [tb (x + 0).toNat - 96]
    rw [Int.add_zero]
  | k + 1, x => by
    have := tL_snoc (tb := tb) k (x + 1)
    show (tb x.toNat - 96) :: tL tb (k + 1) (x + 1) = (tb x.toNat - 96) :: (tL tb k (x + 1) ++ [tb (x + ((k + 1 : Nat) : Int)).toNat - 96])
    rw [this]
    have e : x + 1 + (k : Int) = x + ((k + 1 : Nat) : Int) := by omega
    rw [e]
theorem tL_w {tb : Nat → Int} : ∀ (k : Nat) (x w : Int), zn8 w (tL tb k x) = tW tb k x w
  | 0, _, _ => rfl
  | k + 1, x, w => by
    show zn8 (256 * w + 96 + (tb x.toNat - 96)) (tL tb k (x + 1)) = tW tb k (x + 1) (256 * w + tb x.toNat)
    have e : 256 * w + 96 + (tb x.toNat - 96) = 256 * w + tb x.toNat := by omega
    rw [e, tL_w k]
theorem zn5_snoc (l : Int) : ∀ L : List Int, zn5 (L ++ [l]) = zn5 L + 32 ^ L.length * l
  | [] => by
    show l + 32 * 0 = 0 + 32 ^ 0 * l
    rw [Int.pow_zero]
    omega
  | a :: L => by
    have ih := zn5_snoc l L
    show a + 32 * zn5 (L ++ [l]) = a + 32 * zn5 L + 32 ^ (L.length + 1) * l
    rw [ih, Int.pow_succ, Int.mul_add, Int.mul_assoc, Int.mul_comm (32 ^ L.length) (32 * l), Int.mul_assoc, Int.mul_comm l]
    omega
theorem tL_in {tb : Nat → Int} : ∀ (k : Nat) (x : Int), (∀ i : Int, x ≤ i → i < x + k → zisL (tb i.toNat) = true) → ∀ l ∈ tL tb k x, 1 ≤ l ∧ l ≤ 26
  | 0, _, _, l, hl => by cases hl
  | k + 1, x, h, l, hl => by
    rcases List.mem_cons.mp hl with e | e
    · have := of_decide_eq_true (h x (by omega) (by omega))
      omega
    · exact tL_in k (x + 1) (fun i a b => h i (by omega) (by omega)) l e
theorem zbits_tab : ∀ k : Fin 6, ∀ l : Fin 27, zshl (l.val : Int) (5 * (k.val : Int)) = ((2 ^ (5 * k.val) * l.val : Nat) : Int) := by decide +kernel
/-- a letter more to the bits of a word -/
theorem zbits {a l : Int} {k : Nat} (hk : k < 6) (ha : 0 ≤ a ∧ a < 32 ^ k) (hl : 0 ≤ l ∧ l ≤ 26) : zor a (zshl l (5 * (k : Int))) = a + 32 ^ k * l := by
  have h := zbits_tab ⟨k, hk⟩ ⟨l.toNat, by omega⟩
  simp only at h
  rw [Int.toNat_of_nonneg hl.1] at h
  have p5 : ∀ j : Nat, (2 : Nat) ^ (5 * j) = 32 ^ j := fun j => by rw [Nat.pow_mul]
  have ha2 : a = ((a.toNat : Nat) : Int) := (Int.toNat_of_nonneg ha.1).symm
  have hlt : a.toNat < 2 ^ (5 * k) := by
    rw [p5]
    have : ((a.toNat : Nat) : Int) < ((32 ^ k : Nat) : Int) := by
      rw [← ha2]
      have e : ((32 ^ k : Nat) : Int) = (32 : Int) ^ k := by rw [Int.natCast_pow]; rfl
      rw [e]
      exact ha.2
    omega
  have bnd : 2 ^ (5 * k) ≤ 33554432 := by
    have : 2 ^ (5 * k) ≤ 2 ^ 25 := Nat.pow_le_pow_right (by decide) (by omega)
    exact this
  have b2 : 2 ^ (5 * k) * l.toNat ≤ 33554432 * 26 := Nat.mul_le_mul bnd (by omega)
  rw [h, ha2, zor_n (by omega) (by omega), Nat.or_comm, ← Nat.two_pow_add_eq_or_of_lt hlt]
  have e : ((32 : Int) ^ k) = ((32 ^ k : Nat) : Int) := by rw [Int.natCast_pow]; rfl
  rw [← ha2, e, ← p5]
  have e2 : ((2 ^ (5 * k) : Nat) : Int) * l = ((2 ^ (5 * k) * l.toNat : Nat) : Int) := by
    rw [Int.natCast_mul, Int.toNat_of_nonneg hl.1]
  rw [e2]
  omega
