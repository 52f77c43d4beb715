/-! a letter more to a word -/
theorem zlsl8 {w : Nat} (hw : w < 2 ^ 50) : (Int64.ofInt (w : Int) <<< ((Int32.ofInt 8).toInt64 &&& 63)).toBitVec.toNat = 2 ^ 8 * w := by
  have e : (Int64.ofInt (w : Int) <<< ((Int32.ofInt 8).toInt64 &&& 63)).toBitVec = BitVec.ofInt 64 (w : Int) <<< 8 := rfl
  have p64 : ((2 ^ 64 : Nat) : Int) = 18446744073709551616 := rfl
  have p64n : (2 : Nat) ^ 64 = 18446744073709551616 := rfl
  have p50 : (2 : Nat) ^ 50 = 1125899906842624 := rfl
  have a : ((w : Int) % 18446744073709551616).toNat = w := by omega
  rw [e, BitVec.toNat_shiftLeft, BitVec.toNat_ofInt, p64, a, Nat.shiftLeft_eq, p64n, Nat.mod_eq_of_lt (by omega), Nat.mul_comm]
theorem zltwo {w c : Int} (hw : 0 ≤ w ∧ w < 1125899906842624) (hc : 0 ≤ c ∧ c ≤ 255) : zlor (zlsl w 8) c = 256 * w + c := by
  have hw2 : w = ((w.toNat : Nat) : Int) := (Int.toNat_of_nonneg hw.1).symm
  have hc2 : c = ((c.toNat : Nat) : Int) := (Int.toNat_of_nonneg hc.1).symm
  have p50 : (2 : Nat) ^ 50 = 1125899906842624 := rfl
  have p64 : ((2 ^ 64 : Nat) : Int) = 18446744073709551616 := rfl
  have p64n : (2 : Nat) ^ 64 = 18446744073709551616 := rfl
  have h8 := zlsl8 (w := w.toNat) (by omega)
  have e0 : zlsl w 8 = ((2 ^ 8 * w.toNat : Nat) : Int) := by
    have e1 : zlsl w 8 = (Int64.ofInt w <<< ((Int32.ofInt 8).toInt64 &&& 63)).toBitVec.toInt := rfl
    rw [← hw2] at h8
    rw [e1, BitVec.toInt_eq_toNat_of_lt (by rw [h8, p64n]; omega), h8]
  have e2 : ∀ a b : Nat, a < 2 ^ 62 → b < 2 ^ 62 → zlor (a : Int) (b : Int) = ((a ||| b : Nat) : Int) := by
    intro a b ha hb
    have p62 : (2 : Nat) ^ 62 = 4611686018427387904 := rfl
    have e1 : zlor (a : Int) (b : Int) = (BitVec.ofInt 64 (a : Int) ||| BitVec.ofInt 64 (b : Int)).toInt := rfl
    have hor : a ||| b < 2 ^ 62 := Nat.or_lt_two_pow ha hb
    have e3 : (BitVec.ofInt 64 (a : Int) ||| BitVec.ofInt 64 (b : Int)).toNat = a ||| b := by
      rw [BitVec.toNat_or, BitVec.toNat_ofInt, BitVec.toNat_ofInt, p64]
      have a1 : ((a : Int) % 18446744073709551616).toNat = a := by omega
      have b1 : ((b : Int) % 18446744073709551616).toNat = b := by omega
      rw [a1, b1]
    rw [e1, BitVec.toInt_eq_toNat_of_lt (by rw [e3, p64n]; omega), e3]
  have p62 : (2 : Nat) ^ 62 = 4611686018427387904 := rfl
  rw [e0, hc2, e2 _ _ (by omega) (by omega), ← Nat.two_pow_add_eq_or_of_lt (by omega)]
  omega
