/-! shifts; letter; feed -/
theorem zsh_tab : ∀ y : Fin 32, ((Int32.ofInt (y.val : Int) &&& 31).toBitVec.smod 32#32).toNat = y.val := by decide +kernel
theorem zshr_div {x y : Int} (hx : inI x) (hy : 0 ≤ y ∧ y < 32) : zshr x y = x / 2 ^ y.toNat := by
  have h := zsh_tab ⟨y.toNat, by omega⟩
  simp only at h
  rw [Int.toNat_of_nonneg hy.1] at h
  have e1 : zshr x y = ((Int32.ofInt x).toBitVec.sshiftRight' ((Int32.ofInt y &&& 31).toBitVec.smod 32#32)).toInt := rfl
  have e2 : (Int32.ofInt x).toBitVec.toInt = x := i32_toInt hx
  rw [e1, BitVec.toInt_sshiftRight', e2, h, Int.shiftRight_eq_div_pow]
  rfl
theorem i64_toInt {x : Int} (h : inL x) : (Int64.ofInt x).toInt = x := by
  rw [Int64.toInt_ofInt]
  have e : Int64.size = 18446744073709551616 := rfl
  rw [e]
  exact Int.bmod_eq_of_le (by omega) (by omega)
theorem zls_tab : ∀ y : Fin 64, (((Int32.ofInt (y.val : Int)).toInt64 &&& 63).toBitVec.smod 64#64).toNat = y.val := by decide +kernel
theorem zlsr_div {x y : Int} (hx : inL x) (hy : 0 ≤ y ∧ y < 64) : zlsr x y = x / 2 ^ y.toNat := by
  have h := zls_tab ⟨y.toNat, by omega⟩
  simp only at h
  rw [Int.toNat_of_nonneg hy.1] at h
  have e1 : zlsr x y = ((Int64.ofInt x).toBitVec.sshiftRight' (((Int32.ofInt y).toInt64 &&& 63).toBitVec.smod 64#64)).toInt := rfl
  have e2 : (Int64.ofInt x).toBitVec.toInt = x := i64_toInt hx
  rw [e1, BitVec.toInt_sshiftRight', e2, h, Int.shiftRight_eq_div_pow]
  rfl
theorem zlan255 (x : Int) : zlan x 255 = x % 256 := by
  have e1 : zlan x 255 = (BitVec.ofInt 64 x &&& BitVec.ofInt 64 255).toInt := rfl
  have p64 : ((2 ^ 64 : Nat) : Int) = 18446744073709551616 := rfl
  have e2 : (BitVec.ofInt 64 x &&& BitVec.ofInt 64 255).toNat = (x % 18446744073709551616).toNat % 256 := by
    rw [BitVec.toNat_and, BitVec.toNat_ofInt, BitVec.toNat_ofInt, p64]
    have b : ((255 : Int) % 18446744073709551616).toNat = 2 ^ 8 - 1 := by decide
    rw [b, Nat.and_two_pow_sub_one_eq_mod]
  have p64n : (2 : Nat) ^ 64 = 18446744073709551616 := rfl
  rw [e1, BitVec.toInt_eq_toNat_of_lt (by rw [e2, p64n]; omega), e2]
  omega
theorem zand31 (x : Int) : zand x 31 = x % 32 := by
  have e1 : zand x 31 = (BitVec.ofInt 32 x &&& BitVec.ofInt 32 31).toInt := rfl
  have p32 : ((2 ^ 32 : Nat) : Int) = 4294967296 := rfl
  have e2 : (BitVec.ofInt 32 x &&& BitVec.ofInt 32 31).toNat = (x % 4294967296).toNat % 32 := by
    rw [BitVec.toNat_and, BitVec.toNat_ofInt, BitVec.toNat_ofInt, p32]
    have b : ((31 : Int) % 4294967296).toNat = 2 ^ 5 - 1 := by decide
    rw [b, Nat.and_two_pow_sub_one_eq_mod]
  have p32n : (2 : Nat) ^ 32 = 4294967296 := rfl
  rw [e1, BitVec.toInt_eq_toNat_of_lt (by rw [e2, p32n]; omega), e2]
  omega
/-! names -/
theorem zn5_get : ∀ (ls : List Int) (k : Nat), (∀ l ∈ ls, 1 ≤ l ∧ l ≤ 26) → zn5 ls / 32 ^ k % 32 = ls.getD k 0
  | [], k, _ => by
    unfold zn5
    simp
  | l :: r, 0, h => by
    have h1 := h l List.mem_cons_self
    unfold zn5
    simp only [Int.pow_zero, Int.ediv_one, List.getD_cons_zero]
    omega
  | l :: r, k + 1, h => by
    have h1 := h l List.mem_cons_self
    have ih := zn5_get r k (fun x hx => h x (List.mem_cons_of_mem l hx))
    rw [List.getD_cons_succ, ← ih]
    have e0 : (32 : Int) ^ (k + 1) = 32 * 32 ^ k := by rw [Int.pow_succ, Int.mul_comm]
    have e : (l + 32 * zn5 r) / 32 = zn5 r := by omega
    show (l + 32 * zn5 r) / 32 ^ (k + 1) % 32 = _
    rw [e0, ← Int.ediv_ediv_of_nonneg (show (0 : Int) ≤ 32 by decide), e]
def z8r : List Int → Int
  | [] => 0
  | l :: r => 256 * z8r r + 96 + l
theorem zn8_rev : ∀ (ls : List Int) (a : List Int), zn8 (z8r a) ls = z8r (ls.reverse ++ a)
  | [], a => rfl
  | l :: r, a => by
    show zn8 (256 * z8r a + 96 + l) r = _
    have := zn8_rev r (l :: a)
    rw [List.reverse_cons, List.append_assoc]
    exact this
theorem z8r_rng : ∀ (rs : List Int), (∀ l ∈ rs, 1 ≤ l ∧ l ≤ 26) → 0 ≤ z8r rs ∧ (rs ≠ [] → 0 < z8r rs)
  | [], _ => ⟨by decide, fun q => absurd rfl q⟩
  | l :: r, h => by
    have h1 := h l List.mem_cons_self
    have ih := z8r_rng r (fun x hx => h x (List.mem_cons_of_mem l hx))
    unfold z8r
    exact ⟨by omega, fun _ => by omega⟩
theorem z8r_div : ∀ (rs : List Int) (k : Nat), (∀ l ∈ rs, 1 ≤ l ∧ l ≤ 26) → z8r rs / 256 ^ k = z8r (rs.drop k)
  | rs, 0, _ => by simp
  | [], k + 1, _ => by
    unfold z8r
    simp [z8r]
  | l :: r, k + 1, h => by
    have h1 := h l List.mem_cons_self
    have ih := z8r_div r k (fun x hx => h x (List.mem_cons_of_mem l hx))
    rw [List.drop_succ_cons, ← ih, Int.pow_succ, Int.mul_comm, ← Int.ediv_ediv_of_nonneg (by decide)]
    congr 1
    show (256 * z8r r + 96 + l) / 256 = z8r r
    omega
theorem z8r_lt : ∀ (rs : List Int), (∀ l ∈ rs, 1 ≤ l ∧ l ≤ 26) → z8r rs < 256 ^ rs.length
  | [], _ => by decide
  | l :: r, h => by
    have h1 := h l List.mem_cons_self
    have ih := z8r_lt r (fun x hx => h x (List.mem_cons_of_mem l hx))
    rw [List.length_cons, Int.pow_succ]
    unfold z8r
    omega
section LETTER
variable {X : zX} {rf mem : zF} {p : Nat} {pl sc ft : zF} {hs : Int → zF} {c f u : Int} {tb : Nat → Int} {N : Int} {d : Nat}
theorem t_letter_58 {Q : Int → zF → Prop} (hR : zall rf zRK = true) {rs : List Int} (hl : rs.length ≤ 6) (hr : ∀ l ∈ rs, 1 ≤ l ∧ l ≤ 26) {k : Int} (hk : 0 ≤ k ∧ k < 6) (kk : Q (if k < rs.length then rs.getD (rs.length - 1 - k.toNat) 0 else 0) mem) : ∀ (m : Nat) {n : Nat}, n + m = rs.length → L_m_letter_58 X d rf Q mem k (z8r rs) n (z8r (rs.drop n))
  | 0, n, hn => by
    have e0 : rs.drop n = [] := List.drop_eq_nil_of_le (by omega)
    rw [e0]
    refine s_m_letter_58 hR ⟨⟨by decide, by decide⟩, zcmpi _ _, fun _ => ⟨⟨by omega, by omega⟩, fun q => ?_, fun q => ?_⟩, fun q => absurd (by decide) q⟩
    · rw [if_pos (by omega)] at kk
      have hb := z8r_rng rs hr
      have hlt := z8r_lt rs hr
      have h6 : (256 : Int) ^ rs.length ≤ 256 ^ 6 := by
        have : ∀ j : Fin 7, (256 : Int) ^ j.val ≤ 256 ^ 6 := by decide
        exact this ⟨rs.length, by omega⟩
      have e6 : (256 : Int) ^ 6 = 281474976710656 := rfl
      have en : (n : Int) - 1 - k = ((rs.length - 1 - k.toNat : Nat) : Int) := by omega
      rw [zlsr_div (by omega) (by omega), zlan255]
      have e8 : (2 : Int) ^ (8 * ((n : Int) - 1 - k)).toNat = 256 ^ (rs.length - 1 - k.toNat) := by
        have : (8 * ((n : Int) - 1 - k)).toNat = 8 * (rs.length - 1 - k.toNat) := by omega
        rw [this, Int.pow_mul]
        rfl
      rw [e8, z8r_div rs _ hr]
      have hlt2 : rs.length - 1 - k.toNat < rs.length := by omega
      rw [List.drop_eq_getElem_cons hlt2]
      have hm := hr _ (List.getElem_mem hlt2)
      rw [List.getD_eq_getElem?_getD, List.getElem?_eq_getElem hlt2] at kk
      have e9 : (256 * z8r (rs.drop (rs.length - 1 - k.toNat + 1)) + 96 + rs[rs.length - 1 - k.toNat]) % 256 - 97 + 1 = rs[rs.length - 1 - k.toNat] := by omega
      show Q ((256 * z8r (rs.drop (rs.length - 1 - k.toNat + 1)) + 96 + rs[rs.length - 1 - k.toNat]) % 256 - 97 + 1) mem
      rw [e9]
      exact kk
    · rwa [if_neg (by omega)] at kk
  | m + 1, n, hn => by
    have hlt : n < rs.length := by omega
    have hb := z8r_rng (rs.drop n) (fun l hl => hr l (List.mem_of_mem_drop hl))
    have hp := hb.2 (by rw [List.drop_eq_getElem_cons hlt]; exact List.cons_ne_nil _ _)
    have hlt2 := z8r_lt (rs.drop n) (fun l hl => hr l (List.mem_of_mem_drop hl))
    have h6 : (256 : Int) ^ (rs.drop n).length ≤ 256 ^ 6 := by
      have : ∀ j : Fin 7, (256 : Int) ^ j.val ≤ 256 ^ 6 := by decide
      exact this ⟨(rs.drop n).length, by rw [List.length_drop]; omega⟩
    have e6 : (256 : Int) ^ 6 = 281474976710656 := rfl
    refine s_m_letter_58 hR ⟨⟨by omega, by decide⟩, zcmpi _ _, fun q => ?_, fun q => ?_⟩
    · rw [zcmpl] at q
      omega
    · have e1 : zlsr (z8r (rs.drop n)) 8 = z8r (rs.drop (n + 1)) := by
        rw [zlsr_div (by omega) (by decide)]
        have := z8r_div (rs.drop n) 1 (fun l hl => hr l (List.mem_of_mem_drop hl))
        rw [List.drop_drop] at this
        exact this
      have e2 : (n : Int) + 1 = ((n + 1 : Nat) : Int) := by omega
      rw [e1, e2]
      exact t_letter_58 hR hl hr hk kk m (by omega)
theorem zn5_rng : ∀ (ls : List Int), (∀ l ∈ ls, 1 ≤ l ∧ l ≤ 26) → 0 ≤ zn5 ls ∧ zn5 ls < 32 ^ ls.length
  | [], _ => by decide
  | l :: r, h => by
    have h1 := h l List.mem_cons_self
    have ih := zn5_rng r (fun x hx => h x (List.mem_cons_of_mem l hx))
    rw [List.length_cons, Int.pow_succ]
    unfold zn5
    omega
theorem p_letter (h : G rf mem p pl sc ft hs c f u tb N) (hd : 20 ≤ d) {x y z : Int} (hx : inI x) (hy : inI y) (hz : inI z) : zPR X rf d mem 154 [(2, 0), (0, x), (0, y), (0, z)] 274 [(2, 261), (0, x), (0, y), (0, z)] (fun m2 => GI rf m2 (N + 1)) := by
  obtain ⟨d, rfl⟩ : ∃ e, d = e + 1 := ⟨d - 1, by omega⟩
  obtain ⟨d, rfl⟩ : ∃ e, d = e + 1 := ⟨d - 1, by omega⟩
  obtain ⟨hX, hP, hR, hH, hS, hO⟩ := id h
  have hN := hP.1.n
  have hM := hO.parts.2.2.2.2.2.1
  have hbk := hR.2.1.bank
  by_cases hin : (0 ≤ z ∧ z < 6) ∧ zthere pl x y
  · have hs3 : x = 0 ∨ x = 1 ∨ x = 2 := by have := hin.2; unfold zthere at this; omega
    have hy6 : 0 ≤ y ∧ y < 6 := ⟨hin.2.1, hin.2.2.1⟩
    have hyc : y < pl 1 x.toNat := hin.2.2.2.2.2
    have hxn : ((x.toNat : Nat) : Int) = x := by omega
    obtain ⟨ls, l1, l2, l3, l4, l5⟩ := hM x.toNat y (by omega) hy6.1 hyc
    rw [hxn] at l4
    have hzr := zn5_rng ls l3
    have h32 : (32 : Int) ^ ls.length ≤ 32 ^ 6 := by
      have : ∀ j : Fin 7, (32 : Int) ^ j.val ≤ 32 ^ 6 := by decide
      exact this ⟨ls.length, by omega⟩
    have e32 : (32 : Int) ^ 6 = 1073741824 := rfl
    have hv : inI (ls.getD z.toNat 0) := by
      rw [← zn5_get ls z.toNat l3]
      omega
    refine pair_0 (v := ls.getD z.toNat 0) h hv (fun {Q} kk => ?_) (fun {Q} kk => ?_)
    · refine s_c_letter hX.r hX.p hX.f ⟨hz, fun q => absurd q (by omega), fun _ => ⟨hz, fun q => absurd q (by omega), fun _ => u_isThere hX.r hX.p hX.pc hP.1 (by omega) hx hy (fun _ => ?_) (fun q => absurd hin.2 q)⟩⟩
      refine ⟨by decide, fun _ => s_plan_nameOf hX.r hX.p (u_isThere hX.r hX.p hX.pc hP.1 (by omega) hx hy (fun _ => ?_) (fun q => absurd hin.2 q)), fun q => absurd q (by decide)⟩
      refine ⟨by decide, fun q => absurd q (by decide), fun _ => ⟨by omega, ?_⟩⟩
      rw [hX.pc.r 2 (by decide) (by decide), l4, zshr_div (by omega) (by omega), zand31]
      have e5 : (2 : Int) ^ (5 * z).toNat = 32 ^ z.toNat := by
        have : (5 * z).toNat = 5 * z.toNat := by omega
        rw [this, Int.pow_mul]
        rfl
      rw [e5, zn5_get ls z.toNat l3]
      exact kk
    · have hr8 : mem (283 + x.toNat) (6 * mem 261 13 + y).toNat = z8r ls.reverse := by
        rw [l5]
        have := zn8_rev ls []
        rw [List.append_nil] at this
        exact this
      refine s_m_letter hX.r (t_is hX.r hx (by decide) (by decide) ?_)
      rw [if_pos (by omega)]
      refine ⟨by decide, fun q => absurd q (by decide), fun _ => ?_⟩
      have mo : ∀ {Q : Int → zF → Prop}, Q (pl 1 x.toNat) mem → Ci X (d + 1) 207 [(2, 261), (0, mem 261 13), (0, x)] rf mem Q := by
        intro Q k2
        refine s_m_manyOf hX.r ⟨hx, fun q => ⟨hx, fun q2 => ⟨hbk, ?_⟩, fun q2 => ⟨hbk, ?_⟩⟩, fun q => ⟨hbk, ?_⟩⟩
        · have e : x = 2 := by omega
          rw [hR.2.1.n.2.2.1]
          rw [e] at k2
          exact k2
        · rw [hR.2.1.n.2.1]
          rw [q2] at k2
          exact k2
        · rw [hR.2.1.n.1]
          rw [q] at k2
          exact k2
      have hcn : 0 ≤ pl 1 x.toNat ∧ pl 1 x.toNat ≤ 6 := by
        rcases hs3 with rfl | rfl | rfl
        · exact hN.1
        · exact hN.2.1
        · exact hN.2.2
      refine mo (t_is hX.r hy (by decide) (by omega) ?_)
      rw [if_pos (by omega)]
      refine ⟨by decide, fun q => absurd q (by decide), fun _ => t_is hX.r hz (by decide) (by decide) ?_⟩
      rw [if_pos (by omega)]
      refine ⟨by decide, fun _ => ?_, fun q => absurd q (by decide)⟩
      have l58 : L_m_letter_58 X (d + 1) rf Q mem z (mem (283 + x.toNat) (6 * mem 261 13 + y).toNat) 0 (mem (283 + x.toNat) (6 * mem 261 13 + y).toNat) := by
        rw [hr8]
        refine t_letter_58 hX.r (rs := ls.reverse) (by rw [List.length_reverse]; omega) (fun l hl => l3 l (List.mem_reverse.mp hl)) hin.1 ?_ ls.length (n := 0) (by rw [List.length_reverse]; omega)
        rw [List.length_reverse]
        by_cases q : z < ls.length
        · rw [if_pos q]
          have e : ls.reverse.getD (ls.length - 1 - z.toNat) 0 = ls.getD z.toNat 0 := by
            rw [List.getD_eq_getElem?_getD, List.getD_eq_getElem?_getD, List.getElem?_reverse (by omega)]
            congr 2
            omega
          rw [e]
          exact kk
        · rw [if_neg q]
          rw [List.getD_eq_getElem?_getD, List.getElem?_eq_none (by omega)] at kk
          exact kk
      refine s_m_nameOf hX.r ⟨hx, fun q => ⟨hx, fun q2 => ⟨by omega, ?_⟩, fun q2 => ⟨by omega, ?_⟩⟩, fun q => ⟨by omega, ?_⟩⟩
      · have e : x = 2 := by omega
        rw [e] at l58
        exact l58
      · rw [q2] at l58
        exact l58
      · rw [q] at l58
        exact l58
  · refine pair_0 (v := -1) h (by decide) (fun {Q} kk => ?_) (fun {Q} kk => ?_)
    · refine s_c_letter hX.r hX.p hX.f ⟨hz, fun _ => kk, fun q1 => ⟨hz, fun _ => kk, fun q2 => u_isThere hX.r hX.p hX.pc hP.1 (by omega) hx hy (fun q3 => absurd ⟨by omega, q3⟩ hin) (fun _ => ?_)⟩⟩
      exact ⟨by decide, fun q => absurd rfl q, fun _ => kk⟩
    · refine s_m_letter hX.r (t_is hX.r hx (by decide) (by decide) ?_)
      by_cases q1 : 0 ≤ x ∧ x ≤ 2
      · rw [if_pos q1]
        refine ⟨by decide, fun q => absurd q (by decide), fun _ => ?_⟩
        have hcn : 0 ≤ pl 1 x.toNat ∧ pl 1 x.toNat ≤ 6 := by
          have hs3 : x = 0 ∨ x = 1 ∨ x = 2 := by omega
          rcases hs3 with rfl | rfl | rfl
          · exact hN.1
          · exact hN.2.1
          · exact hN.2.2
        have mo : ∀ {Q : Int → zF → Prop}, Q (pl 1 x.toNat) mem → Ci X (d + 1) 207 [(2, 261), (0, mem 261 13), (0, x)] rf mem Q := by
          intro Q k2
          refine s_m_manyOf hX.r ⟨hx, fun q => ⟨hx, fun q2 => ⟨hbk, ?_⟩, fun q2 => ⟨hbk, ?_⟩⟩, fun q => ⟨hbk, ?_⟩⟩
          · have e : x = 2 := by omega
            rw [hR.2.1.n.2.2.1]
            rw [e] at k2
            exact k2
          · rw [hR.2.1.n.2.1]
            rw [q2] at k2
            exact k2
          · rw [hR.2.1.n.1]
            rw [q] at k2
            exact k2
        refine mo (t_is hX.r hy (by decide) (by omega) ?_)
        by_cases q2 : 0 ≤ y ∧ y ≤ pl 1 x.toNat - 1
        · rw [if_pos q2]
          refine ⟨by decide, fun q => absurd q (by decide), fun _ => t_is hX.r hz (by decide) (by decide) ?_⟩
          rw [if_neg (fun q3 => hin ⟨by omega, by omega, by omega, by omega, by omega, by omega⟩)]
          exact ⟨by decide, fun q => absurd rfl q, fun _ => kk⟩
        · rw [if_neg q2]
          exact ⟨by decide, fun _ => kk, fun q => absurd rfl q⟩
      · rw [if_neg q1]
        exact ⟨by decide, fun _ => kk, fun q => absurd rfl q⟩
end LETTER
