/-! TOOLS: loops, memory, small numbers -/
def aIt {α : Type} (f : Int → α → α) : Int → Nat → α → α
  | _, 0, s => s
  | b, n + 1, s => aIt f (b + 1) n (f b s)
theorem aIt_inv {α : Type} {f : Int → α → α} {I : Int → α → Prop} {lo m : Int} (hI : ∀ k s, lo ≤ k → k < m → I k s → I (k + 1) (f k s)) : ∀ (n : Nat) (b : Int) (s : α), lo ≤ b → b + n = m → I b s → I m (aIt f b n s)
  | 0, b, s, _, h, hb => by
    have : b = m := by omega
    subst this
    exact hb
  | n + 1, b, s, hl, h, hb => aIt_inv hI n (b + 1) (f b s) (by omega) (by omega) (hI b s hl (by omega) hb)
theorem aIt_stay {α : Type} {f : Int → α → α} {s : α} : ∀ (n : Nat) (b : Int), (∀ k, b ≤ k → k < b + n → f k s = s) → aIt f b n s = s
  | 0, _, _ => rfl
  | n + 1, b, h => by
    unfold aIt
    rw [h b (by omega) (by omega)]
    exact aIt_stay n (b + 1) (fun k h1 h2 => h k (by omega) (by omega))
theorem aIt_same {α : Type} {f g : Int → α → α} : ∀ (n : Nat) (b : Int) (s : α), (∀ k s, b ≤ k → k < b + n → f k s = g k s) → aIt f b n s = aIt g b n s
  | 0, _, _, _ => rfl
  | n + 1, b, s, h => by
    unfold aIt
    rw [h b s (by omega) (by omega)]
    exact aIt_same n (b + 1) _ (fun k s h1 h2 => h k s (by omega) (by omega))
def aFd (P : Int → Bool) : Int → Nat → Int
  | _, 0 => -1
  | b, n + 1 => if P b = true then b else aFd P (b + 1) n
theorem aFd_no {P : Int → Bool} : ∀ (n : Nat) (b : Int), (∀ k, b ≤ k → k < b + n → P k = false) → aFd P b n = -1
  | 0, _, _ => rfl
  | n + 1, b, h => by
    unfold aFd
    rw [if_neg (by rw [h b (by omega) (by omega)]; decide)]
    exact aFd_no n (b + 1) (fun k h1 h2 => h k (by omega) (by omega))
theorem aFd_cut {P : Int → Bool} : ∀ (m n : Nat) (b : Int), m ≤ n → (∀ k, b + m ≤ k → k < b + n → P k = false) → aFd P b n = aFd P b m
  | 0, n, b, _, h => by
    rw [aFd_no n b (fun k h1 h2 => h k (by omega) h2)]
    rfl
  | m + 1, 0, b, hm, _ => by omega
  | m + 1, n + 1, b, hm, h => by
    unfold aFd
    rw [aFd_cut m n (b + 1) (by omega) (fun k h1 h2 => h k (by omega) (by omega))]
theorem aFd_same {P P' : Int → Bool} : ∀ (n : Nat) (b : Int), (∀ k, b ≤ k → k < b + n → P k = P' k) → aFd P b n = aFd P' b n
  | 0, _, _ => rfl
  | n + 1, b, h => by
    unfold aFd
    rw [h b (by omega) (by omega), aFd_same n (b + 1) (fun k h1 h2 => h k (by omega) (by omega))]
theorem aFd_rng {P : Int → Bool} : ∀ (n : Nat) (b : Int), aFd P b n = -1 ∨ (b ≤ aFd P b n ∧ aFd P b n < b + n ∧ P (aFd P b n) = true)
  | 0, _ => Or.inl rfl
  | n + 1, b => by
    unfold aFd
    split
    · next h => exact Or.inr ⟨by omega, by omega, h⟩
    · rcases aFd_rng (P := P) n (b + 1) with h | h
      · exact Or.inl h
      · exact Or.inr ⟨by omega, by omega, h.2.2⟩
theorem zup_at (f : zF) (a j : Nat) (v : Int) : zup f a j v a j = v := by unfold zup; rw [if_pos rfl, if_pos rfl]
theorem zup_row {a b : Nat} (f : zF) (j : Nat) (v : Int) (h : b ≠ a) : zup f a j v b = f b := by funext k; unfold zup; rw [if_neg h]
theorem zup_ne {j k : Nat} (f : zF) (a b : Nat) (v : Int) (h : k ≠ j) : zup f a j v b k = f b k := by
  unfold zup
  rw [if_neg h, ite_self]
theorem zup_get (f : zF) (a j : Nat) (v : Int) (b k : Nat) : zup f a j v b k = if b = a ∧ k = j then v else f b k := by
  unfold zup
  by_cases h : b = a
  · by_cases h2 : k = j
    · rw [if_pos h, if_pos h2, if_pos ⟨h, h2⟩]
    · rw [if_pos h, if_neg h2, if_neg (fun q => h2 q.2)]
  · rw [if_neg h, if_neg (fun q => h q.1)]
theorem zup_id {f : zF} {a j : Nat} {v : Int} (h : f a j = v) : zup f a j v = f := by
  funext b k
  rw [zup_get]
  split
  · next q => rw [q.1, q.2, h]
  · rfl
/-! small numbers -/
theorem tmod8 {c : Int} (h : 0 ≤ c) : c.tmod 8 = c % 8 := Int.tmod_eq_emod_of_nonneg h
theorem tdiv8 {c : Int} (h : 0 ≤ c) : c.tdiv 8 = c / 8 := Int.tdiv_eq_ediv_of_nonneg h
theorem zcmp0 (x y : Int) : ((if x < y then (-1 : Int) else if x = y then 0 else 1) = 0) ↔ x = y := by
  constructor
  · intro h
    split at h
    · omega
    · split at h
      · assumption
      · omega
  · intro h
    rw [if_neg (by omega), if_pos h]
theorem zcmpl (x y : Int) : ((if x < y then (-1 : Int) else if x = y then 0 else 1) ≤ 0) ↔ x ≤ y := by
  constructor
  · intro h
    split at h
    · omega
    · split at h
      · omega
      · omega
  · intro h
    split
    · omega
    · split
      · omega
      · omega
theorem zcmpg (x y : Int) : (0 ≤ (if x < y then (-1 : Int) else if x = y then 0 else 1)) ↔ y ≤ x := by
  constructor
  · intro h
    split at h
    · omega
    · omega
  · intro h
    split
    · omega
    · split
      · omega
      · omega
theorem zcmpi (x y : Int) : inI (if x < y then (-1 : Int) else if x = y then 0 else 1) := by
  split
  · decide
  · split
    · decide
    · decide
theorem zor_tab : ∀ x : Fin 64, ∀ y : Fin 64, zor (x.val : Int) (y.val : Int) = ((x.val ||| y.val : Nat) : Int) := by decide +kernel
theorem zor_nat {x y : Int} (hx : 0 ≤ x ∧ x < 64) (hy : 0 ≤ y ∧ y < 64) : zor x y = ((x.toNat ||| y.toNat : Nat) : Int) := by
  have h := zor_tab ⟨x.toNat, by omega⟩ ⟨y.toNat, by omega⟩
  simp only at h
  rw [Int.toNat_of_nonneg hx.1, Int.toNat_of_nonneg hy.1] at h
  exact h
theorem zor_lt {x y : Int} (hx : 0 ≤ x ∧ x < 64) (hy : 0 ≤ y ∧ y < 64) : 0 ≤ zor x y ∧ zor x y < 64 := by
  rw [zor_nat hx hy]
  have := Nat.or_lt_two_pow (n := 6) (x := x.toNat) (y := y.toNat) (by omega) (by omega)
  omega
theorem zbit_or {x y k : Int} (hx : 0 ≤ x ∧ x < 64) (hy : 0 ≤ y ∧ y < 64) (hk : 0 ≤ k ∧ k < 6) : zbit (zor x y) k = 1 ↔ (zbit x k = 1 ∨ zbit y k = 1) := by
  rw [zbit_eq (zor_lt hx hy) hk, zbit_eq hx hk, zbit_eq hy hk, zor_nat hx hy, Int.toNat_natCast, Nat.testBit_or]
  cases x.toNat.testBit k.toNat <;> cases y.toNat.testBit k.toNat <;> decide
theorem zbit_z {k : Int} (hk : 0 ≤ k ∧ k < 6) : zbit 0 k = 0 := by
  rw [zbit_eq (by decide) hk]
  simp
theorem zbit_inI {x k : Int} (hx : 0 ≤ x ∧ x < 64) (hk : 0 ≤ k ∧ k < 6) : inI (zand (zshr x k) 1) := by
  have := zbit_01 hx hk
  unfold zbit at this
  omega
/-- how many bits -/
def zpop (x : Int) : Int := zbit x 0 + zbit x 1 + zbit x 2 + zbit x 3 + zbit x 4 + zbit x 5
theorem zpop_rng {x : Int} (hx : 0 ≤ x ∧ x < 64) : 0 ≤ zpop x ∧ zpop x ≤ 6 := by
  have h0 := zbit_01 (k := 0) hx (by decide)
  have h1 := zbit_01 (k := 1) hx (by decide)
  have h2 := zbit_01 (k := 2) hx (by decide)
  have h3 := zbit_01 (k := 3) hx (by decide)
  have h4 := zbit_01 (k := 4) hx (by decide)
  have h5 := zbit_01 (k := 5) hx (by decide)
  unfold zpop
  omega
def zbc1 (x : Int) : Int := x - (zand (zushr x 1) 1431655765)
def zbc2 (x : Int) : Int := (zand x 858993459) + (zand (zushr x 2) 858993459)
def zbc3 (x : Int) : Int := zand (x + (zushr x 4)) 252645135
def zbc4 (x : Int) : Int := x + (zushr x 8)
def zbc5 (x : Int) : Int := x + (zushr x 16)
theorem zbc_tab : ∀ x : Fin 64, zand (zbc5 (zbc4 (zbc3 (zbc2 (zbc1 (x.val : Int)))))) 63 = zpop (x.val : Int) := by decide +kernel
theorem zbl_tab : ∀ x : Fin 64, (x.val : Int) ≠ 0 → 0 ≤ zand (x.val : Int) ((x.val : Int) - 1) ∧ zand (x.val : Int) ((x.val : Int) - 1) < (x.val : Int) ∧ zpop (zand (x.val : Int) ((x.val : Int) - 1)) + 1 = zpop (x.val : Int) := by decide +kernel
section BITC
variable {X : zX} {d : Nat} {rf mem : zF} {Q : Int → zF → Prop}
theorem u_bitCount (hR : zall rf zRK = true) {x : Int} (hx : 0 ≤ x ∧ x < 64) (k : Q (zpop x) mem) : Ci X d 317 [(0, x)] rf mem Q := by
  have h := zbc_tab ⟨x.toNat, by omega⟩
  simp only at h
  rw [Int.toNat_of_nonneg hx.1] at h
  rw [← h] at k
  exact s_j_bitCount hR (s_j_bitCount_10 hR (s_j_bitCount_24 hR (s_j_bitCount_34 hR (s_j_bitCount_41 hR (s_j_bitCount_48 hR k)))))
theorem t_bits_4 (hR : zall rf zRK = true) : ∀ (n : Nat) {x c : Int}, 0 ≤ x → x < 64 → x < n → Q (c + zpop x) mem → L_m_bits_4 X d rf Q mem c x
  | 0, x, c, h0, _, h, _ => by omega
  | n + 1, x, c, h0, h6, h, k => by
    refine s_m_bits_4 hR ⟨by omega, fun q => ?_, fun q => ?_⟩
    · have e : zpop x = 0 := by rw [q]; decide
      rw [e] at k
      rwa [Int.add_zero] at k
    · have hh := zbl_tab ⟨x.toNat, by omega⟩
      simp only at hh
      rw [Int.toNat_of_nonneg h0] at hh
      have h2 := hh q
      refine t_bits_4 hR n h2.1 (by omega) (by omega) ?_
      have e : c + 1 + zpop (zand x (x - 1)) = c + zpop x := by omega
      rwa [e]
theorem t_bits (hR : zall rf zRK = true) {x : Int} (hx : 0 ≤ x ∧ x < 64) (k : Q (zpop x) mem) : Ci X d 264 [(0, x)] rf mem Q :=
  s_m_bits hR (t_bits_4 hR 64 hx.1 hx.2 hx.2 (by rwa [Int.zero_add]))
theorem u_min (hR : zall rf zRK = true) {x y : Int} (hx : inI x) (hy : inI y) (k : Q (min x y) mem) : Ci X d 321 [(0, x), (0, y)] rf mem Q := by
  refine s_j_min hR ⟨⟨hx, hy⟩, fun q => ?_, fun q => ?_⟩
  · have e : min x y = y := by omega
    rwa [e] at k
  · have e : min x y = x := by omega
    rwa [e] at k
theorem u_max (hR : zall rf zRK = true) {x y : Int} (hx : inI x) (hy : inI y) (k : Q (max x y) mem) : Ci X d 320 [(0, x), (0, y)] rf mem Q := by
  refine s_j_max hR ⟨⟨hx, hy⟩, fun q => ?_, fun q => ?_⟩
  · have e : max x y = y := by omega
    rwa [e] at k
  · have e : max x y = x := by omega
    rwa [e] at k
theorem t_cut (hR : zall rf zRK = true) {x m : Int} (hx : inL x) (hm : inI m) (h0 : 0 ≤ m) (k : Q (max 0 (min m x)) mem) : Ci X d 252 [(1, x), (0, m)] rf mem Q := by
  refine s_m_cut hR ⟨⟨hx, by decide⟩, zcmpi _ _, fun q => ⟨hm, ⟨hx, by omega⟩, zcmpi _ _, fun q2 => ?_, fun q2 => ?_⟩, fun q => ?_⟩
  · rw [zcmpg] at q
    rw [zcmpl] at q2
    have e : max 0 (min m x) = x := by omega
    rwa [e] at k
  · rw [zcmpg] at q
    rw [zcmpl] at q2
    have e : max 0 (min m x) = m := by omega
    rwa [e] at k
  · rw [zcmpg] at q
    have e : max 0 (min m x) = 0 := by omega
    rwa [e] at k
end BITC
