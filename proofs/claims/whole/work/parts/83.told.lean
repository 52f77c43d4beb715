/-! a picture taken up again: what both ask of it, and the program's side -/
theorem zand_inI (x y : Int) : inI (zand x y) := by
  unfold zand
  have h1 := (Int32.ofInt x &&& Int32.ofInt y).minValue_le_toInt
  have h2 := (Int32.ofInt x &&& Int32.ofInt y).toInt_le
  have e1 : Int32.minValue.toInt = -2147483648 := rfl
  have e2 : Int32.maxValue.toInt = 2147483647 := rfl
  omega
theorem zor_n {x y : Nat} (hx : x < 2147483648) (hy : y < 2147483648) : zor (x : Int) (y : Int) = ((x ||| y : Nat) : Int) := by
  have e1 : zor (x : Int) (y : Int) = (BitVec.ofInt 32 (x : Int) ||| BitVec.ofInt 32 (y : Int)).toInt := rfl
  have p32 : ((2 ^ 32 : Nat) : Int) = 4294967296 := rfl
  have hor : x ||| y < 2 ^ 31 := Nat.or_lt_two_pow hx hy
  have e2 : (BitVec.ofInt 32 (x : Int) ||| BitVec.ofInt 32 (y : Int)).toNat = x ||| y := by
    rw [BitVec.toNat_or, BitVec.toNat_ofInt, BitVec.toNat_ofInt, p32]
    have a : ((x : Int) % 4294967296).toNat = x := by omega
    have b : ((y : Int) % 4294967296).toNat = y := by omega
    rw [a, b]
  have p32n : (2 : Nat) ^ 32 = 4294967296 := rfl
  have p31n : (2 : Nat) ^ 31 = 2147483648 := rfl
  rw [e1, BitVec.toInt_eq_toNat_of_lt (by rw [e2, p32n]; omega), e2]
theorem zshl8_tab : ∀ a : Fin 256, zshl (a.val : Int) 8 = ((2 ^ 8 * a.val : Nat) : Int) := by decide +kernel
theorem ztwo {a b : Int} (ha : 0 ≤ a ∧ a ≤ 255) (hb : 0 ≤ b ∧ b ≤ 255) : zor (zshl a 8) b = 256 * a + b := by
  have h := zshl8_tab ⟨a.toNat, by omega⟩
  simp only at h
  rw [Int.toNat_of_nonneg ha.1] at h
  rw [h]
  have hb2 : b = ((b.toNat : Nat) : Int) := (Int.toNat_of_nonneg hb.1).symm
  rw [hb2, zor_n (by omega) (by omega), ← Nat.two_pow_add_eq_or_of_lt (by omega)]
  omega
theorem zmsk_tab : ∀ b : Fin 7, ∀ e : Fin 256, zand (e.val : Int) (zxor (zshl 1 (b.val : Int) - 1) (-1)) = 0 ↔ (e.val : Int) < zshl 1 (b.val : Int) := by decide +kernel
theorem zmsk {e b : Int} (he : 0 ≤ e ∧ e ≤ 255) (hb : 0 ≤ b ∧ b ≤ 6) : zand e (zxor (zshl 1 b - 1) (-1)) = 0 ↔ e < zshl 1 b := by
  have h := zmsk_tab ⟨b.toNat, by omega⟩ ⟨e.toNat, by omega⟩
  simp only at h
  rw [Int.toNat_of_nonneg he.1, Int.toNat_of_nonneg hb.1] at h
  exact h
theorem zone_tab : ∀ k : Fin 6, ∀ b : Fin 2, 0 ≤ zshl (b.val : Int) (k.val : Int) ∧ zshl (b.val : Int) (k.val : Int) < 64 := by decide +kernel
theorem zone {b k : Int} (hb : 0 ≤ b ∧ b ≤ 1) (hk : 0 ≤ k ∧ k < 6) : 0 ≤ zshl b k ∧ zshl b k < 64 := by
  have h := zone_tab ⟨k.toNat, by omega⟩ ⟨b.toNat, by omega⟩
  simp only at h
  rw [Int.toNat_of_nonneg hb.1, Int.toNat_of_nonneg hk.1] at h
  exact h
theorem zdis_tab : ∀ k : Fin 6, ∀ x : Fin 64, ∀ y : Fin 64, zand (x.val : Int) (y.val : Int) = 0 → zbit (x.val : Int) (k.val : Int) = 1 → zbit (y.val : Int) (k.val : Int) = 0 := by decide +kernel
theorem zdis {x y k : Int} (hx : 0 ≤ x ∧ x < 64) (hy : 0 ≤ y ∧ y < 64) (hk : 0 ≤ k ∧ k < 6) (h : zand x y = 0) (hb : zbit x k = 1) : zbit y k = 0 := by
  have g := zdis_tab ⟨k.toNat, by omega⟩ ⟨x.toNat, by omega⟩ ⟨y.toNat, by omega⟩
  simp only at g
  rw [Int.toNat_of_nonneg hx.1, Int.toNat_of_nonneg hy.1, Int.toNat_of_nonneg hk.1] at g
  exact g h hb
theorem zhi_tab : ∀ b : Fin 7, ∀ k : Fin 6, ∀ e : Fin 64, (e.val : Int) < zshl 1 (b.val : Int) → zbit (e.val : Int) (k.val : Int) = 1 → k.val < b.val := by decide +kernel
theorem zhi {e b k : Int} (he : 0 ≤ e ∧ e < 64) (hb : 0 ≤ b ∧ b ≤ 6) (hk : 0 ≤ k ∧ k < 6) (h : e < zshl 1 b) (h1 : zbit e k = 1) : k < b := by
  have g := zhi_tab ⟨b.toNat, by omega⟩ ⟨k.toNat, by omega⟩ ⟨e.toNat, by omega⟩
  simp only at g
  rw [Int.toNat_of_nonneg he.1, Int.toNat_of_nonneg hb.1, Int.toNat_of_nonneg hk.1] at g
  have := g h h1
  omega
def oC (pl : zF) (tb : Nat → Int) (j : Int) : Int := zcellAt (pl 0 1) (pl 0 2) (tb j.toNat) (tb (j + 1).toNat)
def oN (tb : Nat → Int) (j : Int) : Prop := tb j.toNat = 255 ∧ tb (j + 1).toNat = 255
def oH (pl : zF) : Int := 4 + pl 1 0
def oB (pl : zF) : Int := oH pl + 2 * pl 1 1
def oD (pl : zF) : Int := oB pl + 5 * pl 1 2
def oE (pl : zF) : Int := oD pl + 3 * pl 1 2
def oK (tb : Nat → Int) : Nat → Int → Int → Int
  | 0, _, a => a
  | n + 1, j, a => oK tb n (j + 1) ((5 * a + tb j.toNat) % 251)
def oM (tb : Nat → Int) : Nat → Int
  | 0 => 0
  | k + 1 => zor (oM tb k) (zshl (tb (4 + (k : Int)).toNat) (k : Int))
def oZ (pl : zF) (tb : Nat → Int) : Nat → Int
  | 0 => 0
  | k + 1 => zor (oZ pl tb k) (tb (oB pl + 5 * (k : Int) + 4).toNat)
def o1 (pl : zF) (tb : Nat → Int) (n : Int) : Prop := n = oE pl + 1 ∧ oK tb (oE pl).toNat 0 197 = tb (oE pl).toNat
def o2 (pl : zF) (tb : Nat → Int) : Prop := 256 * tb 0 + tb 1 ≤ 999 ∧ (oC pl tb 2 ≠ -1 ∨ oN tb 2)
def o4 (tb : Nat → Int) (k : Int) : Prop := tb (4 + k).toNat ≤ 1
def o5 (pl : zF) (tb : Nat → Int) (k : Int) : Prop := oC pl tb (oH pl + 2 * k) ≠ -1 ∧ ∀ i : Int, 0 ≤ i → i < k → oC pl tb (oH pl + 2 * i) ≠ oC pl tb (oH pl + 2 * k)
def o6 (pl : zF) (tb : Nat → Int) (k : Int) : Prop :=
  (oC pl tb (oB pl + 5 * k) ≠ -1 ∧ (∀ i : Int, 0 ≤ i → i < k → oC pl tb (oB pl + 5 * i) ≠ oC pl tb (oB pl + 5 * k)) ∧ (1 ≤ tb (oB pl + 5 * k + 2).toNat ∧ tb (oB pl + 5 * k + 2).toNat ≤ 99) ∧ (1 ≤ tb (oB pl + 5 * k + 3).toNat ∧ tb (oB pl + 5 * k + 3).toNat ≤ 9) ∧ (1 ≤ tb (oB pl + 5 * k + 4).toNat ∧ tb (oB pl + 5 * k + 4).toNat < zshl 1 (pl 1 2)) ∧ zand (tb (oB pl + 5 * k + 4).toNat) (oZ pl tb k.toNat) = 0) ∨
  (oC pl tb (oB pl + 5 * k) = -1 ∧ oN tb (oB pl + 5 * k) ∧ tb (oB pl + 5 * k + 2).toNat = 0 ∧ tb (oB pl + 5 * k + 3).toNat = 0 ∧ tb (oB pl + 5 * k + 4).toNat = 0)
def o7 (pl : zF) (tb : Nat → Int) (k : Int) : Prop := (tb (oD pl + 3 * k).toNat = 255 ∨ (tb (oD pl + 3 * k).toNat < pl 1 1 ∧ zbit (oZ pl tb (pl 1 2).toNat) k = 0)) ∧ 256 * tb (oD pl + 3 * k + 1).toNat + tb (oD pl + 3 * k + 2).toNat ≤ 999
def oAll (P : Int → Prop) (n : Int) : Prop := ∀ k : Int, 0 ≤ k → k < n → P k
def oOK (pl : zF) (tb : Nat → Int) (n : Int) : Prop := o1 pl tb n ∧ o2 pl tb ∧ oAll (o4 tb) (pl 1 0) ∧ oAll (o5 pl tb) (pl 1 1) ∧ oAll (o6 pl tb) (pl 1 2) ∧ oAll (o7 pl tb) (pl 1 2)
def oS (pl : zF) (tb : Nat → Int) (r8 : Nat → Int) : zF := fun s k =>
  if s = 0 then (if k = 0 then 256 * tb 0 + tb 1 else if k = 1 then oC pl tb 2 else if k = 2 then oM tb (pl 1 0).toNat else 0)
  else if s = 1 then (if (k : Int) < pl 1 1 then oC pl tb (oH pl + 2 * (k : Int)) else -1)
  else if s = 2 then (if (k : Int) < pl 1 2 then oC pl tb (oB pl + 5 * (k : Int)) else -1)
  else if s = 6 then (if (k : Int) < pl 1 2 then (if tb (oD pl + 3 * (k : Int)).toNat = 255 then -1 else tb (oD pl + 3 * (k : Int)).toNat) else -1)
  else if s = 7 then (if (k : Int) < pl 1 2 then 256 * tb (oD pl + 3 * (k : Int) + 1).toNat + tb (oD pl + 3 * (k : Int) + 2).toNat else 0)
  else if s = 8 then r8 k
  else (if (k : Int) < pl 1 2 then tb (oB pl + 5 * (k : Int) + ((s : Int) - 1)).toNat else 0)
/-- the scene that a room begins with -/
def aBeg (pl : zF) (r8 : Nat → Int) : zF := fun s k =>
  if s = 0 then (if k = 1 then pl 0 3 else if k = 2 then pl 0 5 else 0)
  else if s = 1 then zcel pl 1 (k : Int)
  else if s = 2 then zcel pl 2 (k : Int)
  else if s = 3 then (if (k : Int) < pl 1 2 then pl 7 k else 0)
  else if s = 4 then (if (k : Int) < pl 1 2 then pl 8 k else 0)
  else if s = 5 then (if (k : Int) < pl 1 2 then zshl 1 (k : Int) else 0)
  else if s = 6 then -1
  else if s = 7 then 0
  else r8 k
theorem zcel_I {pl : zF} (hP : WP pl) {s k : Int} (hs : s = 1 ∨ s = 2) (hk : 0 ≤ k) : inI (zcel pl s k) := by
  have hcr := hP.cr
  unfold zcel
  rcases hs with rfl | rfl
  · split
    · next q =>
      have h := (hP.heir hk q).1
      unfold zic at h
      have e : 6 * 1 + k = 6 + k := by omega
      rw [e]
      omega
    · decide
  · split
    · next q =>
      have h := (hP.bub hk q).1
      unfold zic at h
      have e : 6 * 2 + k = 12 + k := by omega
      rw [e]
      omega
    · decide
section BEGIN
variable {X : zX} {rf : zF} {p o : Nat} {pl : zF} {r8 : Nat → Int}
theorem u_begin_28 {D : Nat} {Q : zF → Prop} (hR : zall rf zRK = true) (ho : zScn rf o) (hp : zPln rf p) (hW : WP pl) (hD : 2 ≤ D) (hdj : p + 12 < o ∨ o + 8 < p) {m0 : zF} (kk : ∀ mem', SC mem' o (aBeg pl r8) → FS o m0 mem' → mem' (o + 8) = m0 (o + 8) → Q mem') : ∀ (n : Nat) {x : Int} {mem : zF}, PC mem p pl → FS o m0 mem → mem (o + 8) = m0 (o + 8) → 0 ≤ x → x + n = 6 → (∀ s k, zdom s k → (s = 0 ∨ s = 8 ∨ (k : Int) < x) → mem (o + s) k = aBeg pl r8 s k) → L_scene_begin_28 X D rf Q mem o p x
  | 0, x, mem, hP, hf, h8, h0, hx, hall => s_scene_begin_28 hR ho hp ⟨by omega, fun _ => kk mem (fun s k hz => hall s k hz (by unfold zdom at hz; omega)) hf h8, fun q => absurd q (by omega)⟩
  | n + 1, x, mem, hP, hf, h8, h0, hx, hall => by
    have hN := hW.n
    -- the last stretch
    have last : ∀ (v3 v4 v5 : Int), v3 = aBeg pl r8 3 x.toNat → v4 = aBeg pl r8 4 x.toNat → v5 = aBeg pl r8 5 x.toNat → L_scene_begin_28 X D rf Q (zup (zup (zup (zup (zup (zup (zup mem (o + 1) x.toNat (zcel pl 1 x)) (o + 2) x.toNat (zcel pl 2 x)) (o + 3) x.toNat v3) (o + 4) x.toNat v4) (o + 5) x.toNat v5) (o + 6) x.toNat (-1)) (o + 7) x.toNat 0) o p (x + 1) := by
      intro v3 v4 v5 g3 g4 g5
      have fr : ∀ i, (i < o + 1 ∨ o + 7 < i) → (zup (zup (zup (zup (zup (zup (zup mem (o + 1) x.toNat (zcel pl 1 x)) (o + 2) x.toNat (zcel pl 2 x)) (o + 3) x.toNat v3) (o + 4) x.toNat v4) (o + 5) x.toNat v5) (o + 6) x.toNat (-1)) (o + 7) x.toNat 0) i = mem i := by
        intro i hi
        rw [zup_row _ _ _ (by omega), zup_row _ _ _ (by omega), zup_row _ _ _ (by omega), zup_row _ _ _ (by omega), zup_row _ _ _ (by omega), zup_row _ _ _ (by omega), zup_row _ _ _ (by omega)]
      refine u_begin_28 hR ho hp hW hD hdj kk n (hP.fr (fun s h1 h2 => fr _ (by omega))) (fun i hi => by rw [fr i (by omega)]; exact hf i hi) (by rw [fr _ (by omega)]; exact h8) (by omega) (by omega) ?_
      intro s k hz hs
      by_cases e : s = 0 ∨ s = 8
      · rw [fr _ (by omega)]
        exact hall s k hz (by omega)
      by_cases ek : k = x.toNat
      · have hx2 : ((x.toNat : Nat) : Int) = x := Int.toNat_of_nonneg h0
        have hs7 : s = 1 ∨ s = 2 ∨ s = 3 ∨ s = 4 ∨ s = 5 ∨ s = 6 ∨ s = 7 := by unfold zdom at hz; omega
        rw [ek]
        rcases hs7 with rfl | rfl | rfl | rfl | rfl | rfl | rfl
        · rw [zup_row _ _ _ (by omega), zup_row _ _ _ (by omega), zup_row _ _ _ (by omega), zup_row _ _ _ (by omega), zup_row _ _ _ (by omega), zup_row _ _ _ (by omega), zup_at]
          show _ = zcel pl 1 ((x.toNat : Nat) : Int)
          rw [hx2]
        · rw [zup_row _ _ _ (by omega), zup_row _ _ _ (by omega), zup_row _ _ _ (by omega), zup_row _ _ _ (by omega), zup_row _ _ _ (by omega), zup_at]
          show _ = zcel pl 2 ((x.toNat : Nat) : Int)
          rw [hx2]
        · rw [zup_row _ _ _ (by omega), zup_row _ _ _ (by omega), zup_row _ _ _ (by omega), zup_row _ _ _ (by omega), zup_at]
          exact g3
        · rw [zup_row _ _ _ (by omega), zup_row _ _ _ (by omega), zup_row _ _ _ (by omega), zup_at]
          exact g4
        · rw [zup_row _ _ _ (by omega), zup_row _ _ _ (by omega), zup_at]
          exact g5
        · rw [zup_row _ _ _ (by omega), zup_at]
          rfl
        · rw [zup_at]
          rfl
      · rw [zup_ne _ _ _ _ ek, zup_ne _ _ _ _ ek, zup_ne _ _ _ _ ek, zup_ne _ _ _ _ ek, zup_ne _ _ _ _ ek, zup_ne _ _ _ _ ek, zup_ne _ _ _ _ ek]
        exact hall s k hz (by omega)
    have hx2 : ((x.toNat : Nat) : Int) = x := Int.toNat_of_nonneg h0
    refine s_scene_begin_28 hR ho hp ⟨by omega, fun q => absurd q (by omega), fun _ => ?_⟩
    have rest : ∀ r2 : Int, (r2 = 1 ∧ x < pl 1 2) ∨ (r2 = 0 ∧ ¬ x < pl 1 2) → Ci X D 65 [(2, ((p : Nat) : Int)), (0, 1), (0, x)] rf mem (fun r4 mem5 => (0 ≤ x ∧ x < 6) ∧ (Ci X D 65 [(2, ((p : Nat) : Int)), (0, 2), (0, x)] rf (zup mem5 (o + 1) (x).toNat r4) (fun r6 mem7 => (0 ≤ x ∧ x < 6) ∧ ((inI r2) ∧ ((r2 = 0 → L_scene_begin_84 X D rf Q (zup mem7 (o + 2) (x).toNat r6) o p x r2 x 0) ∧ (¬ r2 = 0 → (0 ≤ x ∧ x < 6) ∧ (L_scene_begin_84 X D rf Q (zup mem7 (o + 2) (x).toNat r6) o p x r2 x ((zup mem7 (o + 2) (x).toNat r6) (p + 7) (x).toNat)))))))) := by
      intro r2 hr2
      refine u_cellOf hR hp hP hW hD (by decide) (by omega) ⟨by omega, ?_⟩
      refine u_cellOf hR hp (hP.fr (fun s h1 h2 => zup_row _ _ _ (by omega))) hW hD (by decide) (by omega) ⟨by omega, by omega, fun q => ?_, fun q => ⟨by omega, ?_⟩⟩
      · have hb : ¬ x < pl 1 2 := by omega
        refine s_scene_begin_84 hR ho hp ⟨by omega, by omega, fun _ => ?_, fun q2 => absurd q q2⟩
        refine s_scene_begin_104 hR ho hp ⟨by omega, by omega, fun _ => ?_, fun q2 => absurd q q2⟩
        refine s_scene_begin_121 hR ho hp ⟨by omega, by omega, by omega, ?_⟩
        refine last 0 0 0 ?_ ?_ ?_
        · show _ = (if ((x.toNat : Nat) : Int) < pl 1 2 then _ else (0 : Int))
          rw [if_neg (by omega)]
        · show _ = (if ((x.toNat : Nat) : Int) < pl 1 2 then _ else (0 : Int))
          rw [if_neg (by omega)]
        · show _ = (if ((x.toNat : Nat) : Int) < pl 1 2 then _ else (0 : Int))
          rw [if_neg (by omega)]
      · have hb : x < pl 1 2 := by omega
        have e7 : mem (p + 7) = pl 7 := hP 7 (by decide) (by decide)
        have e8 : mem (p + 8) = pl 8 := hP 8 (by decide) (by decide)
        rw [zup_row _ _ _ (show p + 7 ≠ o + 2 by omega), zup_row _ _ _ (show p + 7 ≠ o + 1 by omega), e7]
        refine s_scene_begin_84 hR ho hp ⟨by omega, by omega, fun q2 => absurd q2 q, fun _ => ⟨by omega, ?_⟩⟩
        rw [zup_row _ _ _ (show p + 8 ≠ o + 3 by omega), zup_row _ _ _ (show p + 8 ≠ o + 2 by omega), zup_row _ _ _ (show p + 8 ≠ o + 1 by omega), e8]
        refine s_scene_begin_104 hR ho hp ⟨by omega, by omega, fun q2 => absurd q2 q, fun _ => ?_⟩
        refine s_scene_begin_121 hR ho hp ⟨by omega, by omega, by omega, ?_⟩
        refine last _ _ _ ?_ ?_ ?_
        · show _ = (if ((x.toNat : Nat) : Int) < pl 1 2 then pl 7 x.toNat else (0 : Int))
          rw [if_pos (by omega)]
        · show _ = (if ((x.toNat : Nat) : Int) < pl 1 2 then pl 8 x.toNat else (0 : Int))
          rw [if_pos (by omega)]
        · show _ = (if ((x.toNat : Nat) : Int) < pl 1 2 then zshl 1 ((x.toNat : Nat) : Int) else (0 : Int))
          rw [if_pos (by omega), hx2]
    refine u_isThere hR hp hP hW (by omega) (by decide) (by omega) (fun h => ?_) (fun h => ?_)
    · unfold zthere at h
      have h5 : x < pl 1 2 := h.2.2.2.2
      exact rest 1 (Or.inl ⟨rfl, h5⟩)
    · unfold zthere at h
      exact rest 0 (Or.inr ⟨rfl, fun c => h ⟨h0, by omega, by decide, by decide, c⟩⟩)
theorem u_begin {D : Nat} {Q : zF → Prop} {mem : zF} (hR : zall rf zRK = true) (ho : zScn rf o) (hp : zPln rf p) (hW : WP pl) (hD : 3 ≤ D) (hdj : p + 12 < o ∨ o + 8 < p) (hP : PC mem p pl) (kk : ∀ mem', SC mem' o (aBeg pl (mem (o + 8))) → FS o mem mem' → mem' (o + 8) = mem (o + 8) → Q mem') : Cv X D 85 [(2, o), (2, p)] rf mem Q := by
  obtain ⟨d, rfl⟩ : ∃ d, D = d + 1 := ⟨D - 1, by omega⟩
  have e0 : mem p 3 = pl 0 3 := by have := hP 0 (by decide) (by decide); rw [← this]; rfl
  have e5 : mem p 5 = pl 0 5 := by have := hP 0 (by decide) (by decide); rw [← this]; rfl
  refine s_scene_begin hR ho hp ?_
  rw [zup_row _ _ _ (show p ≠ o by omega), zup_row _ _ _ (show p ≠ o by omega), zup_row _ _ _ (show p ≠ o by omega), e0, e5]
  have fr : ∀ i, i ≠ o → (zup (zup (zup (zup mem o 0 0) o 1 (pl 0 3)) o 2 (pl 0 5)) o 11 0) i = mem i := fun i hi => by
    rw [zup_row _ _ _ hi, zup_row _ _ _ hi, zup_row _ _ _ hi, zup_row _ _ _ hi]
  refine u_begin_28 (r8 := mem (o + 8)) hR ho hp hW (by omega) hdj kk 6 (hP.fr (fun s h1 h2 => fr _ (by omega))) (fun i hi => fr i (by omega)) (fr _ (by omega)) (by decide) (by decide) ?_
  intro s k hz hs
  by_cases e : s = 0
  · subst e
    have hk : k = 0 ∨ k = 1 ∨ k = 2 ∨ k = 11 := by unfold zdom at hz; omega
    show (zup (zup (zup (zup mem o 0 0) o 1 (pl 0 3)) o 2 (pl 0 5)) o 11 0) o k = _
    rcases hk with rfl | rfl | rfl | rfl
    · rw [zup_ne _ _ _ _ (by decide), zup_ne _ _ _ _ (by decide), zup_ne _ _ _ _ (by decide), zup_at]; rfl
    · rw [zup_ne _ _ _ _ (by decide), zup_ne _ _ _ _ (by decide), zup_at]; rfl
    · rw [zup_ne _ _ _ _ (by decide), zup_at]; rfl
    · rw [zup_at]; rfl
  · have e8 : s = 8 := by omega
    subst e8
    rw [fr _ (by omega)]
    rfl
end BEGIN
