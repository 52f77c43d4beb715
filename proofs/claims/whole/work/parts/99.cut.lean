/-! the program cuts a number, a token -/
theorem tV_snoc {tb : Nat → Int} : ∀ (k : Nat) (x w : Int), tV tb (k + 1) x w = 10 * tV tb k x w + tb (x + k).toNat - 48
  | 0, x, w => by
    show 10 * w + tb x.toNat - 48 = 10 * w + tb (x + 0).toNat - 48
    rw [Int.add_zero]
  | k + 1, x, w => by
    have := tV_snoc (tb := tb) k (x + 1) (10 * w + tb x.toNat - 48)
    show tV tb (k + 1) (x + 1) (10 * w + tb x.toNat - 48) = 10 * tV tb k (x + 1) (10 * w + tb x.toNat - 48) + tb (x + ((k + 1 : Nat) : Int)).toNat - 48
    rw [this]
    have e : x + 1 + (k : Int) = x + ((k + 1 : Nat) : Int) := by omega
    rw [e]
theorem tV_rng {tb : Nat → Int} : ∀ (k : Nat) (x : Int), (∀ i : Int, x ≤ i → i < x + k → zisD (tb i.toNat) = true) → 0 ≤ tV tb k x 0 ∧ tV tb k x 0 < 10 ^ k
  | 0, _, _ => by
    show (0 : Int) ≤ 0 ∧ (0 : Int) < 10 ^ 0
    decide
  | k + 1, x, h => by
    have ih := tV_rng (tb := tb) k x (fun i a b => h i a (by omega))
    have hd := of_decide_eq_true (h (x + k) (by omega) (by omega))
    rw [tV_snoc, Int.pow_succ]
    generalize tV tb k x 0 = v at ih ⊢
    generalize (10 : Int) ^ k = t at ih ⊢
    omega
section CUT2
variable {X : zX} {rf : zF} {p : Nat} {pl sc : zF} {tb : Nat → Int} {n : Int}
/-- the digits of a number; s: where it begins, k of them read -/
theorem u_num {D : Nat} {Q : Int → zF → Prop} {m0 : zF} {s : Int} (hs : 0 ≤ s ∧ s < n) (kb : 4 < trun zisD tb (n - s).toNat s - s → ∀ mem', zFK m0 mem' → mem' 4 5 = s + 4 → mem' 4 7 = s + 4 → Q (-1) mem') (kk : trun zisD tb (n - s).toNat s - s ≤ 4 → ∀ mem', zFK m0 mem' → mem' 4 5 = m0 4 5 → mem' 4 7 = trun zisD tb (n - s).toNat s → Q (tV tb (trun zisD tb (n - s).toNat s - s).toNat s 0) mem') : ∀ (m k : Nat) {mem : zF}, m + k = 4 → TX rf mem p pl sc tb n → zFK m0 mem → mem 4 5 = m0 4 5 → mem 4 7 = s + k → s + k ≤ trun zisD tb (n - s).toNat s → L_tokens_cutNumber_4 X D rf Q mem (tV tb k s 0) (k : Int) := by
  have rg := trun_rng (P := zisD) (tb := tb) (n - s).toNat s
  have inr := trun_in (P := zisD) (tb := tb) (n - s).toNat s
  have en := trun_end (P := zisD) (tb := tb) (n - s).toNat s
  generalize trun zisD tb (n - s).toNat s = e at kb kk rg inr en ⊢
  -- past the digits
  have past : ∀ (k : Nat) {mem : zF}, k ≤ 4 → TX rf mem p pl sc tb n → zFK m0 mem → mem 4 5 = m0 4 5 → mem 4 7 = s + k → s + k ≤ e → (k = 4 ∨ s + k = e) → L_tokens_cutNumber_56 X D rf Q mem (tV tb k s 0) := by
    intro k mem hk6 hT f0 h5 h7 hke hor
    have hnn := hT.len
    refine s_tokens_cutNumber_56 hT.1.r ?_
    rw [h7]
    refine hT.at (by omega) (u_isD hT.1.r (tAt_I hT _) ?_)
    by_cases hl : zisD (tAt tb n (s + k)) = true
    · rw [if_pos hl]
      refine ⟨by decide, fun q => absurd q (by decide), fun _ => ?_⟩
      have hin : s + k < n := by
        by_cases q : s + k < n
        · exact q
        · unfold tAt at hl
          rw [if_neg (by omega)] at hl
          exact absurd hl (by decide)
      have hne : s + k ≠ e := by
        intro q
        have := en (by omega)
        unfold tAt at hl
        rw [if_pos (by omega), q, this] at hl
        exact absurd hl (by decide)
      have k6 : k = 4 := by omega
      rw [h7, k6]
      exact kb (by omega) _ (f0.up (by decide)) (by rw [zup_at]; rfl) (by rw [zup_ne _ _ _ _ (by decide), h7, k6]; rfl)
    · rw [if_neg hl]
      refine ⟨by decide, fun _ => ?_, fun q => absurd rfl q⟩
      have hke2 : s + k = e := by
        by_cases q : s + k = e
        · exact q
        · have := inr (s + k) (by omega) (by omega)
          refine absurd ?_ hl
          unfold tAt
          rw [if_pos (by omega)]
          exact this
      have ek : (e - s).toNat = k := by omega
      have := kk (by omega) mem f0 h5 (by rw [h7]; exact hke2)
      rw [ek] at this
      exact this
  intro m
  induction m with
  | zero =>
    intro k mem hmk hT f0 h5 h7 hke
    refine s_tokens_cutNumber_4 hT.1.r ⟨by omega, fun _ => past k (by omega) hT f0 h5 h7 hke (by omega), fun q => absurd (by omega) q⟩
  | succ m ih =>
    intro k mem hmk hT f0 h5 h7 hke
    have hnn := hT.len
    refine s_tokens_cutNumber_4 hT.1.r ⟨by omega, fun q => absurd q (by omega), fun _ => ?_⟩
    rw [h7]
    refine hT.at (by omega) (u_isD hT.1.r (tAt_I hT _) ?_)
    by_cases hl : zisD (tAt tb n (s + k)) = true
    · rw [if_pos hl]
      refine ⟨by decide, fun q => absurd q (by decide), fun _ => ?_⟩
      have hin : s + k < n := by
        by_cases q : s + k < n
        · exact q
        · unfold tAt at hl
          rw [if_neg (by omega)] at hl
          exact absurd hl (by decide)
      have et : tAt tb n (s + k) = tb (s + k).toNat := by
        unfold tAt
        rw [if_pos (by omega)]
      have hke2 : s + k + 1 ≤ e := by
        by_cases q : s + k = e
        · have := en (by omega)
          rw [et, q, this] at hl
          exact absurd hl (by decide)
        · omega
      rw [h7]
      refine hT.at (by omega) ?_
      rw [et, h7]
      have ek : (k : Int) + 1 = ((k + 1 : Nat) : Int) := by omega
      have es := tV_snoc (tb := tb) k s 0
      rw [← es, ek]
      refine ih (k + 1) (by omega) (hT.fk (zFK.rfl.up (by decide))) (f0.trans (zFK.rfl.up (by decide))) (by rw [zup_ne _ _ _ _ (by decide)]; exact h5) (by rw [zup_at]; omega) (by omega)
    · rw [if_neg hl]
      refine ⟨by decide, fun _ => past k (by omega) hT f0 h5 h7 hke (Or.inr ?_), fun q => absurd rfl q⟩
      by_cases q : s + k = e
      · exact q
      · have := inr (s + k) (by omega) (by omega)
        refine absurd ?_ hl
        unfold tAt
        rw [if_pos (by omega)]
        exact this
end CUT2
/-! the token at a place: its end, its number, where its fault is -/
def tEnd (tb : Nat → Int) (n s : Int) : Int := if n ≤ s then s else if zisL (tb s.toNat) = true then trun zisL tb (n - s).toNat s else if zisD (tb s.toNat) = true then trun zisD tb (n - s).toNat s else s + 1
def tBp (tb : Nat → Int) (n s : Int) : Int := if n ≤ s then -1 else if zisL (tb s.toNat) = true then tBad tb s (trun zisL tb (n - s).toNat s) 6 else if zisD (tb s.toNat) = true then tBad tb s (trun zisD tb (n - s).toNat s) 4 else -1
def tCod (tb : Nat → Int) (n s : Int) : Int := if n ≤ s then -2 else if tBp tb n s ≠ -1 then -1 else if zisL (tb s.toNat) = true then tWc (zn5 (tL tb (trun zisL tb (n - s).toNat s - s).toNat s)) else if zisD (tb s.toNat) = true then tV tb (trun zisD tb (n - s).toNat s - s).toNat s 0 else 10000 + tb s.toNat
def tPlc (tb : Nat → Int) (n s : Int) : Int := if tCod tb n s = -1 then tBp tb n s else s
def tNxt (tb : Nat → Int) (n s : Int) : Int := tskp tb n (tEnd tb n s)
theorem trun_pos {P : Int → Bool} {tb : Nat → Int} {n s : Int} (h : s < n) (hp : P (tb s.toNat) = true) : s + 1 ≤ trun P tb (n - s).toNat s := by
  obtain ⟨m, hm⟩ : ∃ m, (n - s).toNat = m + 1 := ⟨(n - s).toNat - 1, by omega⟩
  rw [hm]
  unfold trun
  rw [if_pos hp]
  have := trun_rng (P := P) (tb := tb) m (s + 1)
  omega
theorem tEnd_rng {tb : Nat → Int} {n s : Int} (h : s < n) : s + 1 ≤ tEnd tb n s ∧ tEnd tb n s ≤ n := by
  unfold tEnd
  rw [if_neg (by omega)]
  split
  · next q =>
    have := trun_rng (P := zisL) (tb := tb) (n - s).toNat s
    exact ⟨trun_pos h q, by omega⟩
  · split
    · next q =>
      have := trun_rng (P := zisD) (tb := tb) (n - s).toNat s
      exact ⟨trun_pos h q, by omega⟩
    · omega
theorem tskp_rng {tb : Nat → Int} {n x : Int} (h : x ≤ n) : x ≤ tskp tb n x ∧ tskp tb n x ≤ n := by
  have := trun_rng (P := zisB) (tb := tb) (n - x).toNat x
  unfold tskp
  omega
theorem tNxt_rng {tb : Nat → Int} {n s : Int} (h : s < n) : s + 1 ≤ tNxt tb n s ∧ tNxt tb n s ≤ n := by
  have h1 := tEnd_rng (tb := tb) h
  have h2 := tskp_rng (tb := tb) h1.2
  unfold tNxt
  omega
theorem tskp_b {tb : Nat → Int} {n x : Int} (h : x < n) (hb : zisB (tb x.toNat) = true) : tskp tb n x = tskp tb n (x + 1) := by
  obtain ⟨m, hm⟩ : ∃ m, (n - x).toNat = m + 1 := ⟨(n - x).toNat - 1, by omega⟩
  have hm2 : (n - (x + 1)).toNat = m := by omega
  unfold tskp
  rw [hm, hm2]
  show (if zisB (tb x.toNat) = true then trun zisB tb m (x + 1) else x) = _
  rw [if_pos hb]
theorem tskp_n {tb : Nat → Int} {n x : Int} (h : x < n) (hb : zisB (tb x.toNat) = false) : tskp tb n x = x := by
  obtain ⟨m, hm⟩ : ∃ m, (n - x).toNat = m + 1 := ⟨(n - x).toNat - 1, by omega⟩
  unfold tskp
  rw [hm]
  show (if zisB (tb x.toNat) = true then trun zisB tb m (x + 1) else x) = _
  rw [if_neg (by rw [hb]; decide)]
theorem tskp_e {tb : Nat → Int} {n : Int} : tskp tb n n = n := by
  unfold tskp
  have : (n - n).toNat = 0 := by omega
  rw [this]
  rfl
theorem tBad_rng {tb : Nat → Int} {s e mx : Int} (hs : 0 ≤ s) (hm : 0 ≤ mx) : tBad tb s e mx = -1 ∨ (s ≤ tBad tb s e mx ∧ tBad tb s e mx ≤ s + mx ∧ (tBad tb s e mx < e ∨ tBad tb s e mx = s)) := by
  unfold tBad
  split
  · exact Or.inr ⟨by omega, by omega, Or.inr rfl⟩
  · split
    · exact Or.inr ⟨by omega, by omega, Or.inl (by omega)⟩
    · exact Or.inl rfl
theorem tBp_rng {tb : Nat → Int} {n s : Int} (hs : 0 ≤ s) (hn : n ≤ 1600) : -1 ≤ tBp tb n s ∧ tBp tb n s ≤ 1700 := by
  unfold tBp
  split
  · decide
  · split
    · have := tBad_rng (tb := tb) (s := s) (e := trun zisL tb (n - s).toNat s) (mx := 6) hs (by decide)
      omega
    · split
      · have := tBad_rng (tb := tb) (s := s) (e := trun zisD tb (n - s).toNat s) (mx := 4) hs (by decide)
        omega
      · decide
