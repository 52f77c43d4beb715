/-! tokens: letters, digits, blanks, runs of them -/
def zisL (c : Int) : Bool := decide (97 ≤ c ∧ c ≤ 122)
def zisD (c : Int) : Bool := decide (48 ≤ c ∧ c ≤ 57)
def zisB (c : Int) : Bool := decide (c = 32 ∨ c = 10)
/-- where the run of such bytes from x on ends -/
def trun (P : Int → Bool) (tb : Nat → Int) : Nat → Int → Int
  | 0, x => x
  | m + 1, x => if P (tb x.toNat) = true then trun P tb m (x + 1) else x
theorem trun_rng {P : Int → Bool} {tb : Nat → Int} : ∀ (m : Nat) (x : Int), x ≤ trun P tb m x ∧ trun P tb m x ≤ x + m
  | 0, x => by unfold trun; omega
  | m + 1, x => by
    have := trun_rng (P := P) (tb := tb) m (x + 1)
    unfold trun
    split <;> omega
theorem trun_in {P : Int → Bool} {tb : Nat → Int} : ∀ (m : Nat) (x k : Int), x ≤ k → k < trun P tb m x → P (tb k.toNat) = true
  | 0, x, k, h1, h2 => by unfold trun at h2; omega
  | m + 1, x, k, h1, h2 => by
    unfold trun at h2
    split at h2
    · next q =>
      by_cases e : k = x
      · rw [e]; exact q
      · exact trun_in m (x + 1) k (by omega) h2
    · omega
theorem trun_end {P : Int → Bool} {tb : Nat → Int} : ∀ (m : Nat) (x : Int), trun P tb m x < x + m → P (tb (trun P tb m x).toNat) = false
  | 0, x, h => by unfold trun at h; omega
  | m + 1, x, h => by
    unfold trun at h ⊢
    split
    · next q =>
      rw [if_pos q] at h
      exact trun_end m (x + 1) (by omega)
    · next q =>
      exact Bool.eq_false_iff.mpr q
/-- the first byte from x on that is no blank -/
def tskp (tb : Nat → Int) (n x : Int) : Int := trun zisB tb (n - x).toNat x
section TOK
variable {X : zX} {rf mem : zF} {d : Nat}
theorem t_isL {Q : Int → zF → Prop} (hR : zall rf zRK = true) {c : Int} (hc : inI c) (kk : Q (if zisL c = true then 1 else 0) mem) : Ci X d 199 [(0, c)] rf mem Q := by
  refine s_m_isLetter hR ⟨hc, fun q => ?_, fun q => ⟨hc, fun q2 => ?_, fun q2 => ?_⟩⟩
  · rwa [if_neg (by unfold zisL; rw [decide_eq_true_eq]; omega)] at kk
  · rwa [if_neg (by unfold zisL; rw [decide_eq_true_eq]; omega)] at kk
  · rwa [if_pos (by unfold zisL; rw [decide_eq_true_eq]; omega)] at kk
theorem t_isD {Q : Int → zF → Prop} (hR : zall rf zRK = true) {c : Int} (hc : inI c) (kk : Q (if zisD c = true then 1 else 0) mem) : Ci X d 200 [(0, c)] rf mem Q := by
  refine s_m_isDigit hR ⟨hc, fun q => ?_, fun q => ⟨hc, fun q2 => ?_, fun q2 => ?_⟩⟩
  · rwa [if_neg (by unfold zisD; rw [decide_eq_true_eq]; omega)] at kk
  · rwa [if_neg (by unfold zisD; rw [decide_eq_true_eq]; omega)] at kk
  · rwa [if_pos (by unfold zisD; rw [decide_eq_true_eq]; omega)] at kk
theorem u_isL {Q : Int → zF → Prop} (hR : zall rf zRK = true) {c : Int} (hc : inI c) (kk : Q (if zisL c = true then 1 else 0) mem) : Ci X d 138 [(0, c)] rf mem Q := by
  refine s_tokens_isLetter hR ⟨hc, fun q => ?_, fun q => ⟨hc, fun q2 => ?_, fun q2 => ?_⟩⟩
  · rwa [if_neg (by unfold zisL; rw [decide_eq_true_eq]; omega)] at kk
  · rwa [if_neg (by unfold zisL; rw [decide_eq_true_eq]; omega)] at kk
  · rwa [if_pos (by unfold zisL; rw [decide_eq_true_eq]; omega)] at kk
theorem u_isD {Q : Int → zF → Prop} (hR : zall rf zRK = true) {c : Int} (hc : inI c) (kk : Q (if zisD c = true then 1 else 0) mem) : Ci X d 139 [(0, c)] rf mem Q := by
  refine s_tokens_isDigit hR ⟨hc, fun q => ?_, fun q => ⟨hc, fun q2 => ?_, fun q2 => ?_⟩⟩
  · rwa [if_neg (by unfold zisD; rw [decide_eq_true_eq]; omega)] at kk
  · rwa [if_neg (by unfold zisD; rw [decide_eq_true_eq]; omega)] at kk
  · rwa [if_pos (by unfold zisD; rw [decide_eq_true_eq]; omega)] at kk
/-- the reference skips blanks -/
theorem t_ahead_5 {Q : zF → Prop} (hR : zall rf zRK = true) {tb : Nat → Int} {n : Int} (hn : mem 261 2 = n ∧ 0 ≤ n ∧ n ≤ 1600) (hb : ∀ j : Nat, (j : Int) < n → mem 262 j = tb j ∧ 0 ≤ tb j ∧ tb j ≤ 255) : ∀ (m : Nat) {x : Int}, 0 ≤ x → x + m = n → L_m_ahead_41 X d rf Q mem (trun zisB tb m x) → L_m_ahead_5 X d rf Q mem x
  | 0, x, h0, hx, kk => by
    refine s_m_ahead_5 hR ?_
    rw [hn.1]
    exact ⟨by omega, fun _ => kk, fun q => absurd (by omega) q⟩
  | m + 1, x, h0, hx, kk => by
    have hbx := hb x.toNat (by omega)
    refine s_m_ahead_5 hR ?_
    rw [hn.1, hbx.1]
    unfold trun at kk
    refine ⟨by omega, fun q => absurd q (by omega), fun _ => ⟨by omega, by omega, fun q => ?_, fun q => ⟨by omega, by omega, fun q2 => ?_, fun q2 => ?_⟩⟩⟩
    · rw [if_pos (by unfold zisB; rw [decide_eq_true_eq]; omega)] at kk
      exact t_ahead_5 hR hn hb m (by omega) (by omega) kk
    · rw [if_neg (by unfold zisB; rw [decide_eq_true_eq]; omega)] at kk
      exact kk
    · rw [if_pos (by unfold zisB; rw [decide_eq_true_eq]; omega)] at kk
      exact t_ahead_5 hR hn hb m (by omega) (by omega) kk
end TOK
