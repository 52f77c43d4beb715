/-! the program cuts a token -/
def zFK (mem mem' : zF) : Prop := (∀ i, i ≠ 4 → mem' i = mem i) ∧ ∀ j, j ≠ 5 → j ≠ 7 → mem' 4 j = mem 4 j
theorem zFK.rfl {a : zF} : zFK a a := ⟨fun _ _ => Eq.refl _, fun _ _ _ => Eq.refl _⟩
theorem zFK.trans {a b c : zF} (h1 : zFK a b) (h2 : zFK b c) : zFK a c := ⟨fun i x => (h2.1 i x).trans (h1.1 i x), fun j p q => (h2.2 j p q).trans (h1.2 j p q)⟩
theorem zFK.up {a b : zF} {j : Nat} {v : Int} (h : zFK a b) (hj : j = 5 ∨ j = 7) : zFK a (zup b 4 j v) := ⟨fun i x => by rw [zup_row _ _ _ x]; exact h.1 i x, fun k p q => by rw [zup_ne _ _ _ _ (by omega)]; exact h.2 k p q⟩
theorem CX.fk {rf mem mem' : zF} {p : Nat} {pl sc : zF} (h : CX rf mem p pl sc) (f : zFK mem mem') : CX rf mem' p pl sc := by
  have hp := h.e
  exact ⟨h.1, h.pc.fr (fun s h1 h2 => f.1 _ (by omega)), h.s.fr (fun i i1 i2 => f.1 i (by omega))⟩
theorem TP.fk {mem mem' : zF} {tb : Nat → Int} (h : TP mem tb) (f : zFK mem mem') : TP mem' tb := by
  unfold TP
  rw [f.1 1 (by decide), f.1 2 (by decide), f.1 261 (by decide), f.1 262 (by decide)]
  exact h
/-- what the program reads at a place of the text -/
def tAt (tb : Nat → Int) (n k : Int) : Int := if 0 ≤ k ∧ k < n then tb k.toNat else -1
def tOwn (v : Int) : Int := aFd (fun k => decide (zow.getD k.toNat 0 = v)) 0 27
/-- the number of a word -/
def tWc (v : Int) : Int := if tOwn v = -1 then 1073741824 + v else 20000 + tOwn v
section CUT
variable {X : zX} {rf : zF} {p : Nat} {pl sc : zF} {tb : Nat → Int} {n : Int}
/-- the text is there and the program's own words -/
def TX (rf mem : zF) (p : Nat) (pl sc : zF) (tb : Nat → Int) (n : Int) : Prop := CX rf mem p pl sc ∧ TP mem tb ∧ mem 1 1 = n ∧ ∀ j : Nat, j < 27 → mem 5 j = zow.getD j 0
theorem TX.fk {mem mem' : zF} (h : TX rf mem p pl sc tb n) (f : zFK mem mem') : TX rf mem' p pl sc tb n := ⟨h.1.fk f, h.2.1.fk f, by rw [f.1 1 (by decide)]; exact h.2.2.1, fun j hj => by rw [f.1 5 (by decide)]; exact h.2.2.2 j hj⟩
theorem TX.len {mem : zF} (h : TX rf mem p pl sc tb n) : 0 ≤ n ∧ n ≤ 1600 := by
  have := h.2.1.2.1
  rw [h.2.2.1] at this
  exact this
theorem TX.b {mem : zF} (h : TX rf mem p pl sc tb n) {k : Int} (h0 : 0 ≤ k) (h1 : k < n) : 0 ≤ tb k.toNat ∧ tb k.toNat ≤ 255 := (h.2.1.2.2 k.toNat (by rw [h.2.2.1]; omega)).2.2
theorem TX.at {mem : zF} {d : Nat} {Q : Int → zF → Prop} (h : TX rf mem p pl sc tb n) {k : Int} (hk : inI k) (kk : Q (tAt tb n k) mem) : Ci X d 125 [(2, 1), (0, k)] rf mem Q := by
  refine u_at h.1 h.2.1 hk ?_
  rw [h.2.2.1]
  exact kk
theorem tAt_I {mem : zF} (h : TX rf mem p pl sc tb n) (k : Int) : inI (tAt tb n k) := by
  unfold tAt
  split
  · next q =>
    have := h.b q.1 q.2
    omega
  · decide
theorem zow_I : ∀ j : Fin 27, 0 ≤ zow.getD j.val 0 ∧ zow.getD j.val 0 < 1073741824 := by decide +kernel
/-- the search for an own word -/
theorem u_own {D : Nat} {Q : Int → zF → Prop} {mem : zF} (hT : TX rf mem p pl sc tb n) {v : Int} (hv : 0 ≤ v ∧ v < 1073741824) (kk : Q (tWc v) mem) : ∀ (m : Nat) {x : Int}, 0 ≤ x → x + m = 27 → tOwn v = aFd (fun k => decide (zow.getD k.toNat 0 = v)) x m → L_tokens_cutWord_81 X D rf Q mem v x
  | 0, x, h0, hx, he => by
    refine s_tokens_cutWord_81 hT.1.r ⟨by omega, fun _ => ?_, fun q => absurd (by omega) q⟩
    unfold tWc at kk
    rw [he, if_pos (show aFd (fun k => decide (zow.getD k.toNat 0 = v)) x 0 = -1 from rfl)] at kk
    exact kk
  | m + 1, x, h0, hx, he => by
    have hz := zow_I ⟨x.toNat, by omega⟩
    simp only at hz
    refine s_tokens_cutWord_81 hT.1.r ?_
    rw [hT.2.2.2 x.toNat (by omega)]
    refine ⟨by omega, fun q => absurd q (by omega), fun _ => ⟨by omega, by omega, fun q => ?_, fun q => ?_⟩⟩
    · refine u_own hT hv kk m (by omega) (by omega) ?_
      rw [he, aFd_f (decide_eq_false q)]
    · rw [aFd_t (decide_eq_true q)] at he
      unfold tWc at kk
      rw [he, if_neg (by omega)] at kk
      exact kk
/-- the letters of a word; s: where it begins, k of them read -/
theorem u_word {D : Nat} {Q : Int → zF → Prop} {m0 : zF} {s : Int} (hs : 0 ≤ s ∧ s < n) (kb : 6 < trun zisL tb (n - s).toNat s - s → ∀ mem', zFK m0 mem' → mem' 4 5 = s + 6 → mem' 4 7 = s + 6 → Q (-1) mem') (kk : trun zisL tb (n - s).toNat s - s ≤ 6 → ∀ mem', zFK m0 mem' → mem' 4 5 = m0 4 5 → mem' 4 7 = trun zisL tb (n - s).toNat s → Q (tWc (zn5 (tL tb (trun zisL tb (n - s).toNat s - s).toNat s))) mem') : ∀ (m k : Nat) {mem : zF}, m + k = 6 → TX rf mem p pl sc tb n → zFK m0 mem → mem 4 5 = m0 4 5 → mem 4 7 = s + k → s + k ≤ trun zisL tb (n - s).toNat s → L_tokens_cutWord_4 X D rf Q mem (zn5 (tL tb k s)) (k : Int) := by
  have rg := trun_rng (P := zisL) (tb := tb) (n - s).toNat s
  have inr := trun_in (P := zisL) (tb := tb) (n - s).toNat s
  have en := trun_end (P := zisL) (tb := tb) (n - s).toNat s
  generalize trun zisL tb (n - s).toNat s = e at kb kk rg inr en ⊢
  have hp32 : ∀ k : Nat, k ≤ 6 → (32 : Int) ^ k ≤ 1073741824 := by
    intro k hk
    have : k = 0 ∨ k = 1 ∨ k = 2 ∨ k = 3 ∨ k = 4 ∨ k = 5 ∨ k = 6 := by omega
    rcases this with rfl | rfl | rfl | rfl | rfl | rfl | rfl <;> decide
  have acc : ∀ k : Nat, k ≤ 6 → s + k ≤ e → 0 ≤ zn5 (tL tb k s) ∧ zn5 (tL tb k s) < 32 ^ k := by
    intro k hk hke
    have := zn5_rng (tL tb k s) (tL_in k s (fun i a b => inr i a (by omega)))
    rw [tL_len] at this
    exact this
  -- past the letters
  have past : ∀ (k : Nat) {mem : zF}, k ≤ 6 → TX rf mem p pl sc tb n → zFK m0 mem → mem 4 5 = m0 4 5 → mem 4 7 = s + k → s + k ≤ e → (k = 6 ∨ s + k = e) → L_tokens_cutWord_55 X D rf Q mem (zn5 (tL tb k s)) := by
    intro k mem hk6 hT f0 h5 h7 hke hor
    have hnn := hT.len
    have ha := acc k hk6 hke
    have hp := hp32 k hk6
    refine s_tokens_cutWord_55 hT.1.r ?_
    rw [h7]
    refine hT.at (by omega) (u_isL hT.1.r (tAt_I hT _) ?_)
    by_cases hl : zisL (tAt tb n (s + k)) = true
    · rw [if_pos hl]
      refine ⟨by decide, fun q => absurd q (by decide), fun _ => ?_⟩
      have hin : s + k < n := by
        by_cases q : s + k < n
        · exact q
        · unfold tAt at hl
          rw [if_neg (by omega)] at hl
          exact absurd hl (by decide)
      have hne : s + k ≠ e := by
        intro q
        have := en (by omega)
        unfold tAt at hl
        rw [if_pos (by omega), q, this] at hl
        exact absurd hl (by decide)
      have k6 : k = 6 := by omega
      rw [h7, k6]
      exact kb (by omega) _ (f0.up (by decide)) (by rw [zup_at]; rfl) (by rw [zup_ne _ _ _ _ (by decide), h7, k6]; rfl)
    · rw [if_neg hl]
      refine ⟨by decide, fun _ => ?_, fun q => absurd rfl q⟩
      have hke2 : s + k = e := by
        by_cases q : s + k = e
        · exact q
        · have := inr (s + k) (by omega) (by omega)
          refine absurd ?_ hl
          unfold tAt
          rw [if_pos (by omega)]
          exact this
      have ek : (e - s).toNat = k := by omega
      refine u_own hT (by omega) ?_ 27 (by decide) (by decide) rfl
      have := kk (by omega) mem f0 h5 (by rw [h7]; exact hke2)
      rw [ek] at this
      exact this
  intro m
  induction m with
  | zero =>
    intro k mem hmk hT f0 h5 h7 hke
    refine s_tokens_cutWord_4 hT.1.r ⟨by omega, fun _ => past k (by omega) hT f0 h5 h7 hke (by omega), fun q => absurd (by omega) q⟩
  | succ m ih =>
    intro k mem hmk hT f0 h5 h7 hke
    have hnn := hT.len
    refine s_tokens_cutWord_4 hT.1.r ⟨by omega, fun q => absurd q (by omega), fun _ => ?_⟩
    rw [h7]
    refine hT.at (by omega) (u_isL hT.1.r (tAt_I hT _) ?_)
    by_cases hl : zisL (tAt tb n (s + k)) = true
    · rw [if_pos hl]
      refine ⟨by decide, fun q => absurd q (by decide), fun _ => ?_⟩
      have hin : s + k < n := by
        by_cases q : s + k < n
        · exact q
        · unfold tAt at hl
          rw [if_neg (by omega)] at hl
          exact absurd hl (by decide)
      have et : tAt tb n (s + k) = tb (s + k).toNat := by
        unfold tAt
        rw [if_pos (by omega)]
      have hke2 : s + k + 1 ≤ e := by
        by_cases q : s + k = e
        · have := en (by omega)
          rw [et, q, this] at hl
          exact absurd hl (by decide)
        · omega
      rw [h7]
      refine hT.at (by omega) (s_tokens_letterBits hT.1.r ?_)
      rw [et] at hl ⊢
      have hL := of_decide_eq_true hl
      have ha := acc k (by omega) hke
      have e96 : tb (s + k).toNat - 97 + 1 = tb (s + k).toNat - 96 := by omega
      have hb := zbits (k := k) (a := zn5 (tL tb k s)) (l := tb (s + k).toNat - 96) (by omega) ha (by omega)
      have hs5 := zn5_snoc (tb (s + k).toNat - 96) (tL tb k s)
      rw [tL_len, ← tL_snoc] at hs5
      rw [e96, hb, ← hs5, h7]
      have ek : (k : Int) + 1 = ((k + 1 : Nat) : Int) := by omega
      rw [ek]
      refine ih (k + 1) (by omega) (hT.fk (zFK.rfl.up (by decide))) (f0.trans (zFK.rfl.up (by decide))) (by rw [zup_ne _ _ _ _ (by decide)]; exact h5) (by rw [zup_at]; omega) (by omega)
    · rw [if_neg hl]
      refine ⟨by decide, fun _ => past k (by omega) hT f0 h5 h7 hke (Or.inr ?_), fun q => absurd rfl q⟩
      by_cases q : s + k = e
      · exact q
      · have := inr (s + k) (by omega) (by omega)
        refine absurd ?_ hl
        unfold tAt
        rw [if_pos (by omega)]
        exact this
end CUT
