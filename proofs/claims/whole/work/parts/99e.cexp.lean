/-! the program reads a SUM or a TEST: its state -/
/-- what stays while the program reads -/
def ZX (rf : zF) (p : Nat) (tb : Nat → Int) (n : Int) : Prop := zall rf zRK = true ∧ zPln rf p ∧ rf 3 1 = ((p : Nat) : Int) ∧ zRul rf (p + 9) ∧ (p = 8 ∨ p = 246) ∧ (0 ≤ n ∧ n ≤ 1600) ∧ TBy tb n
abbrev zC := List (Int × Int)
def zkc (x : Int × Int) : Int := zcm x.1 x.2
def zFP (m0 mem : zF) (p : Nat) : Prop := (∀ i, i ≠ 3 → i ≠ 4 → i ≠ p + 9 → i ≠ p + 10 → mem i = m0 i) ∧ ∀ j, j ≠ 3 → j ≠ 4 → mem 3 j = m0 3 j
theorem zFP.rfl {a : zF} {p : Nat} : zFP a a p := ⟨fun _ _ _ _ _ => Eq.refl _, fun _ _ _ => Eq.refl _⟩
theorem zFP.trans {a b c : zF} {p : Nat} (h1 : zFP a b p) (h2 : zFP b c p) : zFP a c p := ⟨fun i x y z w => (h2.1 i x y z w).trans (h1.1 i x y z w), fun j x y => (h2.2 j x y).trans (h1.2 j x y)⟩
/-- the program stands at s; L is what it has of the codes -/
def CE (m0 mem : zF) (p : Nat) (tb : Nat → Int) (n r s : Int) (L : zC) : Prop := TK mem tb n s ∧ zFP m0 mem p ∧ (mem 3 2 = r ∧ mem 3 = m0 3) ∧ mem (p + 9) 3 = (L.length : Int) ∧ ∀ i : Nat, i < L.length → mem (p + 10) i = zkc (L.getD i (0, 0))
/-- the program has refused -/
def CEF (m0 mem : zF) (p : Nat) (k pc : Int) : Prop := zFP m0 mem p ∧ mem 3 3 = k ∧ mem 3 4 = pc ∧ 0 ≤ mem (p + 9) 3 ∧ mem (p + 9) 3 ≤ 1600
theorem getD_app {L : zC} {x : Int × Int} {i : Nat} (h : i < (L ++ [x]).length) : (L ++ [x]).getD i (0, 0) = if i < L.length then L.getD i (0, 0) else x := by
  rw [List.length_append] at h
  simp only [List.length_cons, List.length_nil] at h
  rw [List.getD_eq_getElem?_getD, List.getD_eq_getElem?_getD]
  by_cases q : i < L.length
  · rw [if_pos q, List.getElem?_append_left q]
  · rw [if_neg q, List.getElem?_append_right (by omega)]
    have : i - L.length = 0 := by omega
    rw [this]
    rfl
section CEXP
variable {X : zX} {rf m0 mem : zF} {p D : Nat} {tb : Nat → Int} {n r s : Int} {L : zC}
theorem CE.sr (hz : ZX rf p tb n) (h : CE m0 mem p tb n r s L) : 0 ≤ s ∧ s ≤ n := h.1.r hz.2.2.2.2.2.1.1
theorem CE.next {Q : zF → Prop} (hz : ZX rf p tb n) (h : CE m0 mem p tb n r s L) (hs : s < n) (hc : tCod tb n s ≠ -1) (kk : ∀ mem', CE m0 mem' p tb n r (tNxt tb n s) L → Q mem') : Cv X D 132 [(2, 4)] rf mem Q := by
  have hp := hz.2.2.2.2.1
  refine u_tnext hz.1 hz.2.2.2.2.2.1 hz.2.2.2.2.2.2 h.1 hs hc (fun mem' f hT => kk mem' ⟨hT, ⟨fun i a b c d => by rw [f.1 i b]; exact h.2.1.1 i a b c d, fun j a b => by rw [f.1 3 (by decide)]; exact h.2.1.2 j a b⟩, ?_, ?_, ?_⟩)
  · rw [f.1 3 (by decide)]; exact h.2.2.1
  · rw [f.1 (p + 9) (by omega)]; exact h.2.2.2.1
  · intro i hi
    rw [f.1 (p + 10) (by omega)]; exact h.2.2.2.2 i hi
theorem CE.add {Q : zF → Prop} (hz : ZX rf p tb n) (h : CE m0 mem p tb n r s L) (x : Int × Int) {v : Int} (hv : zkc x = v) (hl : L.length < 1600) (kk : ∀ mem', CE m0 mem' p tb n r s (L ++ [x]) → Q mem') : Cv X D 77 [(2, ((p + 9 : Nat) : Int)), (0, v)] rf mem Q := by
  have hp := hz.2.2.2.2.1
  refine s_rules_add hz.1 hz.2.2.2.1 ?_
  rw [h.2.2.2.1]
  refine ⟨by omega, fun q => absurd q (by omega), fun _ => ⟨by omega, kk _ ?_⟩⟩
  have e0 : ((L.length : Int)).toNat = L.length := by omega
  rw [e0]
  generalize hm : zup (zup mem (p + 9 + 1) L.length v) (p + 9) 3 _ = m2
  have r1 : ∀ i, i ≠ p + 9 → i ≠ p + 10 → m2 i = mem i := fun i a b => by rw [← hm, zup_row _ _ _ a, zup_row _ _ _ b]
  refine ⟨h.1.fr (r1 4 (by omega) (by omega)) (r1 6 (by omega) (by omega)) (r1 7 (by omega) (by omega)), ⟨fun i a b c d => by rw [r1 i c d]; exact h.2.1.1 i a b c d, fun j a b => by rw [r1 3 (by omega) (by omega)]; exact h.2.1.2 j a b⟩, ?_, ?_, ?_⟩
  · rw [r1 3 (by omega) (by omega)]; exact h.2.2.1
  · rw [← hm, zup_at, zup_row _ _ _ (by omega), h.2.2.2.1, List.length_append]; rfl
  · intro i hi
    rw [getD_app hi, ← hm, zup_row _ _ _ (by omega)]
    by_cases q : i < L.length
    · rw [if_pos q, zup_ne _ _ _ _ (by omega)]
      exact h.2.2.2.2 i q
    · have : i = L.length := by
        rw [List.length_append] at hi
        simp only [List.length_cons, List.length_nil] at hi
        omega
      rw [if_neg q, this, zup_at]
      exact hv.symm
theorem CEF.add {Q : zF → Prop} {k pc : Int} (hz : ZX rf p tb n) (h : CEF m0 mem p k pc) {v : Int} (kk : ∀ mem', CEF m0 mem' p k pc → Q mem') : Cv X D 77 [(2, ((p + 9 : Nat) : Int)), (0, v)] rf mem Q := by
  have hp := hz.2.2.2.2.1
  have hl := h.2.2.2
  refine s_rules_add hz.1 hz.2.2.2.1 ⟨by omega, fun _ => kk mem h, fun q => ⟨by omega, kk _ ?_⟩⟩
  generalize hm : zup (zup mem (p + 9 + 1) _ v) (p + 9) 3 _ = m2
  have r1 : ∀ i, i ≠ p + 9 → i ≠ p + 10 → m2 i = mem i := fun i a b => by rw [← hm, zup_row _ _ _ a, zup_row _ _ _ b]
  have e3 : m2 (p + 9) 3 = mem (p + 9) 3 + 1 := by rw [← hm, zup_at, zup_row _ _ _ (by omega)]
  refine ⟨⟨fun i a b c d => by rw [r1 i c d]; exact h.1.1 i a b c d, fun j a b => by rw [r1 3 (by omega) (by omega)]; exact h.1.2 j a b⟩, ?_, ?_, by omega, by omega⟩
  · rw [r1 3 (by omega) (by omega)]; exact h.2.1
  · rw [r1 3 (by omega) (by omega)]; exact h.2.2.1
theorem CE.refuse {Q : Int → zF → Prop} {k : Int} (hz : ZX rf p tb n) (h : CE m0 mem p tb n r s L) (hl : L.length ≤ 1600) (kk : ∀ mem', CEF m0 mem' p k (tPlc tb n s) → Q 0 mem') : Ci X D 26 [(2, 3), (0, k)] rf mem Q := by
  have hp := hz.2.2.2.2.1
  refine s_parser_refuse hz.1 hz.2.1 hz.2.2.1 (kk _ ?_)
  rw [h.1.p]
  refine ⟨⟨fun i a b c d => by rw [zup_row _ _ _ a, zup_row _ _ _ a]; exact h.2.1.1 i a b c d, fun j a b => by rw [zup_ne _ _ _ _ b, zup_ne _ _ _ _ a]; exact h.2.1.2 j a b⟩, ?_, ?_, ?_⟩
  · rw [zup_ne _ _ _ _ (by decide), zup_at]
  · rw [zup_at]
  · rw [zup_row _ _ _ (by omega), zup_row _ _ _ (by omega), h.2.2.2.1]
    omega
theorem CE.isSign {Q : Int → zF → Prop} (hz : ZX rf p tb n) (h : CE m0 mem p tb n r s L) {c : Int} (hc : 0 ≤ c ∧ c ≤ 255) (k1 : tCod tb n s = 10000 + c → Q 1 mem) (k0 : tCod tb n s ≠ 10000 + c → Q 0 mem) : Ci X D 133 [(2, 4), (0, c)] rf mem Q := by
  refine s_tokens_isSign hz.1 ?_
  rw [h.1.c]
  exact ⟨⟨tCod_I hz.2.2.2.2.2.2 (h.sr hz).1, by omega⟩, k0, k1⟩
theorem CE.isNum {Q : Int → zF → Prop} (hz : ZX rf p tb n) (h : CE m0 mem p tb n r s L) (k1 : 0 ≤ tCod tb n s → tCod tb n s < 10000 → Q 1 mem) (k0 : ¬ (0 ≤ tCod tb n s ∧ tCod tb n s < 10000) → Q 0 mem) : Ci X D 134 [(2, 4)] rf mem Q := by
  refine s_tokens_isNumber hz.1 ?_
  rw [h.1.c]
  have := tCod_I hz.2.2.2.2.2.2 (h.sr hz).1
  exact ⟨this, fun q => k0 (by omega), fun q => ⟨this, fun q2 => k0 (by omega), fun q2 => k1 (by omega) (by omega)⟩⟩
/-- a sign must stand here -/
theorem CE.sign {Q : Int → zF → Prop} (hz : ZX rf p tb n) (h : CE m0 mem p tb n r s L) (hl : L.length ≤ 1600) (hD : 1 ≤ D) {c : Int} (hc : 0 ≤ c ∧ c ≤ 255) (kk : tCod tb n s = 10000 + c → ∀ mem', CE m0 mem' p tb n r (tNxt tb n s) L → Q 1 mem') (kf : tCod tb n s ≠ 10000 + c → ∀ mem', CEF m0 mem' p 1 (tPlc tb n s) → Q 0 mem') : Ci X D 36 [(2, 3), (0, c)] rf mem Q := by
  obtain ⟨d, rfl⟩ : ∃ d, D = d + 1 := ⟨D - 1, by omega⟩
  have hs := h.sr hz
  refine s_parser_readSign hz.1 hz.2.1 hz.2.2.1 (h.isSign hz hc (fun e => ⟨by decide, fun _ => ?_, fun q => absurd q (by decide)⟩) (fun e => ⟨by decide, fun q => absurd rfl q, fun _ => ?_⟩))
  · refine h.next hz ?_ (by omega) (kk e)
    have := tCod_rng hz.2.2.2.2.2.2 hs.1
    omega
  · exact h.refuse hz hl (fun mem' hf => ⟨Or.inl rfl, kf e mem' hf⟩)
/-- ( or [ must stand here, and not be too deep -/
theorem CE.opening {Q : Int → zF → Prop} (hz : ZX rf p tb n) (h : CE m0 mem p tb n r s L) (hl : L.length ≤ 1600) (hD : 2 ≤ D) {c o : Int} (hc : 0 ≤ c ∧ c ≤ 255) (ho : 0 ≤ o ∧ o ≤ 7) (kk : tCod tb n s = 10000 + c → o < 7 → ∀ mem', CE m0 mem' p tb n r (tNxt tb n s) L → Q 1 mem') (k5 : tCod tb n s = 10000 + c → o = 7 → ∀ mem', CEF m0 mem' p 5 (tPlc tb n s) → Q 0 mem') (kf : tCod tb n s ≠ 10000 + c → ∀ mem', CEF m0 mem' p 1 (tPlc tb n s) → Q 0 mem') : Ci X D 48 [(2, 3), (0, c), (0, o)] rf mem Q := by
  obtain ⟨d, rfl⟩ : ∃ d, D = d + 1 := ⟨D - 1, by omega⟩
  refine s_parser_readOpening hz.1 hz.2.1 hz.2.2.1 (h.isSign hz hc (fun e => ⟨by decide, fun q => absurd q (by decide), fun _ => ⟨by omega, fun q => ?_, fun q => ?_⟩⟩) (fun e => ⟨by decide, fun _ => ?_, fun q => absurd rfl q⟩))
  · exact h.sign hz hl (by omega) hc (fun e mem' g => ⟨Or.inr rfl, kk e q mem' g⟩) (fun c => absurd e c)
  · exact h.refuse hz hl (fun mem' hf => ⟨Or.inl rfl, k5 e (by omega) mem' hf⟩)
  · exact h.sign hz hl (by omega) hc (fun c => absurd c e) (fun e mem' g => ⟨Or.inl rfl, kf e mem' g⟩)
end CEXP
