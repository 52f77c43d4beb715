/-! STATEMENTS: what both read, step by step -/
abbrev zPS (α : Type) := Sum (Int × Int) (Int × α)
def pB {α β : Type} (x : zPS α) (f : Int → α → zPS β) : zPS β := match x with
  | .inl e => .inl e
  | .inr (s, a) => f s a
/-- faults and places are as they must be -/
def pOK {α : Type} (n s : Int) (x : zPS α) : Prop := match x with
  | .inl (k, pc) => (1 ≤ k ∧ k ≤ 6) ∧ inI pc
  | .inr (s', _) => s < s' ∧ s' ≤ n
theorem pB_ok {α β : Type} {n s : Int} {x : zPS α} {f : Int → α → zPS β} (h1 : pOK n s x) (h2 : ∀ s' a, x = .inr (s', a) → s < s' → s' ≤ n → pOK n s' (f s' a)) : pOK n s (pB x f) := by
  cases x with
  | inl e => exact h1
  | inr y =>
    obtain ⟨s', a⟩ := y
    have h1 : s < s' ∧ s' ≤ n := h1
    have := h2 s' a rfl h1.1 h1.2
    show pOK n s (f s' a)
    cases hf : f s' a with
    | inl e => rw [hf] at this; exact this
    | inr y =>
      rw [hf] at this
      obtain ⟨s2, b⟩ := y
      have this : s' < s2 ∧ s2 ≤ n := this
      exact ⟨by omega, this.2⟩
def pW (tb : Nat → Int) (n c s : Int) : zPS Int := if tCod tb n s = c then .inr (tNxt tb n s, 0) else .inl (1, tPlc tb n s)
def pN (tb : Nat → Int) (n lo hi s : Int) : zPS Int := if 0 ≤ tCod tb n s ∧ tCod tb n s < 10000 then (if lo ≤ tCod tb n s ∧ tCod tb n s ≤ hi then .inr (tNxt tb n s, tCod tb n s) else .inl (4, tPlc tb n s)) else .inl (1, tPlc tb n s)
section PURE2
variable {tb : Nat → Int} {n : Int}
theorem pW_inr {c s s' v : Int} (h : pW tb n c s = .inr (s', v)) : tCod tb n s = c ∧ s' = tNxt tb n s := by
  unfold pW at h
  split at h
  · next q => cases h; exact ⟨q, rfl⟩
  · cases h
theorem pW_inl {c s k pc : Int} (h : pW tb n c s = .inl (k, pc)) : tCod tb n s ≠ c ∧ k = 1 ∧ pc = tPlc tb n s := by
  unfold pW at h
  split at h
  · cases h
  · next q => cases h; exact ⟨q, rfl, rfl⟩
theorem pN_inr {lo hi s s' v : Int} (h : pN tb n lo hi s = .inr (s', v)) : (0 ≤ v ∧ v < 10000) ∧ (lo ≤ v ∧ v ≤ hi) ∧ v = tCod tb n s ∧ s' = tNxt tb n s := by
  unfold pN at h
  split at h
  · next q =>
    split at h
    · next q2 => cases h; exact ⟨q, q2, rfl, rfl⟩
    · cases h
  · cases h
theorem pN_inl {lo hi s k pc : Int} (h : pN tb n lo hi s = .inl (k, pc)) : pc = tPlc tb n s ∧ ((k = 1 ∧ ¬ (0 ≤ tCod tb n s ∧ tCod tb n s < 10000)) ∨ (k = 4 ∧ (0 ≤ tCod tb n s ∧ tCod tb n s < 10000) ∧ ¬ (lo ≤ tCod tb n s ∧ tCod tb n s ≤ hi))) := by
  unfold pN at h
  split at h
  · next q =>
    split at h
    · cases h
    · next q2 => cases h; exact ⟨rfl, Or.inr ⟨rfl, q, q2⟩⟩
  · next q => cases h; exact ⟨rfl, Or.inl ⟨rfl, q⟩⟩
theorem pW_ok {c s : Int} (hb : TBy tb n) (hn : n ≤ 1600) (hs : 0 ≤ s ∧ s ≤ n) (hc : 0 ≤ c) : pOK n s (pW tb n c s) := by
  unfold pW
  split
  · next q =>
    have hsn : s < n := by
      have := tCod_rng hb hs.1
      omega
    have := tNxt_rng (tb := tb) hsn
    exact ⟨by omega, this.2⟩
  · exact ⟨by decide, tPlc_I hs hn⟩
theorem pN_ok {lo hi s : Int} (hb : TBy tb n) (hn : n ≤ 1600) (hs : 0 ≤ s ∧ s ≤ n) : pOK n s (pN tb n lo hi s) := by
  unfold pN
  split
  · next q =>
    split
    · have hsn : s < n := by
        have := tCod_rng hb hs.1
        omega
      have := tNxt_rng (tb := tb) hsn
      exact ⟨by omega, this.2⟩
    · exact ⟨by decide, tPlc_I hs hn⟩
  · exact ⟨by decide, tPlc_I hs hn⟩
end PURE2
section CSTEP
variable {X : zX} {rf m0 mem : zF} {p D : Nat} {tb : Nat → Int} {n r s : Int} {L : zC}
theorem CE.word {Q : Int → zF → Prop} (hz : ZX rf p tb n) (h : CE m0 mem p tb n r s L) (hl : L.length ≤ 1600) (hD : 1 ≤ D) {c : Int} (hc : 20000 ≤ c ∧ c ≤ 20026) (kk : ∀ s' v, pW tb n c s = .inr (s', v) → ∀ mem', CE m0 mem' p tb n r s' L → Q 1 mem') (kf : ∀ k pc, pW tb n c s = .inl (k, pc) → ∀ mem', CEF m0 mem' p k pc → Q 0 mem') : Ci X D 37 [(2, 3), (0, c)] rf mem Q := by
  obtain ⟨d, rfl⟩ : ∃ d, D = d + 1 := ⟨D - 1, by omega⟩
  have hs := h.sr hz
  have hrg := tCod_rng hz.2.2.2.2.2.2 hs.1
  refine s_parser_readWord hz.1 hz.2.1 hz.2.2.1 ?_
  rw [h.1.c]
  refine ⟨⟨tCod_I hz.2.2.2.2.2.2 hs.1, by omega⟩, fun e => h.next hz (by omega) (by omega) (kk (tNxt tb n s) 0 (by unfold pW; rw [if_pos e])), fun e => h.refuse hz hl (fun m2 h2 => ⟨Or.inl rfl, kf 1 _ (by unfold pW; rw [if_neg e]) m2 h2⟩)⟩
theorem CE.numHere {Q : Int → zF → Prop} (hz : ZX rf p tb n) (h : CE m0 mem p tb n r s L) (hl : L.length ≤ 1600) (hD : 1 ≤ D) {lo hi : Int} (hlo : inI lo) (hhi : inI hi) (kk : pN tb n lo hi s = .inr (tNxt tb n s, tCod tb n s) → Q (tCod tb n s) mem) (kf : ∀ k pc, pN tb n lo hi s = .inl (k, pc) → ∀ mem', CEF m0 mem' p k pc → Q (-1) mem') : Ci X D 39 [(2, 3), (0, lo), (0, hi)] rf mem Q := by
  obtain ⟨d, rfl⟩ : ∃ d, D = d + 1 := ⟨D - 1, by omega⟩
  have hs := h.sr hz
  have hI := tCod_I hz.2.2.2.2.2.2 hs.1
  have bad : (0 ≤ tCod tb n s ∧ tCod tb n s < 10000) → ¬ (lo ≤ tCod tb n s ∧ tCod tb n s ≤ hi) → L_parser_numberHere_34 X d rf Q mem p 1 := by
    intro q1 q2
    exact s_parser_numberHere_34 hz.1 hz.2.1 hz.2.2.1 ⟨by decide, fun q => absurd q (by decide), fun _ => h.refuse hz hl (fun m2 h2 => kf 4 _ (by unfold pN; rw [if_pos q1, if_neg q2]) m2 h2)⟩
  refine s_parser_numberHere hz.1 hz.2.1 hz.2.2.1 (h.isNum hz (fun a c => ⟨by decide, fun q => absurd q (by decide), fun _ => ?_⟩) (fun q => ⟨by decide, fun _ => ?_, fun c => absurd rfl c⟩))
  · rw [h.1.c]
    exact ⟨⟨hI, hlo⟩, fun q => bad ⟨a, c⟩ (by omega), fun q => ⟨⟨hI, hhi⟩, fun q2 => kk (by unfold pN; rw [if_pos ⟨a, c⟩, if_pos ⟨by omega, q2⟩]), fun q2 => bad ⟨a, c⟩ (by omega)⟩⟩
  · exact s_parser_numberHere_34 hz.1 hz.2.1 hz.2.2.1 ⟨by decide, fun _ => h.refuse hz hl (fun m2 h2 => kf 1 _ (by unfold pN; rw [if_neg q]) m2 h2), fun c => absurd rfl c⟩
theorem CE.num {Q : Int → zF → Prop} (hz : ZX rf p tb n) (h : CE m0 mem p tb n r s L) (hl : L.length ≤ 1600) (hD : 2 ≤ D) {lo hi : Int} (hlo : inI lo) (hhi : inI hi) (kk : ∀ s' v, pN tb n lo hi s = .inr (s', v) → ∀ mem', CE m0 mem' p tb n r s' L → Q v mem') (kf : ∀ k pc, pN tb n lo hi s = .inl (k, pc) → ∀ mem', CEF m0 mem' p k pc → Q (-1) mem') : Ci X D 40 [(2, 3), (0, lo), (0, hi)] rf mem Q := by
  obtain ⟨d, rfl⟩ : ∃ d, D = d + 1 := ⟨D - 1, by omega⟩
  have hs := h.sr hz
  have hrg := tCod_rng hz.2.2.2.2.2.2 hs.1
  refine s_parser_readNumber hz.1 hz.2.1 hz.2.2.1 (h.numHere hz hl (by omega) hlo hhi (fun e => ?_) (fun k pc e m2 h2 => ⟨by decide, fun _ => kf k pc e m2 h2, fun q => absurd rfl q⟩))
  have := pN_inr e
  exact ⟨by omega, fun q => absurd q (by omega), fun _ => h.next hz (by omega) (by omega) (kk _ _ e)⟩
theorem CE.numB {Q : Int → zF → Prop} (hz : ZX rf p tb n) (h : CE m0 mem p tb n r s L) (hl : L.length ≤ 1600) (hD : 3 ≤ D) {c lo hi : Int} (hc : 20000 ≤ c ∧ c ≤ 20026) (hlo : inI lo) (hhi : inI hi) (kk : ∀ s1 v1 s' v, pW tb n c s = .inr (s1, v1) → pN tb n lo hi s1 = .inr (s', v) → ∀ mem', CE m0 mem' p tb n r s' L → Q v mem') (kf1 : ∀ k pc, pW tb n c s = .inl (k, pc) → ∀ mem', CEF m0 mem' p k pc → Q (-1) mem') (kf2 : ∀ s1 v1 k pc, pW tb n c s = .inr (s1, v1) → pN tb n lo hi s1 = .inl (k, pc) → ∀ mem', CEF m0 mem' p k pc → Q (-1) mem') : Ci X D 41 [(2, 3), (0, c), (0, lo), (0, hi)] rf mem Q := by
  obtain ⟨d, rfl⟩ : ∃ d, D = d + 1 := ⟨D - 1, by omega⟩
  exact s_parser_readNumberBehind hz.1 hz.2.1 hz.2.2.1 (h.word hz hl (by omega) hc (fun s1 v1 e m2 h2 => ⟨by decide, fun q => absurd q (by decide), fun _ => h2.num hz hl (by omega) hlo hhi (fun s' v e2 m3 h3 => kk s1 v1 s' v e e2 m3 h3) (fun k pc e2 m3 h3 => kf2 s1 v1 k pc e e2 m3 h3)⟩) (fun k pc e m2 h2 => ⟨by decide, fun _ => kf1 k pc e m2 h2, fun q => absurd rfl q⟩))
/-- the program between statements: the plan, the codes -/
def zFS (m0 mem : zF) (p : Nat) : Prop := ∀ i, i ≠ 3 → i ≠ 4 → (i < p ∨ p + 12 < i) → mem i = m0 i
def CS (m0 mem : zF) (p : Nat) (tb : Nat → Int) (n s : Int) (pl : zF) (L : zC) : Prop := TK mem tb n s ∧ (zFS m0 mem p ∧ (mem 3 3 = m0 3 3 ∧ mem 3 4 = m0 3 4)) ∧ (∀ i, i ≤ 12 → i ≠ 9 → i ≠ 10 → mem (p + i) = pl i) ∧ mem (p + 9) 3 = (L.length : Int) ∧ ∀ i : Nat, i < L.length → mem (p + 10) i = zkc (L.getD i (0, 0))
def CSF (m0 mem : zF) (p : Nat) (k pc : Int) : Prop := zFS m0 mem p ∧ mem 3 3 = k ∧ mem 3 4 = pc
theorem CS.ce {pl : zF} (h : CS m0 mem p tb n s pl L) : CE mem mem p tb n (mem 3 2) s L := ⟨h.1, zFP.rfl, ⟨rfl, rfl⟩, h.2.2.2.1, h.2.2.2.2⟩
theorem CE.cs {pl mem' : zF} {s' : Int} {L' : zC} (hp : p = 8 ∨ p = 246) (h : CS m0 mem p tb n s pl L) (h2 : CE mem mem' p tb n r s' L') : CS m0 mem' p tb n s' pl L' := by
  refine ⟨h2.1, ⟨fun i a b c => (h2.2.1.1 i a b (by omega) (by omega)).trans (h.2.1.1 i a b c), by rw [h2.2.2.1.2]; exact h.2.1.2⟩, fun i a b c => (h2.2.1.1 (p + i) (by omega) (by omega) (by omega) (by omega)).trans (h.2.2.1 i a b c), h2.2.2.2.1, h2.2.2.2.2⟩
theorem CEF.cs {pl mem' : zF} {k pc : Int} (hp : p = 8 ∨ p = 246) (h : CS m0 mem p tb n s pl L) (h2 : CEF mem mem' p k pc) : CSF m0 mem' p k pc := ⟨fun i a b c => (h2.1.1 i a b (by omega) (by omega)).trans (h.2.1.1 i a b c), h2.2.1, h2.2.2.1⟩
theorem CS.pl0 {pl : zF} (h : CS m0 mem p tb n s pl L) : mem p = pl 0 := h.2.2.1 0 (by decide) (by decide) (by decide)
/-- a slot of the plan -/
theorem CS.up {pl : zF} {i j : Nat} {v : Int} (hp : p = 8 ∨ p = 246) (h : CS m0 mem p tb n s pl L) (hi : i ≤ 12) (h9 : i ≠ 9) (h10 : i ≠ 10) : CS m0 (zup mem (p + i) j v) p tb n s (zup pl i j v) L := by
  obtain ⟨a1, a2, a3, a4, a5⟩ := h
  refine ⟨a1.fr (zup_row _ _ _ (by omega)) (zup_row _ _ _ (by omega)) (zup_row _ _ _ (by omega)), ⟨fun k b c d => by rw [zup_row _ _ _ (by omega)]; exact a2.1 k b c d, by rw [zup_row _ _ _ (by omega)]; exact a2.2⟩, fun k b c d => ?_, by rw [zup_row _ _ _ (by omega)]; exact a4, fun k hk => by rw [zup_row _ _ _ (by omega)]; exact a5 k hk⟩
  funext x
  rw [zup_get, zup_get, a3 k b c d]
  by_cases q : k = i ∧ x = j
  · rw [if_pos ⟨by omega, q.2⟩, if_pos q]
  · rw [if_neg (by omega), if_neg q]
theorem CS.up0 {pl : zF} {j : Nat} {v : Int} (hp : p = 8 ∨ p = 246) (h : CS m0 mem p tb n s pl L) : CS m0 (zup mem p j v) p tb n s (zup pl 0 j v) L := h.up (i := 0) hp (by decide) (by decide) (by decide)
theorem CSF.up {k pc : Int} {i j : Nat} {v : Int} (hp : p = 8 ∨ p = 246) (h : CSF m0 mem p k pc) (hi : i ≤ 12) : CSF m0 (zup mem (p + i) j v) p k pc := ⟨fun a b c d => by rw [zup_row _ _ _ (by omega)]; exact h.1 a b c d, by rw [zup_row _ _ _ (by omega)]; exact h.2.1, by rw [zup_row _ _ _ (by omega)]; exact h.2.2⟩
theorem CSF.up0 {k pc : Int} {j : Nat} {v : Int} (hp : p = 8 ∨ p = 246) (h : CSF m0 mem p k pc) : CSF m0 (zup mem p j v) p k pc := h.up (i := 0) hp (by decide)
end CSTEP
