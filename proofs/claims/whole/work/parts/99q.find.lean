/-! names and cells that are there: both -/
def zfn (pl : zF) (so v : Int) : Int := aFd (fun k => decide (pl 2 (6 * so + k).toNat = v)) 0 (pl 1 so.toNat).toNat
def ztk (pl : zF) (so c : Int) : Int := aFd (fun k => decide (pl 3 (6 * so + k).toNat = c)) 0 (pl 1 so.toNat).toNat
/-- a plan with its names -/
def WQ (pl : zF) : Prop := WP pl ∧ (3 ≤ pl 0 1) ∧ ∀ so k : Int, 0 ≤ so → so < 3 → 0 ≤ k → k < pl 1 so.toNat → 0 ≤ pl 2 (6 * so + k).toNat ∧ pl 2 (6 * so + k).toNat < 1073741824
theorem WQ.cnt {pl : zF} (h : WQ pl) {so : Int} (hs : 0 ≤ so ∧ so < 3) : 0 ≤ pl 1 so.toNat ∧ pl 1 so.toNat ≤ 6 := by
  have := h.1.n
  have e : so = 0 ∨ so = 1 ∨ so = 2 := by omega
  rcases e with rfl | rfl | rfl
  · exact this.1
  · exact this.2.1
  · exact this.2.2
section CFIND
variable {X : zX} {rf m0 mem : zF} {p D : Nat} {tb : Nat → Int} {n s : Int} {pl : zF} {L : zC}
theorem CS.r1 (h : CS m0 mem p tb n s pl L) : mem (p + 1) = pl 1 := h.2.2.1 1 (by decide) (by decide) (by decide)
theorem CS.r2 (h : CS m0 mem p tb n s pl L) : mem (p + 2) = pl 2 := h.2.2.1 2 (by decide) (by decide) (by decide)
theorem CS.r3 (h : CS m0 mem p tb n s pl L) : mem (p + 3) = pl 3 := h.2.2.1 3 (by decide) (by decide) (by decide)
theorem CS.many {Q : Int → zF → Prop} (hz : ZX rf p tb n) (h : CS m0 mem p tb n s pl L) {so : Int} (hs : 0 ≤ so ∧ so < 3) (kk : Q (pl 1 so.toNat) mem) : Ci X D 61 [(2, ((p : Nat) : Int)), (0, so)] rf mem Q := by
  refine s_plan_many hz.1 hz.2.1 ?_
  rw [h.r1]
  exact ⟨by omega, fun q => absurd q (by omega), fun _ => ⟨by omega, fun q => absurd q (by omega), fun _ => ⟨by omega, kk⟩⟩⟩
theorem CS.full {Q : Int → zF → Prop} (hz : ZX rf p tb n) (h : CS m0 mem p tb n s pl L) {so : Int} (hs : 0 ≤ so ∧ so < 3) (hc : 0 ≤ pl 1 so.toNat ∧ pl 1 so.toNat ≤ 6) (k1 : pl 1 so.toNat = 6 → Q 1 mem) (k0 : pl 1 so.toNat < 6 → Q 0 mem) : Ci X D 62 [(2, ((p : Nat) : Int)), (0, so)] rf mem Q := by
  refine s_plan_isFull hz.1 hz.2.1 ?_
  rw [h.r1]
  exact ⟨by omega, fun q => absurd q (by omega), fun _ => ⟨by omega, fun q => absurd q (by omega), fun _ => ⟨by omega, by omega, fun q => absurd q (by omega), fun _ => ⟨by omega, by omega, fun q => k0 q, fun q => k1 (by omega)⟩⟩⟩⟩
theorem CS.wname {Q : Int → zF → Prop} (hz : ZX rf p tb n) (hW : WQ pl) (h : CS m0 mem p tb n s pl L) (hD : 1 ≤ D) {so v : Int} (hs : 0 ≤ so ∧ so < 3) (hv : inI v) (kk : Q (zfn pl so v) mem) : Ci X D 66 [(2, ((p : Nat) : Int)), (0, so), (0, v)] rf mem Q := by
  obtain ⟨d, rfl⟩ : ∃ d, D = d + 1 := ⟨D - 1, by omega⟩
  have hc := hW.cnt hs
  have loop : ∀ (m : Nat) (x : Int), 0 ≤ x → x + m = pl 1 so.toNat → zfn pl so v = aFd (fun k => decide (pl 2 (6 * so + k).toNat = v)) x m → L_plan_withName_2 X d rf Q mem p so v x := by
    intro m
    induction m with
    | zero =>
      intro x h0 hx he
      refine s_plan_withName_2 hz.1 hz.2.1 (h.many hz hs ⟨by omega, fun _ => ?_, fun q => absurd (by omega) q⟩)
      rw [he] at kk
      exact kk
    | succ m ih =>
      intro x h0 hx he
      have hn := hW.2.2 so x hs.1 hs.2 h0 (by omega)
      refine s_plan_withName_2 hz.1 hz.2.1 (h.many hz hs ⟨by omega, fun q => absurd q (by omega), fun _ => ⟨by omega, ?_⟩⟩)
      rw [h.r2]
      refine ⟨by omega, fun q => ih (x + 1) (by omega) (by omega) (by rw [he, aFd_f (decide_eq_false q)]), fun q => ?_⟩
      rw [aFd_t (decide_eq_true q)] at he
      rw [he] at kk
      exact kk
  exact s_plan_withName hz.1 hz.2.1 (loop (pl 1 so.toNat).toNat 0 (by decide) (by omega) rfl)
theorem zfn_I {pl : zF} (hW : WQ pl) {so v : Int} (hs : 0 ≤ so ∧ so < 3) : zfn pl so v = -1 ∨ (0 ≤ zfn pl so v ∧ zfn pl so v < pl 1 so.toNat) := by
  have hc := hW.cnt hs
  have := aFd_rng (P := fun k => decide (pl 2 (6 * so + k).toNat = v)) (pl 1 so.toNat).toNat 0
  unfold zfn
  omega
theorem CS.named {Q : Int → zF → Prop} (hz : ZX rf p tb n) (hW : WQ pl) (h : CS m0 mem p tb n s pl L) (hD : 2 ≤ D) {v : Int} (hv : inI v) (k1 : ¬ (zfn pl 0 v = -1 ∧ zfn pl 1 v = -1 ∧ zfn pl 2 v = -1) → Q 1 mem) (k0 : (zfn pl 0 v = -1 ∧ zfn pl 1 v = -1 ∧ zfn pl 2 v = -1) → Q 0 mem) : Ci X D 67 [(2, ((p : Nat) : Int)), (0, v)] rf mem Q := by
  obtain ⟨d, rfl⟩ : ∃ d, D = d + 1 := ⟨D - 1, by omega⟩
  have hc0 := hW.cnt (so := 0) (by decide)
  have hc1 := hW.cnt (so := 1) (by decide)
  have hc2 := hW.cnt (so := 2) (by decide)
  have i0 := zfn_I hW (so := 0) (v := v) (by decide)
  have i1 := zfn_I hW (so := 1) (v := v) (by decide)
  have i2 := zfn_I hW (so := 2) (v := v) (by decide)
  refine s_plan_isNamed hz.1 hz.2.1 (h.wname hz hW (by omega) (by decide) hv ⟨by omega, fun q => k1 (fun c => q c.1), fun q0 => ?_⟩)
  refine h.wname hz hW (by omega) (by decide) hv ⟨by omega, fun q => k1 (fun c => q c.2.1), fun q1 => ?_⟩
  exact h.wname hz hW (by omega) (by decide) hv ⟨by omega, fun q => k0 ⟨q0, q1, q⟩, fun q => k1 (fun c => q c.2.2)⟩
theorem CS.taken {Q : Int → zF → Prop} (hz : ZX rf p tb n) (hW : WQ pl) (h : CS m0 mem p tb n s pl L) (hD : 1 ≤ D) {so c : Int} (hs : so = 1 ∨ so = 2) (hv : inI c) (k1 : ztk pl so c ≠ -1 → Q 1 mem) (k0 : ztk pl so c = -1 → Q 0 mem) : Ci X D 68 [(2, ((p : Nat) : Int)), (0, so), (0, c)] rf mem Q := by
  obtain ⟨d, rfl⟩ : ∃ d, D = d + 1 := ⟨D - 1, by omega⟩
  have hs3 : 0 ≤ so ∧ so < 3 := by omega
  have hc := hW.cnt hs3
  have loop : ∀ (m : Nat) (x : Int), 0 ≤ x → x + m = pl 1 so.toNat → ztk pl so c = aFd (fun k => decide (pl 3 (6 * so + k).toNat = c)) x m → L_plan_isTaken_2 X d rf Q mem p so c x := by
    intro m
    induction m with
    | zero =>
      intro x h0 hx he
      exact s_plan_isTaken_2 hz.1 hz.2.1 (h.many hz hs3 ⟨by omega, fun _ => k0 he, fun q => absurd (by omega) q⟩)
    | succ m ih =>
      intro x h0 hx he
      have hI : inI (pl 3 (6 * so + x).toNat) := by
        rcases hs with rfl | rfl
        · have := (hW.1.heir h0 (by show x < pl 1 (1 : Int).toNat; omega)).1
          have e : (6 * 1 + x).toNat = (6 + x).toNat := by omega
          rw [e]
          unfold zic at this
          omega
        · have := (hW.1.bub h0 (by show x < pl 1 (2 : Int).toNat; omega)).1
          have e : (6 * 2 + x).toNat = (12 + x).toNat := by omega
          rw [e]
          unfold zic at this
          omega
      refine s_plan_isTaken_2 hz.1 hz.2.1 (h.many hz hs3 ⟨by omega, fun q => absurd q (by omega), fun _ => ⟨by omega, ?_⟩⟩)
      rw [h.r3]
      refine ⟨⟨hI, hv⟩, fun q => ih (x + 1) (by omega) (by omega) (by rw [he, aFd_f (decide_eq_false q)]), fun q => k1 ?_⟩
      rw [aFd_t (decide_eq_true q)] at he
      omega
  exact s_plan_isTaken hz.1 hz.2.1 (loop (pl 1 so.toNat).toNat 0 (by decide) (by omega) rfl)
theorem CS.taken0 {Q : Int → zF → Prop} (hz : ZX rf p tb n) (h : CS m0 mem p tb n s pl L) (hD : 1 ≤ D) {c : Int} (kk : Q 0 mem) : Ci X D 68 [(2, ((p : Nat) : Int)), (0, (-1)), (0, c)] rf mem Q := by
  obtain ⟨d, rfl⟩ : ∃ d, D = d + 1 := ⟨D - 1, by omega⟩
  refine s_plan_isTaken hz.1 hz.2.1 (s_plan_isTaken_2 hz.1 hz.2.1 (s_plan_many hz.1 hz.2.1 ⟨by decide, fun _ => ⟨by decide, fun _ => kk, fun q => absurd (by decide) q⟩, fun q => absurd (by decide) q⟩))
theorem CS.cellAt {Q : Int → zF → Prop} (hz : ZX rf p tb n) (h : CS m0 mem p tb n s pl L) {x y : Int} (hx : 0 ≤ x ∧ x < pl 0 1) (hy : 0 ≤ y ∧ y < pl 0 2) (hC : pl 0 1 ≤ 7 ∧ pl 0 2 ≤ 7) (kk : Q (8 * y + x) mem) : Ci X D 69 [(2, ((p : Nat) : Int)), (0, x), (0, y)] rf mem Q := by
  refine s_plan_cellAt hz.1 hz.2.1 ?_
  rw [h.pl0]
  refine ⟨by omega, fun q => absurd q (by omega), fun _ => ⟨by omega, fun q => absurd q (by omega), fun _ => ⟨by omega, fun q => absurd q (by omega), fun _ => ⟨by omega, fun q => absurd q (by omega), fun _ => ?_⟩⟩⟩⟩
  exact s_plan_cellAt_29 hz.1 hz.2.1 ⟨by decide, fun q => absurd q (by decide), fun _ => kk⟩
def aAdd (pl : zF) (so nm c : Int) : zF := zup (zup (zup pl 2 (6 * so + pl 1 so.toNat).toNat nm) 3 (6 * so + pl 1 so.toNat).toNat c) 1 so.toNat (pl 1 so.toNat + 1)
theorem CS.add {Q : Int → zF → Prop} (hz : ZX rf p tb n) (h : CS m0 mem p tb n s pl L) (hD : 1 ≤ D) {so nm c : Int} (hs : 0 ≤ so ∧ so < 3) (hc : 0 ≤ pl 1 so.toNat ∧ pl 1 so.toNat < 6) (kk : ∀ mem', CS m0 mem' p tb n s (aAdd pl so nm c) L → Q (pl 1 so.toNat) mem') : Ci X D 63 [(2, ((p : Nat) : Int)), (0, so), (0, nm), (0, c)] rf mem Q := by
  obtain ⟨d, rfl⟩ : ∃ d, D = d + 1 := ⟨D - 1, by omega⟩
  have hp := hz.2.2.2.2.1
  refine s_plan_add hz.1 hz.2.1 (h.full hz hs (by omega) (fun q => absurd q (by omega)) (fun _ => ⟨by decide, fun _ => ?_, fun q => absurd rfl q⟩))
  rw [h.r1]
  refine ⟨by omega, by omega, by omega, by omega, by omega, ?_⟩
  rw [zup_row _ _ _ (show p + 1 ≠ p + 3 by omega), zup_row _ _ _ (show p + 1 ≠ p + 2 by omega), h.r1]
  exact kk _ (((h.up hp (by decide) (by decide) (by decide)).up hp (by decide) (by decide) (by decide)).up hp (by decide) (by decide) (by decide))
end CFIND
/-! the reference -/
def wd (a : Nat) : Int := if a = 281 ∨ a = 282 then 1600 else if a = 279 ∨ a = 280 then 3 else if a = 263 ∨ a = 264 ∨ a = 265 ∨ a = 266 ∨ a = 270 ∨ a = 271 ∨ a = 274 ∨ a = 278 then 1 else 6
/-- what stays while the reference reads a text into bank b -/
def RFb (m0 mem : zF) (b : Int) : Prop := (∀ i, (i < 261 ∨ i = 262 ∨ 291 < i) → mem i = m0 i) ∧ (∀ j, j ≠ 3 → j ≠ 4 → j ≠ 5 → j ≠ 6 → j ≠ 7 → j ≠ 8 → j ≠ 9 → j ≠ 12 → j ≠ 37 → j ≠ 39 → j ≠ 45 → j ≠ 46 → j ≠ 48 → j ≠ 49 → mem 261 j = m0 261 j) ∧ ∀ a j : Nat, 263 ≤ a → a ≤ 285 → ((j : Int) < wd a * b ∨ wd a * b + wd a ≤ (j : Int)) → mem a j = m0 a j
theorem RFb.rfl {a : zF} {b : Int} : RFb a a b := ⟨fun _ _ => Eq.refl _, fun _ _ _ _ _ _ _ _ _ _ _ _ _ _ _ => Eq.refl _, fun _ _ _ _ _ => Eq.refl _⟩
/-- bank b holds the plan -/
def RQ (mem : zF) (b : Int) (pl : zF) : Prop :=
  (mem 263 b.toNat = pl 0 1 ∧ mem 264 b.toNat = pl 0 2) ∧ (mem 265 b.toNat = pl 0 3 ∧ mem 278 b.toNat = pl 0 4 ∧ mem 270 b.toNat = pl 0 5) ∧ (mem 266 b.toNat = pl 1 0 ∧ mem 271 b.toNat = pl 1 1 ∧ mem 274 b.toNat = pl 1 2) ∧
  (∀ k : Int, 0 ≤ k → k < pl 1 0 → mem 267 (6 * b + k).toNat = pl 3 k.toNat ∧ mem 268 (6 * b + k).toNat = pl 4 k.toNat ∧ mem 269 (6 * b + k).toNat = pl 5 k.toNat) ∧
  (∀ k : Int, 0 ≤ k → k < pl 1 1 → mem 272 (6 * b + k).toNat = pl 3 (6 + k).toNat ∧ mem 273 (6 * b + k).toNat = pl 6 k.toNat) ∧
  (∀ k : Int, 0 ≤ k → k < pl 1 2 → mem 275 (6 * b + k).toNat = pl 3 (12 + k).toNat ∧ mem 276 (6 * b + k).toNat = pl 7 k.toNat ∧ mem 277 (6 * b + k).toNat = pl 8 k.toNat) ∧
  (∀ (so : Nat) (k : Int), so < 3 → 0 ≤ k → k < pl 1 so → NR (pl 2 (6 * (so : Int) + k).toNat) (mem (283 + so) (6 * b + k).toNat)) ∧
  (∀ r : Nat, r < 3 → mem 279 (3 * b + (r : Int)).toNat = pl 11 r ∧ (pl 11 r ≠ -1 → mem 280 (3 * b + (r : Int)).toNat = pl 12 r))
def RCo (mem : zF) (b : Int) (L : zC) : Prop := mem 261 37 = (L.length : Int) ∧ ∀ i : Nat, i < L.length → mem 281 (1600 * b + (i : Int)).toNat = (L.getD i (0, 0)).1 ∧ mem 282 (1600 * b + (i : Int)).toNat = (L.getD i (0, 0)).2
/-- the reference between statements -/
def RSs (m0 mem : zF) (b : Int) (tb : Nat → Int) (n s : Int) (pl : zF) (L : zC) : Prop := RTK mem tb n s ∧ RFb m0 mem b ∧ (mem 261 38 = b ∧ (0 ≤ b ∧ b < 2)) ∧ RCo mem b L ∧ RQ mem b pl
def RSF (m0 mem : zF) (b k pc : Int) : Prop := RFb m0 mem b ∧ mem 261 8 = k ∧ mem 261 9 = pc ∧ inI (mem 261 12) ∧ (mem 261 38 = b ∧ (0 ≤ b ∧ b < 2))
theorem RQ.fr {mem mem' : zF} {b : Int} {pl : zF} (h : RQ mem b pl) (e : ∀ a, 263 ≤ a → a ≤ 285 → a ≠ 281 → a ≠ 282 → mem' a = mem a) : RQ mem' b pl := by
  unfold RQ
  rw [e 263 (by decide) (by decide) (by decide) (by decide), e 264 (by decide) (by decide) (by decide) (by decide), e 265 (by decide) (by decide) (by decide) (by decide), e 266 (by decide) (by decide) (by decide) (by decide), e 267 (by decide) (by decide) (by decide) (by decide), e 268 (by decide) (by decide) (by decide) (by decide), e 269 (by decide) (by decide) (by decide) (by decide), e 270 (by decide) (by decide) (by decide) (by decide), e 271 (by decide) (by decide) (by decide) (by decide), e 272 (by decide) (by decide) (by decide) (by decide), e 273 (by decide) (by decide) (by decide) (by decide), e 274 (by decide) (by decide) (by decide) (by decide), e 275 (by decide) (by decide) (by decide) (by decide), e 276 (by decide) (by decide) (by decide) (by decide), e 277 (by decide) (by decide) (by decide) (by decide), e 278 (by decide) (by decide) (by decide) (by decide), e 279 (by decide) (by decide) (by decide) (by decide), e 280 (by decide) (by decide) (by decide) (by decide)]
  refine ⟨h.1, h.2.1, h.2.2.1, h.2.2.2.1, h.2.2.2.2.1, h.2.2.2.2.2.1, fun so k a b c => ?_, h.2.2.2.2.2.2.2⟩
  rw [e (283 + so) (by omega) (by omega) (by omega) (by omega)]
  exact h.2.2.2.2.2.2.1 so k a b c
section RFIND
variable {X : zX} {rf m0 mem : zF} {D : Nat} {tb : Nat → Int} {n b s : Int} {pl : zF} {L : zC}
theorem RSs.fa {mem' : zF} {s' : Int} (h : RSs m0 mem b tb n s pl L) (f : zFA mem mem') (ht : RTK mem' tb n s') : RSs m0 mem' b tb n s' pl L := by
  obtain ⟨a1, a2, a3, a4, a5⟩ := h
  have e : ∀ j, j = 38 ∨ j = 37 → mem' 261 j = mem 261 j := fun j hj => f.2 j (by omega) (by omega) (by omega) (by omega) (by omega) (by omega)
  refine ⟨ht, ⟨fun i hi => (f.1 i (by omega)).trans (a2.1 i hi), fun j x1 x2 x3 x4 x5 x6 x7 x8 x9 x10 x11 x12 x13 x14 => (f.2 j x1 x2 x3 x4 x5 x8).trans (a2.2.1 j x1 x2 x3 x4 x5 x6 x7 x8 x9 x10 x11 x12 x13 x14), fun a j x y z => by rw [f.1 a (by omega)]; exact a2.2.2 a j x y z⟩, ?_, ?_, a5.fr (fun a x y _ _ => f.1 a (by omega))⟩
  · rw [e 38 (by decide)]; exact a3
  · unfold RCo
    rw [e 37 (by decide), f.1 281 (by decide), f.1 282 (by decide)]
    exact a4
theorem RSs.flt {k pc : Int} (h : RSs m0 mem b tb n s pl L) (hs : 0 ≤ s ∧ s ≤ n) (hn : n ≤ 1600) : RSF m0 (zflt mem k pc) b k pc := by
  have hf := h.1.1.f hs
  have hr := tBp_rng (tb := tb) hs.1 hn
  have e : ∀ j, j ≠ 8 → j ≠ 9 → (zflt mem k pc) 261 j = mem 261 j := fun j x y => by unfold zflt; rw [zup_ne _ _ _ _ y, zup_ne _ _ _ _ x]
  have e2 : ∀ i, i ≠ 261 → (zflt mem k pc) i = mem i := fun i x => by unfold zflt; rw [zup_row _ _ _ x, zup_row _ _ _ x]
  refine ⟨⟨fun i hi => by rw [e2 i (by omega)]; exact h.2.1.1 i hi, fun j x1 x2 x3 x4 x5 x6 x7 x8 x9 x10 x11 x12 x13 x14 => by rw [e j x6 x7]; exact h.2.1.2.1 j x1 x2 x3 x4 x5 x6 x7 x8 x9 x10 x11 x12 x13 x14, fun a j x y z => by rw [e2 a (by omega)]; exact h.2.1.2.2 a j x y z⟩, zflt_8, ?_, ?_, ?_⟩
  · unfold zflt; rw [zup_at]
  · rw [e 12 (by decide) (by decide), hf.2.2.1]; omega
  · rw [e 38 (by decide) (by decide)]; exact h.2.2.1
theorem RSF.up {k pc v : Int} {a j : Nat} (h : RSF m0 mem b k pc) (ha : 263 ≤ a ∧ a ≤ 285) (hj : wd a * b ≤ (j : Int) ∧ (j : Int) < wd a * b + wd a) : RSF m0 (zup mem a j v) b k pc := by
  obtain ⟨a1, a2, a3, a4, a5⟩ := h
  refine ⟨⟨fun i hi => by rw [zup_row _ _ _ (by omega)]; exact a1.1 i hi, fun x x1 x2 x3 x4 x5 x6 x7 x8 x9 x10 x11 x12 x13 x14 => by rw [zup_row _ _ _ (by omega)]; exact a1.2.1 x x1 x2 x3 x4 x5 x6 x7 x8 x9 x10 x11 x12 x13 x14, fun a2 j2 x y z => ?_⟩, by rw [zup_row _ _ _ (by omega)]; exact a2, by rw [zup_row _ _ _ (by omega)]; exact a3, by rw [zup_row _ _ _ (by omega)]; exact a4, by rw [zup_row _ _ _ (by omega)]; exact a5⟩
  rw [zup_get, if_neg]
  · exact a1.2.2 a2 j2 x y z
  · intro q
    rw [q.1, q.2] at z
    omega
theorem RFb.up {v : Int} {a j : Nat} (h : RFb m0 mem b) (ha : 263 ≤ a ∧ a ≤ 285) (hj : wd a * b ≤ (j : Int) ∧ (j : Int) < wd a * b + wd a) : RFb m0 (zup mem a j v) b := by
  refine ⟨fun i hi => by rw [zup_row _ _ _ (by omega)]; exact h.1 i hi, fun x x1 x2 x3 x4 x5 x6 x7 x8 x9 x10 x11 x12 x13 x14 => by rw [zup_row _ _ _ (by omega)]; exact h.2.1 x x1 x2 x3 x4 x5 x6 x7 x8 x9 x10 x11 x12 x13 x14, fun a2 j2 x y z => ?_⟩
  rw [zup_get, if_neg]
  · exact h.2.2 a2 j2 x y z
  · intro q
    rw [q.1, q.2] at z
    omega
theorem RSs.many {Q : Int → zF → Prop} (hR : zall rf zRK = true) (h : RSs m0 mem b tb n s pl L) {so : Int} (hs : 0 ≤ so ∧ so < 3) (kk : Q (pl 1 so.toNat) mem) : Ci X D 207 [(2, 261), (0, b), (0, so)] rf mem Q := by
  have hb := h.2.2.1.2
  have hq := h.2.2.2.2.2.2.1
  refine s_m_manyOf hR ⟨by omega, fun q => ⟨by omega, fun q2 => ⟨by omega, ?_⟩, fun q2 => ⟨by omega, ?_⟩⟩, fun q => ⟨by omega, ?_⟩⟩
  · have e : so = 2 := by omega
    rw [hq.2.2]; rw [e] at kk; exact kk
  · rw [hq.2.1]; rw [q2] at kk; exact kk
  · rw [hq.1]; rw [q] at kk; exact kk
theorem NR.lng {a w : Int} (h : NR a w) : inL w := by
  obtain ⟨ls, h1, h2, h3, _, rfl⟩ := h
  exact zn8_in h2 h3
theorem RSs.named {Q : Int → zF → Prop} (hR : zall rf zRK = true) (hW : WQ pl) (h : RSs m0 mem b tb n s pl L) (hD : 1 ≤ D) {so v w : Int} (hs : 0 ≤ so ∧ so < 3) (hv : NR v w) (kk : Q (zfn pl so v) mem) : Ci X D 209 [(2, 261), (0, so), (1, w)] rf mem Q := by
  obtain ⟨d, rfl⟩ : ∃ d, D = d + 1 := ⟨D - 1, by omega⟩
  have hc := hW.cnt hs
  have hbb := h.2.2.1.2
  have h38 := h.2.2.1.1
  have loop : ∀ (m : Nat) (x : Int), 0 ≤ x → x + m = pl 1 so.toNat → zfn pl so v = aFd (fun k => decide (pl 2 (6 * so + k).toNat = v)) x m → L_m_named_3 X d rf Q mem so w x := by
    intro m
    induction m with
    | zero =>
      intro x h0 hx he
      refine s_m_named_3 hR ?_
      rw [h38]
      refine h.many hR hs ⟨by omega, fun _ => ?_, fun q => absurd (by omega) q⟩
      rw [he] at kk
      exact kk
    | succ m ih =>
      intro x h0 hx he
      have hn := h.2.2.2.2.2.2.2.2.2.2.1 so.toNat x (by omega) h0 (by omega)
      have eso : ((so.toNat : Nat) : Int) = so := Int.toNat_of_nonneg hs.1
      rw [eso] at hn
      have hi := NR.iff hn hv
      refine s_m_named_3 hR ?_
      rw [h38]
      refine h.many hR hs ⟨by omega, fun q => absurd q (by omega), fun _ => ?_⟩
      have fin : ∀ r4 : Int, r4 = mem (283 + so.toNat) (6 * b + x).toNat → (inL r4 ∧ inL w) ∧ ((inI (if r4 < w then -1 else if r4 = w then 0 else 1)) ∧ ((¬ (if r4 < w then -1 else if r4 = w then 0 else 1) = (0 : Int) → L_m_named_3 X d rf Q mem so w (x + 1)) ∧ ((if r4 < w then -1 else if r4 = w then 0 else 1) = (0 : Int) → Q x mem))) := by
        intro r4 e4
        refine ⟨⟨by rw [e4]; exact hn.lng, hv.lng⟩, zcmpi _ _, fun q => ?_, fun q => ?_⟩
        · rw [zcmp0, e4] at q
          exact ih (x + 1) (by omega) (by omega) (by rw [he, aFd_f (decide_eq_false (fun c => q (hi.mp c)))])
        · rw [zcmp0, e4] at q
          rw [aFd_t (decide_eq_true (hi.mpr q))] at he
          rw [he] at kk
          exact kk
      rw [h38]
      refine s_m_nameOf hR ⟨by omega, fun q => ⟨by omega, fun q2 => ⟨by omega, fin _ ?_⟩, fun q2 => ⟨by omega, fin _ ?_⟩⟩, fun q => ⟨by omega, fin _ ?_⟩⟩
      · have e : so = 2 := by omega
        rw [e]; rfl
      · rw [q2]; rfl
      · rw [q]; rfl
  exact s_m_named hR (loop (pl 1 so.toNat).toNat 0 (by decide) (by omega) rfl)
theorem RSs.taken {Q : Int → zF → Prop} (hR : zall rf zRK = true) (hW : WQ pl) (h : RSs m0 mem b tb n s pl L) (hD : 1 ≤ D) {so c : Int} (hs : so = 1 ∨ so = 2) (hv : inI c) (k1 : ztk pl so c ≠ -1 → Q 1 mem) (k0 : ztk pl so c = -1 → Q 0 mem) : Ci X D 226 [(2, 261), (0, so), (0, c)] rf mem Q := by
  obtain ⟨d, rfl⟩ : ∃ d, D = d + 1 := ⟨D - 1, by omega⟩
  have hs3 : 0 ≤ so ∧ so < 3 := by omega
  have hc := hW.cnt hs3
  have hbb := h.2.2.1.2
  have h38 := h.2.2.1.1
  have loop : ∀ (m : Nat) (x : Int), 0 ≤ x → x + m = pl 1 so.toNat → ztk pl so c = aFd (fun k => decide (pl 3 (6 * so + k).toNat = c)) x m → L_m_isTaken_2 X d rf Q mem so c x := by
    intro m
    induction m with
    | zero =>
      intro x h0 hx he
      refine s_m_isTaken_2 hR ?_
      rw [h38]
      exact h.many hR hs3 ⟨by omega, fun _ => k0 he, fun q => absurd (by omega) q⟩
    | succ m ih =>
      intro x h0 hx he
      refine s_m_isTaken_2 hR ?_
      rw [h38]
      refine h.many hR hs3 ⟨by omega, fun q => absurd q (by omega), fun _ => ⟨by omega, fun q => ?_, fun q => ?_⟩⟩
      · have e2 : so = 2 := by omega
        subst e2
        have hb2 := h.2.2.2.2.2.2.2.2.2.1 x h0 (by show x < pl 1 (2 : Int).toNat; omega)
        have hz := (hW.1.bub h0 (by show x < pl 1 (2 : Int).toNat; omega)).1
        have e : (6 * 2 + x).toNat = (12 + x).toNat := by omega
        unfold zic at hz
        rw [h38, hb2.1]
        refine ⟨by omega, ⟨by omega, hv⟩, fun q => ih (x + 1) (by omega) (by omega) (by rw [he, aFd_f (decide_eq_false (by rw [e]; exact q))]), fun q => k1 ?_⟩
        rw [aFd_t (decide_eq_true (by rw [e]; exact q))] at he
        omega
      · subst q
        have hb2 := h.2.2.2.2.2.2.2.2.1 x h0 (by show x < pl 1 (1 : Int).toNat; omega)
        have hz := (hW.1.heir h0 (by show x < pl 1 (1 : Int).toNat; omega)).1
        have e : (6 * 1 + x).toNat = (6 + x).toNat := by omega
        unfold zic at hz
        rw [h38, hb2.1]
        refine ⟨by omega, ⟨by omega, hv⟩, fun q => ih (x + 1) (by omega) (by omega) (by rw [he, aFd_f (decide_eq_false (by rw [e]; exact q))]), fun q => k1 ?_⟩
        rw [aFd_t (decide_eq_true (by rw [e]; exact q))] at he
        omega
  exact s_m_isTaken hR (loop (pl 1 so.toNat).toNat 0 (by decide) (by omega) rfl)
end RFIND
