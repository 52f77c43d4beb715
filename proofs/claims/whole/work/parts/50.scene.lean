/-! THE SCENE: its picture sc (rows 0..8 as the program's objects lie; row 9: what drifted) and what keeps it well -/
def zf1 (c : Int) : Int := if c = -1 then 0 else 1
def aFlo (sc : zF) : Int := zf1 (sc 2 0) + zf1 (sc 2 1) + zf1 (sc 2 2) + zf1 (sc 2 3) + zf1 (sc 2 4) + zf1 (sc 2 5)
theorem zf1_rng (c : Int) : 0 ≤ zf1 c ∧ zf1 c ≤ 1 := by
  unfold zf1
  split <;> omega
theorem k6 {b : Int} (hb : 0 ≤ b ∧ b < 6) : b = 0 ∨ b = 1 ∨ b = 2 ∨ b = 3 ∨ b = 4 ∨ b = 5 := by omega
theorem zfl_set {sc : zF} {b v : Int} (hb : 0 ≤ b ∧ b < 6) : aFlo (zup sc 2 b.toNat v) = aFlo sc - zf1 (sc 2 b.toNat) + zf1 v := by
  rcases k6 hb with rfl | rfl | rfl | rfl | rfl | rfl <;> simp [aFlo, zup_get] <;> omega
theorem zfl_row {sc sc' : zF} (h : sc' 2 = sc 2) : aFlo sc' = aFlo sc := by
  unfold aFlo
  rw [h]
theorem zfl_pos {sc : zF} {b : Int} (hb : 0 ≤ b ∧ b < 6) (h : sc 2 b.toNat ≠ -1) : 1 ≤ aFlo sc := by
  have h0 := zf1_rng (sc 2 0)
  have h1 := zf1_rng (sc 2 1)
  have h2 := zf1_rng (sc 2 2)
  have h3 := zf1_rng (sc 2 3)
  have h4 := zf1_rng (sc 2 4)
  have h5 := zf1_rng (sc 2 5)
  have hh : zf1 (sc 2 b.toNat) = 1 := by unfold zf1; rw [if_neg h]
  unfold aFlo
  rcases k6 hb with rfl | rfl | rfl | rfl | rfl | rfl
  · have hh : zf1 (sc 2 0) = 1 := hh
    omega
  · have hh : zf1 (sc 2 1) = 1 := hh
    omega
  · have hh : zf1 (sc 2 2) = 1 := hh
    omega
  · have hh : zf1 (sc 2 3) = 1 := hh
    omega
  · have hh : zf1 (sc 2 4) = 1 := hh
    omega
  · have hh : zf1 (sc 2 5) = 1 := hh
    omega
theorem zupk {sc : zF} {r s : Nat} {b k v : Int} (hb : 0 ≤ b) (hk : 0 ≤ k) : zup sc r b.toNat v s k.toNat = if s = r ∧ k = b then v else sc s k.toNat := by
  rw [zup_get]
  by_cases h : s = r ∧ k = b
  · rw [if_pos h, if_pos ⟨h.1, by rw [h.2]⟩]
  · rw [if_neg h, if_neg (fun q => h ⟨q.1, by omega⟩)]
/-- a slot is well -/
def WB (pl sc : zF) (k : Int) : Prop :=
  (k < pl 1 1 → zic (pl 0 1) (pl 0 2) (sc 1 k.toNat)) ∧ (pl 1 1 ≤ k → sc 1 k.toNat = -1) ∧
  ((sc 2 k.toNat = -1 ∧ sc 3 k.toNat = 0 ∧ sc 4 k.toNat = 0 ∧ sc 5 k.toNat = 0) ∨ (k < pl 1 2 ∧ zic (pl 0 1) (pl 0 2) (sc 2 k.toNat))) ∧
  (0 ≤ sc 3 k.toNat ∧ sc 3 k.toNat ≤ 99) ∧ (0 ≤ sc 4 k.toNat ∧ sc 4 k.toNat ≤ 9) ∧ (0 ≤ sc 5 k.toNat ∧ sc 5 k.toNat < 64) ∧
  (-1 ≤ sc 6 k.toNat ∧ sc 6 k.toNat < pl 1 1) ∧ (pl 1 2 ≤ k → sc 6 k.toNat = -1) ∧
  (0 ≤ sc 7 k.toNat ∧ sc 7 k.toNat ≤ 999) ∧ (pl 1 2 ≤ k → sc 7 k.toNat = 0)
/-- each deed is in one bubble at most, and in none if it has an owner -/
def BT (pl sc : zF) : Prop := ∀ k d : Int, 0 ≤ k → k < 6 → 0 ≤ d → d < 6 → zbit (sc 5 k.toNat) d = 1 → d < pl 1 2 ∧ sc 6 d.toNat = -1 ∧ ∀ k2 : Int, 0 ≤ k2 → k2 < 6 → zbit (sc 5 k2.toNat) d = 1 → k2 = k
def WS (pl sc : zF) : Prop :=
  (0 ≤ sc 0 0 ∧ sc 0 0 ≤ 1000) ∧ (sc 0 1 = -1 ∨ zic (pl 0 1) (pl 0 2) (sc 0 1)) ∧ (0 ≤ sc 0 2 ∧ sc 0 2 < 64) ∧ (0 ≤ sc 0 11 ∧ sc 0 11 + aFlo sc ≤ 6) ∧
  (∀ k : Int, 0 ≤ k → k < 6 → WB pl sc k) ∧ BT pl sc ∧ (∀ j : Nat, j < 24 → inI (sc 8 j))
theorem WS.sec {pl sc : zF} (h : WS pl sc) : 0 ≤ sc 0 0 ∧ sc 0 0 ≤ 1000 := h.1
theorem WS.lamp {pl sc : zF} (h : WS pl sc) : sc 0 1 = -1 ∨ zic (pl 0 1) (pl 0 2) (sc 0 1) := h.2.1
theorem WS.opn {pl sc : zF} (h : WS pl sc) : 0 ≤ sc 0 2 ∧ sc 0 2 < 64 := h.2.2.1
theorem WS.kept {pl sc : zF} (h : WS pl sc) : 0 ≤ sc 0 11 ∧ sc 0 11 + aFlo sc ≤ 6 := h.2.2.2.1
theorem WS.slot {pl sc : zF} (h : WS pl sc) {k : Int} (hk : 0 ≤ k ∧ k < 6) : WB pl sc k := h.2.2.2.2.1 k hk.1 hk.2
theorem WS.bt {pl sc : zF} (h : WS pl sc) : BT pl sc := h.2.2.2.2.2.1
theorem WS.rows {pl sc : zF} (h : WS pl sc) {j : Nat} (hj : j < 24) : inI (sc 8 j) := h.2.2.2.2.2.2 j hj
theorem zfl_rng (sc : zF) : 0 ≤ aFlo sc ∧ aFlo sc ≤ 6 := by
  have h0 := zf1_rng (sc 2 0)
  have h1 := zf1_rng (sc 2 1)
  have h2 := zf1_rng (sc 2 2)
  have h3 := zf1_rng (sc 2 3)
  have h4 := zf1_rng (sc 2 4)
  have h5 := zf1_rng (sc 2 5)
  unfold aFlo
  omega
theorem WS.lampI {pl sc : zF} (h : WS pl sc) : inI (sc 0 1) := by
  have := h.lamp
  unfold zic at this
  omega
theorem WS.heir {pl sc : zF} (h : WS pl sc) {k : Int} (hk : 0 ≤ k ∧ k < 6) : (k < pl 1 1 → zic (pl 0 1) (pl 0 2) (sc 1 k.toNat)) ∧ (pl 1 1 ≤ k → sc 1 k.toNat = -1) := ⟨(h.slot hk).1, (h.slot hk).2.1⟩
theorem WS.heirI {pl sc : zF} (h : WS pl sc) {k : Int} (hk : 0 ≤ k ∧ k < 6) : -1 ≤ sc 1 k.toNat ∧ sc 1 k.toNat < 64 := by
  have := h.heir hk
  unfold zic at this
  omega
theorem WS.bub {pl sc : zF} (h : WS pl sc) {k : Int} (hk : 0 ≤ k ∧ k < 6) : (sc 2 k.toNat = -1 ∧ sc 3 k.toNat = 0 ∧ sc 4 k.toNat = 0 ∧ sc 5 k.toNat = 0) ∨ (k < pl 1 2 ∧ zic (pl 0 1) (pl 0 2) (sc 2 k.toNat)) := (h.slot hk).2.2.1
theorem WS.bubI {pl sc : zF} (h : WS pl sc) {k : Int} (hk : 0 ≤ k ∧ k < 6) : -1 ≤ sc 2 k.toNat ∧ sc 2 k.toNat < 64 := by
  have := h.bub hk
  unfold zic at this
  omega
theorem WS.bubN {pl sc : zF} (h : WS pl sc) {k : Int} (hk : 0 ≤ k ∧ k < 6) (hn : pl 1 2 ≤ k) : sc 2 k.toNat = -1 := by
  have := h.bub hk
  omega
theorem WS.film {pl sc : zF} (h : WS pl sc) {k : Int} (hk : 0 ≤ k ∧ k < 6) : 0 ≤ sc 3 k.toNat ∧ sc 3 k.toNat ≤ 99 := (h.slot hk).2.2.2.1
theorem WS.size {pl sc : zF} (h : WS pl sc) {k : Int} (hk : 0 ≤ k ∧ k < 6) : 0 ≤ sc 4 k.toNat ∧ sc 4 k.toNat ≤ 9 := (h.slot hk).2.2.2.2.1
theorem WS.deeds {pl sc : zF} (h : WS pl sc) {k : Int} (hk : 0 ≤ k ∧ k < 6) : 0 ≤ sc 5 k.toNat ∧ sc 5 k.toNat < 64 := (h.slot hk).2.2.2.2.2.1
theorem WS.owner {pl sc : zF} (h : WS pl sc) {k : Int} (hk : 0 ≤ k ∧ k < 6) : (-1 ≤ sc 6 k.toNat ∧ sc 6 k.toNat < pl 1 1) ∧ (pl 1 2 ≤ k → sc 6 k.toNat = -1) := ⟨(h.slot hk).2.2.2.2.2.2.1, (h.slot hk).2.2.2.2.2.2.2.1⟩
theorem WS.rent {pl sc : zF} (h : WS pl sc) {k : Int} (hk : 0 ≤ k ∧ k < 6) : (0 ≤ sc 7 k.toNat ∧ sc 7 k.toNat ≤ 999) ∧ (pl 1 2 ≤ k → sc 7 k.toNat = 0) := ⟨(h.slot hk).2.2.2.2.2.2.2.2.1, (h.slot hk).2.2.2.2.2.2.2.2.2⟩
theorem WS.dbit {pl sc : zF} (h : WS pl sc) {k d : Int} (hk : 0 ≤ k ∧ k < 6) (hd : 0 ≤ d ∧ d < 6) (hn : pl 1 2 ≤ d) : zbit (sc 5 k.toNat) d = 0 := by
  rcases zbit_01 (h.deeds hk) hd with q | q
  · exact q
  · have := (h.bt k d hk.1 hk.2 hd.1 hd.2 q).1
    omega
theorem WB.same {pl sc sc' : zF} {k : Int} (h : WB pl sc k) (e : ∀ s : Nat, 1 ≤ s → s ≤ 7 → sc' s k.toNat = sc s k.toNat) : WB pl sc' k := by
  unfold WB
  rw [e 1 (by decide) (by decide), e 2 (by decide) (by decide), e 3 (by decide) (by decide), e 4 (by decide) (by decide), e 5 (by decide) (by decide), e 6 (by decide) (by decide), e 7 (by decide) (by decide)]
  exact h
theorem BT.same {pl sc sc' : zF} (h : BT pl sc) (e5 : ∀ k : Int, 0 ≤ k → k < 6 → sc' 5 k.toNat = sc 5 k.toNat) (e6 : ∀ k : Int, 0 ≤ k → k < 6 → sc' 6 k.toNat = sc 6 k.toNat) : BT pl sc' := by
  intro k d h1 h2 h3 h4 h5
  rw [e5 k h1 h2] at h5
  rw [e6 d h3 h4]
  have := h k d h1 h2 h3 h4 h5
  refine ⟨this.1, this.2.1, fun k2 h6 h7 h8 => ?_⟩
  rw [e5 k2 h6 h7] at h8
  exact this.2.2 k2 h6 h7 h8
/-- other rows than 0..8 don't matter -/
theorem WS.row {pl sc sc' : zF} (h : WS pl sc) (e : ∀ s, s ≤ 8 → sc' s = sc s) : WS pl sc' := by
  refine ⟨?_, ?_, ?_, ?_, fun k h1 h2 => (h.slot ⟨h1, h2⟩).same (fun s _ h4 => by rw [e s (by omega)]), h.bt.same (fun k _ _ => by rw [e 5 (by decide)]) (fun k _ _ => by rw [e 6 (by decide)]), fun j hj => by rw [e 8 (by decide)]; exact h.rows hj⟩
  · rw [e 0 (by decide)]; exact h.sec
  · rw [e 0 (by decide)]; exact h.lamp
  · rw [e 0 (by decide)]; exact h.opn
  · rw [e 0 (by decide), zfl_row (e 2 (by decide))]; exact h.kept
/-- one slot of rows 1..7 changes -/
theorem WS.put {pl sc sc' : zF} {b : Int} (h : WS pl sc) (hb : 0 ≤ b ∧ b < 6) (e0 : sc' 0 = sc 0) (e8 : sc' 8 = sc 8) (e : ∀ (s : Nat) (k : Int), 1 ≤ s → s ≤ 7 → 0 ≤ k → k < 6 → k ≠ b → sc' s k.toNat = sc s k.toNat) (hk : sc 0 11 + aFlo sc' ≤ 6) (hs : WB pl sc' b) (ht : BT pl sc') : WS pl sc' := by
  refine ⟨by rw [e0]; exact h.sec, by rw [e0]; exact h.lamp, by rw [e0]; exact h.opn, by rw [e0]; exact ⟨h.kept.1, hk⟩, fun k h1 h2 => ?_, ht, fun j hj => by rw [e8]; exact h.rows hj⟩
  by_cases q : k = b
  · subst q
    exact hs
  · exact (h.slot ⟨h1, h2⟩).same (fun s h3 h4 => e s k h3 h4 h1 h2 q)
theorem WS.s2 {pl sc : zF} {b x : Int} (h : WS pl sc) (hb : 0 ≤ b ∧ b < 6) (hf : sc 2 b.toNat ≠ -1) (hx : zic (pl 0 1) (pl 0 2) x) : WS pl (zup sc 2 b.toNat x) := by
  have hs := h.slot hb
  have hx0 : x ≠ -1 := by unfold zic at hx; omega
  refine h.put hb (zup_row _ _ _ (by decide)) (zup_row _ _ _ (by decide)) (fun s k h1 h2 h3 h4 h5 => by rw [zupk hb.1 h3, if_neg (fun q => h5 q.2)]) ?_ ?_ ?_
  · rw [zfl_set hb]
    have := h.kept
    have e : zf1 (sc 2 b.toNat) = 1 := by unfold zf1; rw [if_neg hf]
    have := zf1_rng x
    omega
  · have hbu := h.bub hb
    unfold WB at hs ⊢
    simp only [zup_get, and_true, reduceIte]
    refine ⟨hs.1, hs.2.1, Or.inr ⟨by omega, hx⟩, hs.2.2.2⟩
  · exact h.bt.same (fun k h1 h2 => by rw [zup_row _ _ _ (by decide)]) (fun k h1 h2 => by rw [zup_row _ _ _ (by decide)])
theorem WS.s3 {pl sc : zF} {b x : Int} (h : WS pl sc) (hb : 0 ≤ b ∧ b < 6) (hf : sc 2 b.toNat ≠ -1) (hx : 0 ≤ x ∧ x ≤ 99) : WS pl (zup sc 3 b.toNat x) := by
  have hs := h.slot hb
  refine h.put hb (zup_row _ _ _ (by decide)) (zup_row _ _ _ (by decide)) (fun s k h1 h2 h3 h4 h5 => by rw [zupk hb.1 h3, if_neg (fun q => h5 q.2)]) ?_ ?_ ?_
  · rw [zfl_row (zup_row _ _ _ (by decide))]
    exact h.kept.2
  · have hbu := h.bub hb
    unfold WB at hs ⊢
    simp only [zup_get, and_true, reduceIte]
    refine ⟨hs.1, hs.2.1, Or.inr ?_, hx, hs.2.2.2.2⟩
    rcases hbu with q | q
    · exact absurd q.1 hf
    · exact q
  · exact h.bt.same (fun k h1 h2 => by rw [zup_row _ _ _ (by decide)]) (fun k h1 h2 => by rw [zup_row _ _ _ (by decide)])
theorem WS.s7 {pl sc : zF} {b x : Int} (h : WS pl sc) (hb : 0 ≤ b ∧ b < 6) (hn : b < pl 1 2) (hx : 0 ≤ x ∧ x ≤ 999) : WS pl (zup sc 7 b.toNat x) := by
  have hs := h.slot hb
  refine h.put hb (zup_row _ _ _ (by decide)) (zup_row _ _ _ (by decide)) (fun s k h1 h2 h3 h4 h5 => by rw [zupk hb.1 h3, if_neg (fun q => h5 q.2)]) ?_ ?_ ?_
  · rw [zfl_row (zup_row _ _ _ (by decide))]
    exact h.kept.2
  · unfold WB at hs ⊢
    simp only [zup_get, and_true, reduceIte]
    exact ⟨hs.1, hs.2.1, hs.2.2.1, hs.2.2.2.1, hs.2.2.2.2.1, hs.2.2.2.2.2.1, hs.2.2.2.2.2.2.1, hs.2.2.2.2.2.2.2.1, hx, fun q => absurd q (by omega)⟩
  · exact h.bt.same (fun k h1 h2 => by rw [zup_row _ _ _ (by decide)]) (fun k h1 h2 => by rw [zup_row _ _ _ (by decide)])
theorem WS.s1 {pl sc : zF} {b x : Int} (h : WS pl sc) (hb : 0 ≤ b ∧ b < 6) (hn : b < pl 1 1) (hx : zic (pl 0 1) (pl 0 2) x) : WS pl (zup sc 1 b.toNat x) := by
  have hs := h.slot hb
  refine h.put hb (zup_row _ _ _ (by decide)) (zup_row _ _ _ (by decide)) (fun s k h1 h2 h3 h4 h5 => by rw [zupk hb.1 h3, if_neg (fun q => h5 q.2)]) ?_ ?_ ?_
  · rw [zfl_row (zup_row _ _ _ (by decide))]
    exact h.kept.2
  · unfold WB at hs ⊢
    simp only [zup_get, and_true, reduceIte]
    exact ⟨fun _ => hx, fun q => absurd q (by omega), hs.2.2⟩
  · exact h.bt.same (fun k h1 h2 => by rw [zup_row _ _ _ (by decide)]) (fun k h1 h2 => by rw [zup_row _ _ _ (by decide)])
/-- second, lamp, doors -/
theorem WS.s0 {pl sc sc' : zF} (h : WS pl sc) (e : ∀ s, 1 ≤ s → sc' s = sc s) (h0 : 0 ≤ sc' 0 0 ∧ sc' 0 0 ≤ 1000) (h1 : sc' 0 1 = -1 ∨ zic (pl 0 1) (pl 0 2) (sc' 0 1)) (h2 : 0 ≤ sc' 0 2 ∧ sc' 0 2 < 64) (h3 : sc' 0 11 = sc 0 11) : WS pl sc' := by
  refine ⟨h0, h1, h2, ?_, fun k h1 h2 => (h.slot ⟨h1, h2⟩).same (fun s h3 h4 => by rw [e s (by omega)]), h.bt.same (fun k _ _ => by rw [e 5 (by decide)]) (fun k _ _ => by rw [e 6 (by decide)]), fun j hj => by rw [e 8 (by decide)]; exact h.rows hj⟩
  rw [h3, zfl_row (e 2 (by decide))]
  exact h.kept
/-! THE STEPS of a second -/
def aClear (b : Int) (sc : zF) : zF := zup (zup (zup (zup sc 2 b.toNat (-1)) 3 b.toNat 0) 4 b.toNat 0) 5 b.toNat 0
def aTwo (b o : Int) (sc : zF) : zF := aClear o (zup (zup (zup sc 3 b.toNat (max (sc 3 b.toNat) (sc 3 o.toNat))) 4 b.toNat (min 9 (sc 4 b.toNat + sc 4 o.toNat))) 5 b.toNat (zor (sc 5 b.toNat) (sc 5 o.toNat)))
def aJoin1 (b o : Int) (sc : zF) : zF := if sc 2 b.toNat ≠ -1 ∧ sc 2 o.toNat = sc 2 b.toNat then aTwo b o sc else sc
def aJoin (b : Int) (sc : zF) : zF := aIt (aJoin1 b) (b + 1) (5 - b).toNat sc
def aJoins (sc : zF) : zF := aIt aJoin 0 6 sc
def aHeirIn (sc : zF) (c : Int) : Int := aFd (fun k => decide (sc 1 k.toNat = c ∧ c ≠ -1)) 0 6
def aOwn1 (h dd d : Int) (sc : zF) : zF := if zbit dd d = 1 then zup sc 6 d.toNat h else sc
def aOwn (h dd : Int) (sc : zF) : zF := aIt (aOwn1 h dd) 0 6 sc
def aKeep (b h n : Int) (sc : zF) : zF := zup (zup (zup (zup (zup sc 8 (4 * sc 0 11).toNat (sc 0 0)) 8 (4 * sc 0 11 + 1).toNat b) 8 (4 * sc 0 11 + 2).toNat h) 8 (4 * sc 0 11 + 3).toNat n) 0 11 (sc 0 11 + 1)
def aBurst (b h : Int) (sc : zF) : zF := aKeep b h (zpop (sc 5 b.toNat)) (aClear b (aOwn h (sc 5 b.toNat) sc))
def aRent1 (b more d : Int) (sc : zF) : zF := if zbit (sc 5 b.toNat) d = 1 then zup sc 7 d.toNat (min 999 (sc 7 d.toNat + more)) else sc
def aRent (b more : Int) (sc : zF) : zF := aIt (aRent1 b more) 0 6 sc
def aDrift (pl : zF) (w : Int → Int) (br : Int) (b : Int) (sc : zF) : zF :=
  if znext (pl 0 1) (pl 0 2) (sc 2 b.toNat) (if w (sc 2 b.toNat) = -1 then br else w (sc 2 b.toNat)) = -1 then zup sc 9 b.toNat 0
  else zup (zup sc 9 b.toNat 1) 2 b.toNat (znext (pl 0 1) (pl 0 2) (sc 2 b.toNat) (if w (sc 2 b.toNat) = -1 then br else w (sc 2 b.toNat)))
def aDrifts (pl : zF) (w : Int → Int) (br : Int) (sc : zF) : zF := aIt (aDrift pl w br) 0 6 sc
theorem aHeirIn_rng (pl sc : zF) (h : WS pl sc) (c : Int) : -1 ≤ aHeirIn sc c ∧ aHeirIn sc c < pl 1 1 ∧ aHeirIn sc c < 6 ∨ aHeirIn sc c = -1 := by
  rcases aFd_rng (P := fun k => decide (sc 1 k.toNat = c ∧ c ≠ -1)) 6 0 with q | q
  · exact Or.inr q
  · left
    unfold aHeirIn
    have h2 := q.2.2
    simp only [decide_eq_true_eq] at h2
    have h3 := (h.heir (k := aFd (fun k => decide (sc 1 k.toNat = c ∧ c ≠ -1)) 0 6) (by omega)).2
    refine ⟨by omega, ?_, by omega⟩
    by_cases e : pl 1 1 ≤ aFd (fun k => decide (sc 1 k.toNat = c ∧ c ≠ -1)) 0 6
    · exact absurd ((h3 e).symm.trans h2.1) (fun q => h2.2 q.symm)
    · omega
theorem WS.drift {pl sc : zF} (h : WS pl sc) (hP : WP pl) (w : Int → Int) (br : Int) {b : Int} (hb : 0 ≤ b ∧ b < 6) : WS pl (aDrift pl w br b sc) := by
  unfold aDrift
  have hcr := hP.cr
  generalize (if w (sc 2 b.toNat) = -1 then br else w (sc 2 b.toNat)) = x
  by_cases q : znext (pl 0 1) (pl 0 2) (sc 2 b.toNat) x = -1
  · rw [if_pos q]
    exact h.row (fun s hs => zup_row _ _ _ (by omega))
  · rw [if_neg q]
    have h1 : WS pl (zup sc 9 b.toNat 1) := h.row (fun s hs => zup_row _ _ _ (by omega))
    refine h1.s2 hb ?_ ?_
    · rw [zup_row _ _ _ (by decide)]
      intro e
      apply q
      unfold znext
      rw [if_neg (by omega)]
    · rcases znext_rng (C := pl 0 1) (R := pl 0 2) (c := sc 2 b.toNat) (w := x) hcr.1.2 hcr.2.2 with q2 | q2
      · exact absurd q2 q
      · exact q2
theorem aClear_get {b k : Int} (hb : 0 ≤ b) (hk : 0 ≤ k) (sc : zF) (s : Nat) : aClear b sc s k.toNat = if k = b ∧ 2 ≤ s ∧ s ≤ 5 then (if s = 2 then -1 else 0) else sc s k.toNat := by
  unfold aClear
  rw [zupk hb hk, zupk hb hk, zupk hb hk, zupk hb hk]
  by_cases e : k = b
  · subst e
    simp only [and_true, true_and]
    by_cases e2 : s = 2
    · subst e2; simp
    · by_cases e3 : s = 3
      · subst e3; simp
      · by_cases e4 : s = 4
        · subst e4; simp
        · by_cases e5 : s = 5
          · subst e5; simp
          · rw [if_neg e5, if_neg e4, if_neg e3, if_neg e2, if_neg (by omega)]
  · rw [if_neg (fun q => e q.2), if_neg (fun q => e q.2), if_neg (fun q => e q.2), if_neg (fun q => e q.2), if_neg (fun q => e q.1)]
theorem aClear_row {b : Int} (sc : zF) {s : Nat} (h : s < 2 ∨ 5 < s) : aClear b sc s = sc s := by
  unfold aClear
  rw [zup_row _ _ _ (by omega), zup_row _ _ _ (by omega), zup_row _ _ _ (by omega), zup_row _ _ _ (by omega)]
theorem zfl_clear {sc : zF} {b : Int} (hb : 0 ≤ b ∧ b < 6) : aFlo (aClear b sc) = aFlo sc - zf1 (sc 2 b.toNat) := by
  unfold aClear
  rw [zfl_row (zup_row _ _ _ (by decide)), zfl_row (zup_row _ _ _ (by decide)), zfl_row (zup_row _ _ _ (by decide)), zfl_set hb]
  have : zf1 (-1) = 0 := rfl
  omega
theorem WS.two {pl sc : zF} (h : WS pl sc) {b o : Int} (hb : 0 ≤ b ∧ b < 6) (ho : 0 ≤ o ∧ o < 6) (hne : b ≠ o) (h1 : sc 2 b.toNat ≠ -1) (h2 : sc 2 o.toNat ≠ -1) : WS pl (aTwo b o sc) := by
  have hsb := h.slot hb
  have hso := h.slot ho
  have hbb : b < pl 1 2 ∧ zic (pl 0 1) (pl 0 2) (sc 2 b.toNat) := by
    rcases h.bub hb with q | q
    · exact absurd q.1 h1
    · exact q
  have hor := zor_lt (h.deeds hb) (h.deeds ho)
  have g : ∀ (s : Nat) (k : Int), 0 ≤ k → aTwo b o sc s k.toNat = if k = o ∧ 2 ≤ s ∧ s ≤ 5 then (if s = 2 then -1 else 0) else if k = b ∧ s = 5 then zor (sc 5 b.toNat) (sc 5 o.toNat) else if k = b ∧ s = 4 then min 9 (sc 4 b.toNat + sc 4 o.toNat) else if k = b ∧ s = 3 then max (sc 3 b.toNat) (sc 3 o.toNat) else sc s k.toNat := by
    intro s k hk
    unfold aTwo
    rw [aClear_get ho.1 hk, zupk hb.1 hk, zupk hb.1 hk, zupk hb.1 hk]
    simp only [and_comm]
  have r : ∀ s : Nat, (s < 2 ∨ 5 < s) → aTwo b o sc s = sc s := by
    intro s hs
    unfold aTwo
    rw [aClear_row _ hs, zup_row _ _ _ (by omega), zup_row _ _ _ (by omega), zup_row _ _ _ (by omega)]
  refine ⟨by rw [r 0 (by omega)]; exact h.sec, by rw [r 0 (by omega)]; exact h.lamp, by rw [r 0 (by omega)]; exact h.opn, ?_, fun k k1 k2 => ?_, ?_, fun j hj => by rw [r 8 (by omega)]; exact h.rows hj⟩
  · rw [r 0 (by omega)]
    have hk := h.kept
    refine ⟨hk.1, ?_⟩
    unfold aTwo
    rw [zfl_clear ho, zfl_row (zup_row _ _ _ (by decide)), zfl_row (zup_row _ _ _ (by decide)), zfl_row (zup_row _ _ _ (by decide))]
    rw [zup_row _ _ _ (by decide), zup_row _ _ _ (by decide), zup_row _ _ _ (by decide)]
    have := zf1_rng (sc 2 o.toNat)
    omega
  · have hsk := h.slot ⟨k1, k2⟩
    unfold WB at hsk hsb hso ⊢
    simp only [g _ k k1]
    by_cases e : k = o
    · subst e
      simp
      exact ⟨hsk.1, hsk.2.1, hsk.2.2.2.2.2.2⟩
    · by_cases e2 : k = b
      · subst e2
        simp [e]
        have hz := hbb.2
        have q1 := hsk.2.2.2.1
        have q2 := hso.2.2.2.1
        have q3 := hsk.2.2.2.2.1
        have q4 := hso.2.2.2.2.1
        refine ⟨hsk.1, hsk.2.1, Or.inr ⟨hbb.1, hz⟩, ?_, ?_, hor, hsk.2.2.2.2.2.2⟩
        · omega
        · omega
      · simp [e, e2]
        exact hsk
  · have hbt := h.bt
    have f5 : ∀ k : Int, 0 ≤ k → k < 6 → ∀ d : Int, 0 ≤ d → d < 6 → zbit (aTwo b o sc 5 k.toNat) d = 1 → (k ≠ o ∧ k ≠ b ∧ zbit (sc 5 k.toNat) d = 1) ∨ (k = b ∧ (zbit (sc 5 b.toNat) d = 1 ∨ zbit (sc 5 o.toNat) d = 1)) := by
      intro k k1 k2 d d1 d2 hq
      rw [g 5 k k1] at hq
      by_cases e : k = o
      · rw [if_pos ⟨e, by omega, by omega⟩, if_neg (by decide), zbit_z ⟨d1, d2⟩] at hq
        omega
      · rw [if_neg (fun q => e q.1)] at hq
        by_cases e2 : k = b
        · rw [if_pos ⟨e2, rfl⟩] at hq
          exact Or.inr ⟨e2, (zbit_or (h.deeds hb) (h.deeds ho) ⟨d1, d2⟩).mp hq⟩
        · rw [if_neg (fun q => e2 q.1), if_neg (fun q => e2 q.1), if_neg (fun q => e2 q.1)] at hq
          exact Or.inl ⟨e, e2, hq⟩
    intro k d k1 k2 d1 d2 hq
    rw [r 6 (by omega)]
    rcases f5 k k1 k2 d d1 d2 hq with q | q
    · have hh := hbt k d k1 k2 d1 d2 q.2.2
      refine ⟨hh.1, hh.2.1, fun k3 k4 k5 k6 => ?_⟩
      rcases f5 k3 k4 k5 d d1 d2 k6 with q2 | q2
      · exact hh.2.2 k3 k4 k5 q2.2.2
      · rcases q2.2 with q3 | q3
        · exact absurd (hh.2.2 b hb.1 hb.2 q3) (fun q4 => q.2.1 q4.symm)
        · exact absurd (hh.2.2 o ho.1 ho.2 q3) (fun q4 => q.1 q4.symm)
    · obtain ⟨rfl, q⟩ := q
      rcases q with q | q
      · have hh := hbt k d k1 k2 d1 d2 q
        refine ⟨hh.1, hh.2.1, fun k3 k4 k5 k6 => ?_⟩
        rcases f5 k3 k4 k5 d d1 d2 k6 with q2 | q2
        · exact hh.2.2 k3 k4 k5 q2.2.2
        · exact q2.1
      · have hh := hbt o d ho.1 ho.2 d1 d2 q
        refine ⟨hh.1, hh.2.1, fun k3 k4 k5 k6 => ?_⟩
        rcases f5 k3 k4 k5 d d1 d2 k6 with q2 | q2
        · exact absurd (hh.2.2 k3 k4 k5 q2.2.2) q2.1
        · exact q2.1
theorem WS.join1 {pl sc : zF} (h : WS pl sc) {b o : Int} (hb : 0 ≤ b ∧ b < 6) (ho : 0 ≤ o ∧ o < 6) (hne : b ≠ o) : WS pl (aJoin1 b o sc) := by
  unfold aJoin1
  split
  · next q => exact h.two hb ho hne q.1 (by rw [q.2]; exact q.1)
  · exact h
theorem aOwn_get (h dd : Int) (sc : zF) (s k : Nat) : aOwn h dd sc s k = if s = 6 ∧ k < 6 ∧ zbit dd (k : Int) = 1 then h else sc s k := by
  have := aIt_inv (f := aOwn1 h dd) (I := fun m s1 => ∀ s k : Nat, s1 s k = if s = 6 ∧ (k : Int) < m ∧ zbit dd (k : Int) = 1 then h else sc s k) (lo := 0) (m := 6) ?_ 6 0 sc (by omega) (by omega) ?_ s k
  · unfold aOwn
    rw [this]
    by_cases e : s = 6 ∧ k < 6 ∧ zbit dd (k : Int) = 1
    · rw [if_pos e, if_pos ⟨e.1, by omega, e.2.2⟩]
    · rw [if_neg e, if_neg (fun q => e ⟨q.1, by omega, q.2.2⟩)]
  · intro m s1 h1 h2 hI s k
    unfold aOwn1
    split
    · next q =>
      rw [zup_get, hI]
      by_cases e : s = 6 ∧ k = m.toNat
      · rw [if_pos e, if_pos]
        refine ⟨e.1, by omega, ?_⟩
        have : (k : Int) = m := by omega
        rw [this]
        exact q
      · rw [if_neg e]
        by_cases e2 : s = 6 ∧ (k : Int) < m ∧ zbit dd (k : Int) = 1
        · rw [if_pos e2, if_pos ⟨e2.1, by omega, e2.2.2⟩]
        · rw [if_neg e2, if_neg (fun q3 => e2 ⟨q3.1, by omega, q3.2.2⟩)]
    · next q =>
      rw [hI]
      by_cases e2 : s = 6 ∧ (k : Int) < m ∧ zbit dd (k : Int) = 1
      · rw [if_pos e2, if_pos ⟨e2.1, by omega, e2.2.2⟩]
      · rw [if_neg e2, if_neg]
        rintro ⟨q1, q2, q3⟩
        by_cases e3 : (k : Int) = m
        · rw [e3] at q3
          exact q q3
        · exact e2 ⟨q1, by omega, q3⟩
  · intro s k
    rw [if_neg (by omega)]
theorem aOwn_row (h dd : Int) (sc : zF) {s : Nat} (hs : s ≠ 6) : aOwn h dd sc s = sc s := by
  funext k
  rw [aOwn_get, if_neg (fun q => hs q.1)]
theorem WS.burst {pl sc : zF} (h : WS pl sc) {b hh : Int} (hb : 0 ≤ b ∧ b < 6) (h1 : sc 2 b.toNat ≠ -1) (hr : -1 ≤ hh ∧ hh < pl 1 1) (hP : WP pl) : WS pl (aBurst b hh sc) := by
  have hsb := h.slot hb
  have hk := h.kept
  have hfl := zfl_pos hb h1
  have hn := hP.n
  have hpop := zpop_rng (h.deeds hb)
  have hsec := h.sec
  have r : ∀ s : Nat, s = 1 ∨ s = 7 → aBurst b hh sc s = sc s := by
    intro s hs
    unfold aBurst aKeep
    rw [zup_row _ _ _ (by omega), zup_row _ _ _ (by omega), zup_row _ _ _ (by omega), zup_row _ _ _ (by omega), zup_row _ _ _ (by omega), aClear_row _ (by omega), aOwn_row _ _ _ (by omega)]
  have r2 : ∀ s : Nat, 2 ≤ s → s ≤ 5 → aBurst b hh sc s = aClear b sc s := by
    intro s hs1 hs2
    unfold aBurst aKeep
    rw [zup_row _ _ _ (by omega), zup_row _ _ _ (by omega), zup_row _ _ _ (by omega), zup_row _ _ _ (by omega), zup_row _ _ _ (by omega)]
    funext k
    unfold aClear
    simp only [zup_get]
    rw [aOwn_row _ _ _ (by omega)]
  have r6 : aBurst b hh sc 6 = aOwn hh (sc 5 b.toNat) sc 6 := by
    unfold aBurst aKeep
    rw [zup_row _ _ _ (by omega), zup_row _ _ _ (by omega), zup_row _ _ _ (by omega), zup_row _ _ _ (by omega), zup_row _ _ _ (by omega), aClear_row _ (by omega)]
  have r0 : ∀ j, j ≠ 11 → aBurst b hh sc 0 j = sc 0 j := by
    intro j hj
    unfold aBurst aKeep
    rw [zup_ne _ _ _ _ hj, zup_row _ _ _ (by omega), zup_row _ _ _ (by omega), zup_row _ _ _ (by omega), zup_row _ _ _ (by omega), aClear_row _ (by omega), aOwn_row _ _ _ (by omega)]
  have e11 : aBurst b hh sc 0 11 = sc 0 11 + 1 := by
    unfold aBurst aKeep
    rw [zup_at, aClear_row _ (by omega), aOwn_row _ _ _ (by omega)]
  refine ⟨by rw [r0 0 (by decide)]; exact h.sec, by rw [r0 1 (by decide)]; exact h.lamp, by rw [r0 2 (by decide)]; exact h.opn, ?_, fun k k1 k2 => ?_, ?_, fun j hj => ?_⟩
  · rw [e11, zfl_row (r2 2 (by decide) (by decide)), zfl_clear hb]
    have : zf1 (sc 2 b.toNat) = 1 := by unfold zf1; rw [if_neg h1]
    omega
  · have hsk := h.slot ⟨k1, k2⟩
    unfold WB at hsk ⊢
    rw [r 1 (by omega), r 7 (by omega), r2 2 (by omega) (by omega), r2 3 (by omega) (by omega), r2 4 (by omega) (by omega), r2 5 (by omega) (by omega), r6]
    simp only [aClear_get hb.1 k1, aOwn_get]
    have ho : (-1 ≤ (if True ∧ k.toNat < 6 ∧ zbit (sc 5 b.toNat) (k.toNat : Int) = 1 then hh else sc 6 k.toNat) ∧ (if True ∧ k.toNat < 6 ∧ zbit (sc 5 b.toNat) (k.toNat : Int) = 1 then hh else sc 6 k.toNat) < pl 1 1) ∧ (pl 1 2 ≤ k → (if True ∧ k.toNat < 6 ∧ zbit (sc 5 b.toNat) (k.toNat : Int) = 1 then hh else sc 6 k.toNat) = -1) := by
      split
      · next q =>
        refine ⟨hr, fun q2 => ?_⟩
        have q3 := h.dbit hb ⟨k1, k2⟩ q2
        rw [Int.toNat_of_nonneg k1] at q
        omega
      · exact ⟨hsk.2.2.2.2.2.2.1, hsk.2.2.2.2.2.2.2.1⟩
    by_cases e : k = b
    · subst e
      simp at ho ⊢
      exact ⟨hsk.1, hsk.2.1, ho.1, ho.2, hsk.2.2.2.2.2.2.2.2⟩
    · simp [e] at ho ⊢
      exact ⟨hsk.1, hsk.2.1, hsk.2.2.1, hsk.2.2.2.1, hsk.2.2.2.2.1, hsk.2.2.2.2.2.1, ho.1, ho.2, hsk.2.2.2.2.2.2.2.2⟩
  · intro k d k1 k2 d1 d2 hq
    rw [r2 5 (by decide) (by decide), aClear_get hb.1 k1] at hq
    by_cases e : k = b
    · rw [if_pos ⟨e, by omega, by omega⟩, if_neg (by decide), zbit_z ⟨d1, d2⟩] at hq
      omega
    · rw [if_neg (fun q => e q.1)] at hq
      have hb2 := h.bt k d k1 k2 d1 d2 hq
      refine ⟨hb2.1, ?_, fun k3 k4 k5 k6 => ?_⟩
      · rw [r6, aOwn_get, if_neg]
        · exact hb2.2.1
        · rintro ⟨_, _, q⟩
          rw [Int.toNat_of_nonneg d1] at q
          exact e (hb2.2.2 b hb.1 hb.2 q).symm
      · rw [r2 5 (by decide) (by decide), aClear_get hb.1 k4] at k6
        by_cases e3 : k3 = b
        · rw [if_pos ⟨e3, by omega, by omega⟩, if_neg (by decide), zbit_z ⟨d1, d2⟩] at k6
          omega
        · rw [if_neg (fun q => e3 q.1)] at k6
          exact hb2.2.2 k3 k4 k5 k6
  · unfold aBurst aKeep
    have h8 := h.rows hj
    rw [zup_row _ _ _ (by decide)]
    simp only [zup_get, aClear_row _ (show (0 : Nat) < 2 ∨ 5 < 0 by omega), aOwn_row _ _ _ (show (0 : Nat) ≠ 6 by omega), aClear_row _ (show (8 : Nat) < 2 ∨ 5 < 8 by omega), aOwn_row _ _ _ (show (8 : Nat) ≠ 6 by omega), true_and]
    split
    · omega
    · split
      · omega
      · split
        · omega
        · split
          · omega
          · exact h8
theorem aRent_inv {pl sc : zF} (h : WS pl sc) {b more : Int} (hb : 0 ≤ b ∧ b < 6) (hm : 0 ≤ more ∧ more ≤ 9) : WS pl (aRent b more sc) := by
  refine aIt_inv (f := aRent1 b more) (I := fun _ s => WS pl s) (lo := 0) (m := 6) ?_ 6 0 sc (by omega) (by omega) h
  intro k s k1 k2 hs
  unfold aRent1
  split
  · next q =>
    have := (hs.rent ⟨k1, k2⟩).1
    exact hs.s7 ⟨k1, k2⟩ ((hs.bt b k hb.1 hb.2 k1 k2 q).1) (by omega)
  · exact hs
