/-! stand and shine -/
def aOwned1 (r : zF) (h d m : Int) : Int := m + (if r 6 d.toNat = h then 1 else 0)
def aOwned (r : zF) (h : Int) : Int := aIt (aOwned1 r h) 0 6 0
def aRents1 (r : zF) (d m : Int) : Int := m + r 7 d.toNat
def aRents (r : zF) : Int := aIt (aRents1 r) 0 6 0
def aBest (c w : Int) (s : Int × Int) : Int × Int := if s.2 < w then (c, w) else s
def aStand1 (pl sc : zF) (h : Int) (n : Nat) (c : Int) (s : Int × Int) : Int × Int :=
  if zcellAt (pl 0 1) (pl 0 2) (c % 8) (c / 8) ≠ -1 ∧ (sc 1 h.toNat = c ∨ aHeirIn sc c = -1) then aBest c (aOwned (aRun pl n (zup sc 1 h.toNat c)) h) s else s
def aStand (pl sc : zF) (h n w : Int) : Int := if (0 ≤ h ∧ h < pl 1 1) ∧ (1 ≤ n ∧ n ≤ 20 ∧ sc 0 0 + n ≤ 999) ∧ 0 ≤ w ∧ w ≤ 2 then (if w = 2 then (aIt (aStand1 pl sc h n.toNat) 0 64 (-1, -1)).2 else zpart (aIt (aStand1 pl sc h n.toNat) 0 64 (-1, -1)).1 w) else -1
def aShine1 (pl sc : zF) (n : Nat) (c : Int) (s : Int × Int) : Int × Int :=
  if zcellAt (pl 0 1) (pl 0 2) (c % 8) (c / 8) ≠ -1 then aBest c (aRents (aRun pl n (zup sc 0 1 c))) s else s
def aShine (pl sc : zF) (n w : Int) : Int := if pl 0 1 ≠ 0 ∧ (1 ≤ n ∧ n ≤ 20 ∧ sc 0 0 + n ≤ 999) ∧ 0 ≤ w ∧ w ≤ 2 then (if w = 2 then (aIt (aShine1 pl sc n.toNat) 0 64 (-1, -1)).2 else zpart (aIt (aShine1 pl sc n.toNat) 0 64 (-1, -1)).1 w) else -1
theorem aOwned_rng (r : zF) (h : Int) : 0 ≤ aOwned r h ∧ aOwned r h ≤ 6 := by
  refine aIt_inv (f := aOwned1 r h) (I := fun m t => 0 ≤ t ∧ t ≤ m) (lo := 0) (m := 6) ?_ 6 0 0 (by omega) (by omega) (by decide)
  intro k t k1 k2 ht
  unfold aOwned1
  split <;> omega
theorem aRents_rng {pl r : zF} (hW : WS pl r) : 0 ≤ aRents r ∧ aRents r ≤ 5994 := by
  have := aIt_inv (f := aRents1 r) (I := fun m t => 0 ≤ t ∧ t ≤ 999 * m) (lo := 0) (m := 6) ?_ 6 0 0 (by omega) (by omega) (by decide)
  · unfold aRents
    omega
  · intro k t k1 k2 ht
    have := (hW.rent ⟨k1, k2⟩).1
    unfold aRents1
    omega
/-- the best so far: a cell, or none -/
def BB (s : Int × Int) : Prop := (-1 ≤ s.1 ∧ s.1 < 64) ∧ (-1 ≤ s.2 ∧ s.2 ≤ 5994)
section STAND
variable {X : zX} {p : Nat} {rf pl sc : zF}
theorem u_owned_4 {d o : Nat} {Q : Int → zF → Prop} {mem r : zF} (hR : zall rf zRK = true) (ho : zScn rf o) (hs : SC mem o r) (hP : WP pl) (hW : WS pl r) {h : Int} (hh : inI h) : ∀ (n : Nat) {x c : Int}, 0 ≤ x → x + n = 6 → Q (aIt (aOwned1 r h) x n c) mem → L_scene_deedsOwnedBy_4 X d rf Q mem o h c x
  | 0, x, c, h0, hx, kk => s_scene_deedsOwnedBy_4 hR ho ⟨by omega, fun _ => kk, fun q => absurd q (by omega)⟩
  | n + 1, x, c, h0, hx, kk => by
    have hN := hP.n
    have ho2 := (hW.owner (k := x) (by omega)).1
    refine s_scene_deedsOwnedBy_4 hR ho ⟨by omega, fun q => absurd q (by omega), fun _ => ⟨by omega, ?_⟩⟩
    rw [hs.i 6 (by decide) (by omega)]
    unfold aIt aOwned1 at kk
    refine ⟨⟨by omega, hh⟩, fun q => ?_, fun q => ?_⟩
    · rw [if_neg q] at kk
      exact u_owned_4 hR ho hs hP hW hh n (by omega) (by omega) kk
    · rw [if_pos q] at kk
      exact u_owned_4 hR ho hs hP hW hh n (by omega) (by omega) kk
theorem u_owned {d o : Nat} {Q : Int → zF → Prop} {mem r : zF} (hR : zall rf zRK = true) (ho : zScn rf o) (hs : SC mem o r) (hP : WP pl) (hW : WS pl r) {h : Int} (hh : inI h) (kk : Q (aOwned r h) mem) : Ci X d 90 [(2, o), (0, h)] rf mem Q :=
  s_scene_deedsOwnedBy hR ho (u_owned_4 hR ho hs hP hW hh 6 (by omega) (by omega) kk)
theorem u_rents_4 {d o : Nat} {Q : Int → zF → Prop} {mem r : zF} (hR : zall rf zRK = true) (ho : zScn rf o) (hs : SC mem o r) : ∀ (n : Nat) {x c : Int}, 0 ≤ x → x + n = 6 → Q (aIt (aRents1 r) x n c) mem → L_scene_rentOfAll_4 X d rf Q mem o c x
  | 0, x, c, h0, hx, kk => s_scene_rentOfAll_4 hR ho ⟨by omega, fun _ => kk, fun q => absurd q (by omega)⟩
  | n + 1, x, c, h0, hx, kk => by
    refine s_scene_rentOfAll_4 hR ho ⟨by omega, fun q => absurd q (by omega), fun _ => ⟨by omega, ?_⟩⟩
    rw [hs.i 7 (by decide) (by omega)]
    exact u_rents_4 hR ho hs n (by omega) (by omega) kk
theorem u_rents {d o : Nat} {Q : Int → zF → Prop} {mem r : zF} (hR : zall rf zRK = true) (ho : zScn rf o) (hs : SC mem o r) (kk : Q (aRents r) mem) : Ci X d 92 [(2, o)] rf mem Q :=
  s_scene_rentOfAll hR ho (u_rents_4 hR ho hs 6 (by omega) (by omega) kk)
theorem u_compare {d : Nat} {Q : zF → Prop} {mem : zF} (hR : zall rf zRK = true) {c w : Int} {s : Int × Int} (h8 : mem 35 8 = s.1) (h9 : mem 35 9 = s.2) (hw : inI w) (hs : inI s.2) (kk : ∀ mem', mem' 35 8 = (aBest c w s).1 → mem' 35 9 = (aBest c w s).2 → (∀ i, i ≠ 35 → mem' i = mem i) → mem' 35 7 = mem 35 7 → Q mem') : Cv X d 108 [(2, 35), (0, c), (0, w)] rf mem Q := by
  refine s_seer_compare hR ?_
  rw [h9]
  unfold aBest at kk
  refine ⟨⟨hw, hs⟩, fun q => ?_, fun q => ?_⟩
  · rw [if_neg (by omega)] at kk
    exact kk mem h8 h9 (fun _ _ => rfl) rfl
  · rw [if_pos (by omega)] at kk
    refine kk _ ?_ ?_ (fun i hi => ?_) ?_
    · rw [zup_ne _ _ _ _ (by decide), zup_at]
    · rw [zup_at]
    · rw [zup_row _ _ _ hi, zup_row _ _ _ hi]
    · rw [zup_ne _ _ _ _ (by decide), zup_ne _ _ _ _ (by decide)]
theorem BB.best {c w : Int} {s : Int × Int} (h : BB s) (hc : 0 ≤ c ∧ c < 64) (hw : 0 ≤ w ∧ w ≤ 5994) : BB (aBest c w s) := by
  unfold aBest
  split
  · exact ⟨by show -1 ≤ c ∧ c < 64; omega, by show -1 ≤ w ∧ w ≤ 5994; omega⟩
  · exact h
/-- what a trial leaves as it was, the draughts too -/
def QT (p : Nat) (mem mem' : zF) : Prop := QC p mem mem' ∧ mem' 35 = mem 35 ∧ mem' 37 = mem 37
theorem FP.qt {m1 m2 : zF} (h : FP p 36 39 m1 m2) (hp : p = 8 ∨ p = 246) : QT p m1 m2 := ⟨h.qc hp, h 35 (by omega) (by omega) (by omega) (by omega) (by omega), h 37 (by omega) (by omega) (by omega) (by omega) (by omega)⟩
theorem FS.qt {m1 m2 : zF} (h : FS 39 m1 m2) : QT p m1 m2 := ⟨h.qc, h 35 (by omega), h 37 (by omega)⟩
theorem QT.trans {m1 m2 m3 : zF} (h1 : QT p m1 m2) (h2 : QT p m2 m3) : QT p m1 m3 := ⟨h1.1.trans h2.1, h2.2.1.trans h1.2.1, h2.2.2.trans h1.2.2⟩
theorem u_stand_13 {d : Nat} {Q : zF → Prop} (hD : 5 ≤ d) (hP : PX pl sc) {h n : Int} (hh : 0 ≤ h ∧ h < 6 ∧ h < pl 1 1) (hn : 0 ≤ n ∧ n ≤ 1000 ∧ sc 0 0 + n ≤ 999) : ∀ (m : Nat) {x : Int} {mem : zF} {s : Int × Int}, CX rf mem p pl sc → WR mem 36 (zwind pl (sc 0 2)) → mem 35 8 = s.1 → mem 35 9 = s.2 → BB s → 0 ≤ x → x + m = 64 → (∀ mem', QC p mem mem' → mem' 35 8 = (aIt (aStand1 pl sc h n.toNat) x m s).1 → mem' 35 9 = (aIt (aStand1 pl sc h n.toNat) x m s).2 → BB (aIt (aStand1 pl sc h n.toNat) x m s) → Q mem') → L_seer_findStand_13 X d rf Q mem p 23 h n x
  | 0, x, mem, s, hX, hr, h8, h9, hB, h0, hx, kk => s_seer_findStand_13 hX.r hX.p (zScn_23 hX.r) ⟨by omega, fun _ => kk mem QC.rfl h8 h9 hB, fun q => absurd q (by omega)⟩
  | m + 1, x, mem, s, hX, hr, h8, h9, hB, h0, hx, kk => by
    have hcr := hP.1.cr
    have hN := hP.1.n
    refine s_seer_findStand_13 hX.r hX.p (zScn_23 hX.r) ⟨by omega, fun q => absurd q (by omega), fun _ => ?_⟩
    refine u_isThere hX.r hX.p hX.pc hP.1 (by omega) (by decide) (by omega) (fun _ => ?_) (fun q => absurd (show zthere pl 1 h from ⟨hh.1, hh.2.1, by decide, by decide, hh.2.2⟩) q)
    unfold aIt at kk
    have hic := zic_iff (C := pl 0 1) (R := pl 0 2) (c := x) (by omega) (by omega) (by omega)
    have skip : aStand1 pl sc h n.toNat x s = s → L_seer_findStand_13 X d rf Q mem p 23 h n (x + 1) := by
      intro ea
      rw [ea] at kk
      exact u_stand_13 hD hP hh hn m hX hr h8 h9 hB (by omega) (by omega) kk
    have g55 : ∀ f : Int, (f = 1 ∧ (sc 1 h.toNat = x ∨ aHeirIn sc x = -1)) ∨ (f = 0 ∧ ¬ (sc 1 h.toNat = x ∨ aHeirIn sc x = -1)) → L_seer_findStand_55 X d rf Q mem p 23 h n x f := by
      intro f hf
      refine s_seer_findStand_55 hX.r hX.p (zScn_23 hX.r) (u_isCell hX.r hX.p hX.pc hP.1 (by omega) (by omega) (fun c1 => ?_) (fun c1 => ?_))
      · refine ⟨by decide, fun q => absurd q (by decide), fun _ => ⟨by omega, fun q => skip ?_, fun q => ?_⟩⟩
        · unfold aStand1
          rw [if_neg (fun c => by omega)]
        · have hfr : sc 1 h.toNat = x ∨ aHeirIn sc x = -1 := by omega
          have ea : aStand1 pl sc h n.toNat x s = aBest x (aOwned (aRun pl n.toNat (zup sc 1 h.toNat x)) h) s := by
            unfold aStand1
            rw [if_pos ⟨hic.mpr c1, hfr⟩]
          rw [ea] at kk
          refine u_copyT hX ?_
          intro m1 g1 f1
          refine ⟨by omega, ?_⟩
          have hs2 : SC (zup m1 40 h.toNat x) 39 (zup sc 1 h.toNat x) := g1.up 1 _ _
          have hF2 : FS 39 mem (zup m1 40 h.toNat x) := f1.up (s := 1) (by decide)
          have hW2 := hP.2.2.1.s1 (b := h) (by omega) hh.2.2 c1
          have hX2 := hX.q (hF2.qc (p := p))
          refine u_run hX2 hP.1 hP.2.1 hD (by omega) hs2 ?_ hW2 (by rw [zup_row _ _ _ (by decide)]; omega) ?_
          · rw [zup_row _ _ _ (by decide)]
            intro c c1 c2
            rw [hF2 (36 + 1) (by omega)]
            exact hr c c1 c2
          · intro m3 g3 f3
            have hW3 := WS.run hP.1 n.toNat hW2 (by rw [zup_row _ _ _ (by decide)]; omega)
            have hq3 : QT p mem m3 := hF2.qt.trans (f3.qt hX.e)
            have how := aOwned_rng (aRun pl n.toNat (zup sc 1 h.toNat x)) h
            refine u_owned (o := 39) hX.r (zScn_39 hX.r) g3 hP.1 hW3 (by omega) ?_
            refine u_compare (s := s) hX.r (by rw [hq3.2.1]; exact h8) (by rw [hq3.2.1]; exact h9) (by omega) (by have := hB.2; omega) ?_
            intro m4 k8 k9 f4 f7
            have hq4 : QC p mem m4 := hq3.1.trans ⟨fun i a b c d => f4 i (by omega), f7⟩
            refine u_stand_13 hD hP hh hn m (hX.q hq4) ?_ k8 k9 (hB.best (by omega) (by omega)) (by omega) (by omega) (fun m5 f5 => kk m5 (hq4.trans f5))
            intro c c1 c2
            rw [f4 (36 + 1) (by omega), hq3.2.2]
            exact hr c c1 c2
      · refine ⟨by decide, fun _ => skip ?_, fun q => absurd rfl q⟩
        unfold aStand1
        rw [if_neg (fun c => c1 (hic.mp c.1))]
    have e1 : mem (23 + 1) h.toNat = sc 1 h.toNat := hX.s.i 1 (by decide) (by omega)
    have hhI := hP.2.2.1.heirI (k := h) (by omega)
    refine ⟨by decide, fun q => absurd q (by decide), fun _ => ⟨by omega, ?_⟩⟩
    rw [e1]
    refine ⟨by omega, fun q => g55 1 (Or.inl ⟨rfl, Or.inl q⟩), fun q => ?_⟩
    refine u_heirIn (o := 23) hX.r (zScn_23 hX.r) hX.s (fun k k1 k2 => by have := hP.2.2.1.heirI ⟨k1, k2⟩; omega) (by omega) ?_
    have hhr := aHeirIn_rng pl sc hP.2.2.1 x
    exact ⟨by omega, fun q2 => g55 0 (Or.inr ⟨rfl, by omega⟩), fun q2 => g55 1 (Or.inl ⟨rfl, Or.inr q2⟩)⟩
theorem u_shine_13 {d : Nat} {Q : zF → Prop} (hD : 5 ≤ d) (hP : PX pl sc) {n : Int} (hn : 0 ≤ n ∧ n ≤ 1000 ∧ sc 0 0 + n ≤ 999) : ∀ (m : Nat) {x : Int} {mem : zF} {s : Int × Int}, CX rf mem p pl sc → WR mem 36 (zwind pl (sc 0 2)) → mem 35 8 = s.1 → mem 35 9 = s.2 → BB s → 0 ≤ x → x + m = 64 → (∀ mem', QC p mem mem' → mem' 35 8 = (aIt (aShine1 pl sc n.toNat) x m s).1 → mem' 35 9 = (aIt (aShine1 pl sc n.toNat) x m s).2 → BB (aIt (aShine1 pl sc n.toNat) x m s) → Q mem') → L_seer_findShine_13 X d rf Q mem p 23 n x
  | 0, x, mem, s, hX, hr, h8, h9, hB, h0, hx, kk => s_seer_findShine_13 hX.r hX.p (zScn_23 hX.r) ⟨by omega, fun _ => kk mem QC.rfl h8 h9 hB, fun q => absurd q (by omega)⟩
  | m + 1, x, mem, s, hX, hr, h8, h9, hB, h0, hx, kk => by
    have hcr := hP.1.cr
    have hN := hP.1.n
    unfold aIt at kk
    have hic := zic_iff (C := pl 0 1) (R := pl 0 2) (c := x) (by omega) (by omega) (by omega)
    refine s_seer_findShine_13 hX.r hX.p (zScn_23 hX.r) ⟨by omega, fun q => absurd q (by omega), fun _ => u_isCell hX.r hX.p hX.pc hP.1 (by omega) (by omega) (fun c1 => ?_) (fun c1 => ?_)⟩
    · have ea : aShine1 pl sc n.toNat x s = aBest x (aRents (aRun pl n.toNat (zup sc 0 1 x))) s := by
        unfold aShine1
        rw [if_pos (hic.mpr c1)]
      rw [ea] at kk
      refine ⟨by decide, fun q => absurd q (by decide), fun _ => u_copyT hX ?_⟩
      intro m1 g1 f1
      have hs2 : SC (zup m1 39 1 x) 39 (zup sc 0 1 x) := g1.up0 1 _
      have hF2 : FS 39 mem (zup m1 39 1 x) := f1.up0
      have hW2 := hP.2.2.1.s01 (Or.inr c1)
      have hX2 := hX.q (hF2.qc (p := p))
      refine u_run hX2 hP.1 hP.2.1 hD (by omega) hs2 ?_ hW2 (by rw [zup_ne _ _ _ _ (by decide)]; omega) ?_
      · rw [zup_ne _ _ _ _ (by decide)]
        intro c c1 c2
        rw [hF2 (36 + 1) (by omega)]
        exact hr c c1 c2
      · intro m3 g3 f3
        have hW3 := WS.run hP.1 n.toNat hW2 (by rw [zup_ne _ _ _ _ (by decide)]; omega)
        have hq3 : QT p mem m3 := hF2.qt.trans (f3.qt hX.e)
        have how := aRents_rng hW3
        refine u_rents (o := 39) hX.r (zScn_39 hX.r) g3 ?_
        refine u_compare (s := s) hX.r (by rw [hq3.2.1]; exact h8) (by rw [hq3.2.1]; exact h9) (by omega) (by have := hB.2; omega) ?_
        intro m4 k8 k9 f4 f7
        have hq4 : QC p mem m4 := hq3.1.trans ⟨fun i a b c d => f4 i (by omega), f7⟩
        refine u_shine_13 hD hP hn m (hX.q hq4) ?_ k8 k9 (hB.best (by omega) (by omega)) (by omega) (by omega) (fun m5 f5 => kk m5 (hq4.trans f5))
        intro c c1 c2
        rw [f4 (36 + 1) (by omega), hq3.2.2]
        exact hr c c1 c2
    · have ea : aShine1 pl sc n.toNat x s = s := by
        unfold aShine1
        rw [if_neg (fun c => c1 (hic.mp c))]
      rw [ea] at kk
      exact ⟨by decide, fun _ => u_shine_13 hD hP hn m hX hr h8 h9 hB (by omega) (by omega) kk, fun q => absurd rfl q⟩
theorem u_forgetBest {d : Nat} {Q : zF → Prop} {mem : zF} (hR : zall rf zRK = true) (kk : ∀ mem', mem' 35 8 = -1 → mem' 35 9 = -1 → (∀ i, i ≠ 35 → mem' i = mem i) → mem' 35 7 = mem 35 7 → Q mem') : Cv X d 107 [(2, 35)] rf mem Q := by
  refine s_seer_forgetBest hR (kk _ ?_ ?_ (fun i hi => ?_) ?_)
  · rw [zup_ne _ _ _ _ (by decide), zup_at]
  · rw [zup_at]
  · rw [zup_row _ _ _ hi, zup_row _ _ _ hi]
  · rw [zup_ne _ _ _ _ (by decide), zup_ne _ _ _ _ (by decide)]
theorem u_startT {D : Nat} {Q : zF → Prop} {mem : zF} (hX : CX rf mem p pl sc) (hP : PX pl sc) (hD : 5 ≤ D) (kk : ∀ mem', SC mem' 39 sc → WR mem' 36 (zwind pl (sc 0 2)) → QC p mem mem' → mem' 35 = mem 35 → Q mem') : Cv X D 100 [(2, 35), (2, p), (2, 23)] rf mem Q := by
  obtain ⟨d, rfl⟩ : ∃ d, D = d + 1 := ⟨D - 1, by omega⟩
  have hp := hX.e
  refine s_seer_start hX.r hX.p (zScn_23 hX.r) (u_copyT hX ?_)
  intro m1 g1 f1
  have hX1 := hX.q (f1.qc (p := p))
  refine u_prepare (o := 39) (w := 36) hX.r (zWrk_36 hX.r) hX.p (zScn_39 hX.r) hP.1 (by omega) (by decide) (by omega) hP.2.2.1.opn hX1.pc (g1.z 2 (by decide)) ?_
  intro m2 f2 g2
  exact kk m2 (g1.fr (fun i h1 h2 => f2 i (by omega))) g2 ((f1.qc).trans ⟨fun i a b c d => f2 i (by omega), by rw [f2 35 (by decide)]⟩) ((f2 35 (by decide)).trans (f1 35 (by omega)))
theorem u_stand {D : Nat} {Q : Int → zF → Prop} {mem : zF} (hX : CX rf mem p pl sc) (hP : PX pl sc) (hD : 7 ≤ D) {h n w : Int} (hh : inI h) (hn : inI n) (hw : inI w) (kk : ∀ mem', QC p mem mem' → Q (aStand pl sc h n w) mem') : Ci X D 165 [(2, 0), (0, h), (0, n), (0, w)] rf mem Q := by
  obtain ⟨d, rfl⟩ : ∃ d, D = d + 1 := ⟨D - 1, by omega⟩
  obtain ⟨d, rfl⟩ : ∃ e, d = e + 1 := ⟨d - 1, by omega⟩
  have hN := hP.1.n
  unfold aStand at kk
  refine s_c_stand hX.r hX.p hX.f (u_isThere hX.r hX.p hX.pc hP.1 (by omega) (by decide) hh (fun q1 => ?_) (fun q1 => ?_))
  · have hh2 : 0 ≤ h ∧ h < 6 ∧ h < pl 1 1 := ⟨q1.1, q1.2.1, q1.2.2.2.2⟩
    refine ⟨by decide, fun q => absurd q (by decide), fun _ => u_canPass hX hP hn (by decide) (by decide) (fun hc => ?_) (fun hc => ?_)⟩
    · refine ⟨by decide, fun _ => ?_, fun q => absurd q (by decide)⟩
      unfold zcan at hc
      refine s_seer_findStand hX.r hX.p (zScn_23 hX.r) (u_forgetBest hX.r ?_)
      intro m1 a8 a9 f1 f7
      have hq1 : QC p mem m1 := ⟨fun i a b c d => f1 i (by omega), f7⟩
      refine u_startT (hX.q hq1) hP (by omega) ?_
      intro m2 g2 g3 f2 e35
      have hq2 := hq1.trans f2
      refine u_stand_13 (s := (-1, -1)) (by omega) hP hh2 (by omega) 64 (hX.q hq2) g3 (by rw [e35]; exact a8) (by rw [e35]; exact a9) ⟨by decide, by decide⟩ (by omega) (by omega) ?_
      intro m3 f3 b8 b9 hB
      have hq3 := hq2.trans f3
      have := kk m3 hq3
      refine ⟨hw, fun q => ?_, fun q => ?_⟩
      · rw [b8]
        refine u_placePart (hX.q hq3) hB.1 hw ?_
        by_cases hw2 : 0 ≤ w ∧ w ≤ 2
        · rwa [if_pos ⟨⟨hh2.1, hh2.2.2⟩, hc, hw2⟩, if_neg q] at this
        · rw [if_neg (fun c => hw2 c.2.2)] at this
          rwa [zpart_no (by omega)]
      · rw [b9]
        rwa [if_pos ⟨⟨hh2.1, hh2.2.2⟩, hc, by omega⟩, if_pos q] at this
    · refine ⟨by decide, fun q => absurd rfl q, fun _ => ?_⟩
      have := kk mem QC.rfl
      rwa [if_neg (fun c => hc c.2.1)] at this
  · refine ⟨by decide, fun _ => ?_, fun q => absurd rfl q⟩
    have := kk mem QC.rfl
    rwa [if_neg (fun c => q1 ⟨c.1.1, by omega, by decide, by decide, c.1.2⟩)] at this
theorem u_shine {D : Nat} {Q : Int → zF → Prop} {mem : zF} (hX : CX rf mem p pl sc) (hP : PX pl sc) (hD : 7 ≤ D) {n w : Int} (hn : inI n) (hw : inI w) (kk : ∀ mem', QC p mem mem' → Q (aShine pl sc n w) mem') : Ci X D 166 [(2, 0), (0, n), (0, w)] rf mem Q := by
  obtain ⟨d, rfl⟩ : ∃ d, D = d + 1 := ⟨D - 1, by omega⟩
  obtain ⟨d, rfl⟩ : ∃ e, d = e + 1 := ⟨d - 1, by omega⟩
  have hcr := hP.1.cr
  unfold aShine at kk
  refine s_c_shine hX.r hX.p hX.f ?_
  rw [hX.pc.r0]
  refine ⟨by omega, fun q1 => ?_, fun q1 => u_canPass hX hP hn (by decide) (by decide) (fun hc => ?_) (fun hc => ?_)⟩
  · have := kk mem QC.rfl
    rwa [if_neg (fun c => c.1 q1)] at this
  · refine ⟨by decide, fun _ => ?_, fun q => absurd q (by decide)⟩
    unfold zcan at hc
    refine s_seer_findShine hX.r hX.p (zScn_23 hX.r) (u_forgetBest hX.r ?_)
    intro m1 a8 a9 f1 f7
    have hq1 : QC p mem m1 := ⟨fun i a b c d => f1 i (by omega), f7⟩
    refine u_startT (hX.q hq1) hP (by omega) ?_
    intro m2 g2 g3 f2 e35
    have hq2 := hq1.trans f2
    refine u_shine_13 (s := (-1, -1)) (by omega) hP (by omega) 64 (hX.q hq2) g3 (by rw [e35]; exact a8) (by rw [e35]; exact a9) ⟨by decide, by decide⟩ (by omega) (by omega) ?_
    intro m3 f3 b8 b9 hB
    have hq3 := hq2.trans f3
    have := kk m3 hq3
    refine ⟨hw, fun q => ?_, fun q => ?_⟩
    · rw [b8]
      refine u_placePart (hX.q hq3) hB.1 hw ?_
      by_cases hw2 : 0 ≤ w ∧ w ≤ 2
      · rwa [if_pos ⟨q1, hc, hw2⟩, if_neg q] at this
      · rw [if_neg (fun c => hw2 c.2.2)] at this
        rwa [zpart_no (by omega)]
    · rw [b9]
      rwa [if_pos ⟨q1, hc, by omega⟩, if_pos q] at this
  · refine ⟨by decide, fun q => absurd rfl q, fun _ => ?_⟩
    have := kk mem QC.rfl
    rwa [if_neg (fun c => hc c.2.1)] at this
end STAND
