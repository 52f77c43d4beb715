/-! THE PLAN: its picture pl, and what the program's Plan methods answer -/
def zic (C R c : Int) : Prop := 0 ≤ c ∧ c < 64 ∧ c % 8 < C ∧ c / 8 < R
def zdx (w : Int) : Int := if w = 1 then 1 else if w = 3 then -1 else 0
def zdy (w : Int) : Int := if w = 2 then 1 else if w = 0 then -1 else 0
/-- one on along a way -/
def znext (C R c w : Int) : Int := if 0 ≤ c ∧ 0 ≤ w ∧ w < 4 then zcellAt C R (c % 8 + zdx w) (c / 8 + zdy w) else -1
theorem zcellAt_rng {C R x y : Int} (hC : C ≤ 7) (hR : R ≤ 7) : zcellAt C R x y = -1 ∨ zic C R (zcellAt C R x y) := by
  unfold zcellAt
  split
  · right
    unfold zic
    omega
  · exact Or.inl rfl
theorem znext_rng {C R c w : Int} (hC : C ≤ 7) (hR : R ≤ 7) : znext C R c w = -1 ∨ zic C R (znext C R c w) := by
  unfold znext
  split
  · exact zcellAt_rng hC hR
  · exact Or.inl rfl
theorem zic_iff {C R c : Int} (hC : C ≤ 7) (hR : R ≤ 7) (h : 0 ≤ c) : zcellAt C R (c % 8) (c / 8) ≠ -1 ↔ zic C R c := by
  unfold zcellAt zic
  split
  · omega
  · omega
/-- the plan as the program holds it at p: rows 0..8 and 10..12 -/
def PC (mem : zF) (p : Nat) (pl : zF) : Prop := (∀ s, s ≤ 12 → s ≠ 9 → mem (p + s) = pl s)
theorem PC.r {mem : zF} {p : Nat} {pl : zF} (h : PC mem p pl) (s : Nat) (h1 : s ≤ 12) (h2 : s ≠ 9) : mem (p + s) = pl s := h s h1 h2
theorem PC.r0 {mem : zF} {p : Nat} {pl : zF} (h : PC mem p pl) : mem p = pl 0 := h 0 (by decide) (by decide)
theorem PC.fr {mem mem' : zF} {p : Nat} {pl : zF} (h : PC mem p pl) (hf : ∀ s, s ≤ 12 → s ≠ 9 → mem' (p + s) = mem (p + s)) : PC mem' p pl := fun s h1 h2 => (hf s h1 h2).trans (h s h1 h2)
/-- counts and cells of a good plan -/
def WP (pl : zF) : Prop :=
  ((0 ≤ pl 1 0 ∧ pl 1 0 ≤ 6) ∧ (0 ≤ pl 1 1 ∧ pl 1 1 ≤ 6) ∧ (0 ≤ pl 1 2 ∧ pl 1 2 ≤ 6)) ∧
  ((pl 0 1 = 0 ∧ pl 0 2 = 0 ∧ pl 1 0 = 0 ∧ pl 1 1 = 0 ∧ pl 1 2 = 0) ∨ (3 ≤ pl 0 1 ∧ pl 0 1 ≤ 7 ∧ 3 ≤ pl 0 2 ∧ pl 0 2 ≤ 7)) ∧
  (pl 0 3 = -1 ∨ zic (pl 0 1) (pl 0 2) (pl 0 3)) ∧
  (0 ≤ pl 0 4 ∧ pl 0 4 ≤ 100) ∧
  (0 ≤ pl 0 5 ∧ pl 0 5 < 64) ∧
  (∀ k : Int, 0 ≤ k → k < pl 1 0 → zic (pl 0 1) (pl 0 2) (pl 3 k.toNat) ∧ (0 ≤ pl 4 k.toNat ∧ pl 4 k.toNat < 4) ∧ (1 ≤ pl 5 k.toNat ∧ pl 5 k.toNat ≤ 6)) ∧
  (∀ k : Int, 0 ≤ k → k < pl 1 1 → zic (pl 0 1) (pl 0 2) (pl 3 (6 + k).toNat) ∧ (0 ≤ pl 6 k.toNat ∧ pl 6 k.toNat ≤ 9)) ∧
  (∀ k : Int, 0 ≤ k → k < pl 1 2 → zic (pl 0 1) (pl 0 2) (pl 3 (12 + k).toNat) ∧ (1 ≤ pl 7 k.toNat ∧ pl 7 k.toNat ≤ 99) ∧ (1 ≤ pl 8 k.toNat ∧ pl 8 k.toNat ≤ 9)) ∧
  True ∧ (0 ≤ pl 0 0 ∧ pl 0 0 ≤ 80)
theorem WP.n {pl : zF} (h : WP pl) : (0 ≤ pl 1 0 ∧ pl 1 0 ≤ 6) ∧ (0 ≤ pl 1 1 ∧ pl 1 1 ≤ 6) ∧ (0 ≤ pl 1 2 ∧ pl 1 2 ≤ 6) := h.1
theorem WP.cr {pl : zF} (h : WP pl) : (0 ≤ pl 0 1 ∧ pl 0 1 ≤ 7) ∧ (0 ≤ pl 0 2 ∧ pl 0 2 ≤ 7) := by
  have := h.2.1
  omega
theorem WP.c0 {pl : zF} (h : WP pl) : (pl 0 1 = 0 ∧ pl 0 2 = 0 ∧ pl 1 0 = 0 ∧ pl 1 1 = 0 ∧ pl 1 2 = 0) ∨ (3 ≤ pl 0 1 ∧ pl 0 1 ≤ 7 ∧ 3 ≤ pl 0 2 ∧ pl 0 2 ≤ 7) := h.2.1
theorem WP.lamp {pl : zF} (h : WP pl) : pl 0 3 = -1 ∨ zic (pl 0 1) (pl 0 2) (pl 0 3) := h.2.2.1
theorem WP.breath {pl : zF} (h : WP pl) : 0 ≤ pl 0 4 ∧ pl 0 4 ≤ 100 := h.2.2.2.1
theorem WP.opn {pl : zF} (h : WP pl) : 0 ≤ pl 0 5 ∧ pl 0 5 < 64 := h.2.2.2.2.1
theorem WP.door {pl : zF} (h : WP pl) {k : Int} (h0 : 0 ≤ k) (h1 : k < pl 1 0) : zic (pl 0 1) (pl 0 2) (pl 3 k.toNat) ∧ (0 ≤ pl 4 k.toNat ∧ pl 4 k.toNat < 4) ∧ (1 ≤ pl 5 k.toNat ∧ pl 5 k.toNat ≤ 6) := h.2.2.2.2.2.1 k h0 h1
theorem WP.heir {pl : zF} (h : WP pl) {k : Int} (h0 : 0 ≤ k) (h1 : k < pl 1 1) : zic (pl 0 1) (pl 0 2) (pl 3 (6 + k).toNat) ∧ (0 ≤ pl 6 k.toNat ∧ pl 6 k.toNat ≤ 9) := h.2.2.2.2.2.2.1 k h0 h1
theorem WP.bub {pl : zF} (h : WP pl) {k : Int} (h0 : 0 ≤ k) (h1 : k < pl 1 2) : zic (pl 0 1) (pl 0 2) (pl 3 (12 + k).toNat) ∧ (1 ≤ pl 7 k.toNat ∧ pl 7 k.toNat ≤ 99) ∧ (1 ≤ pl 8 k.toNat ∧ pl 8 k.toNat ≤ 9) := h.2.2.2.2.2.2.2.1 k h0 h1
theorem WP.stm {pl : zF} (h : WP pl) : 0 ≤ pl 0 0 ∧ pl 0 0 ≤ 80 := h.2.2.2.2.2.2.2.2.2
section PLAN
variable {X : zX} {D p : Nat} {rf mem pl : zF} {Q : Int → zF → Prop}
theorem u_many (hR : zall rf zRK = true) (hp : zPln rf p) (hP : PC mem p pl) {s : Int} (hs : 0 ≤ s ∧ s < 3) (k : Q (pl 1 s.toNat) mem) : Ci X D 61 [(2, p), (0, s)] rf mem Q := by
  refine s_plan_many hR hp ?_
  rw [hP.r 1 (by decide) (by decide)]
  repeat' (first | omega | refine ⟨?_, ?_⟩ | intro _)
  all_goals exact k
/-- isThere for any sort -/
def zthere (pl : zF) (s w : Int) : Prop := 0 ≤ w ∧ w < 6 ∧ 0 ≤ s ∧ s < 3 ∧ w < pl 1 s.toNat
theorem u_isThere (hR : zall rf zRK = true) (hp : zPln rf p) (hP : PC mem p pl) (hW : WP pl) (hD : 1 ≤ D) {s w : Int} (hs : inI s) (hw : inI w) (k1 : zthere pl s w → Q 1 mem) (k0 : ¬ zthere pl s w → Q 0 mem) : Ci X D 60 [(2, p), (0, s), (0, w)] rf mem Q := by
  obtain ⟨d, rfl⟩ : ∃ d, D = d + 1 := ⟨D - 1, by omega⟩
  unfold zthere at k1 k0
  have hn := hW.n
  refine s_plan_isThere hR hp ?_
  refine ⟨hw, fun _ => k0 (by omega), fun q1 => ⟨hw, fun _ => k0 (by omega), fun q2 => ?_⟩⟩
  by_cases h3 : 0 ≤ s ∧ s < 3
  · refine u_many hR hp hP h3 ?_
    have : s = 0 ∨ s = 1 ∨ s = 2 := by omega
    rcases this with rfl | rfl | rfl
    · refine ⟨⟨hw, by show inI (pl 1 0); omega⟩, fun q => k0 (fun c => ?_), fun q => k1 ⟨by omega, by omega, by omega, by omega, by omega⟩⟩
      omega
    · refine ⟨⟨hw, by show inI (pl 1 1); omega⟩, fun q => k0 (fun c => ?_), fun q => k1 ⟨by omega, by omega, by omega, by omega, by omega⟩⟩
      omega
    · refine ⟨⟨hw, by show inI (pl 1 2); omega⟩, fun q => k0 (fun c => ?_), fun q => k1 ⟨by omega, by omega, by omega, by omega, by omega⟩⟩
      omega
  · refine s_plan_many hR hp ?_
    have h0 := k0 (by omega)
    refine ⟨hs, fun _ => ⟨⟨hw, by decide⟩, fun _ => h0, fun q => absurd q (by omega)⟩, fun _ => ⟨hs, fun _ => ⟨⟨hw, by decide⟩, fun _ => h0, fun q => absurd q (by omega)⟩, fun q => absurd q (by omega)⟩⟩
/-- the cell at first -/
def zcel (pl : zF) (s w : Int) : Int := if w < pl 1 s.toNat then pl 3 (6 * s + w).toNat else -1
theorem u_cellOf (hR : zall rf zRK = true) (hp : zPln rf p) (hP : PC mem p pl) (hW : WP pl) (hD : 2 ≤ D) {s w : Int} (hs : 0 ≤ s ∧ s < 3) (hw : 0 ≤ w ∧ w < 6) (k : Q (zcel pl s w) mem) : Ci X D 65 [(2, p), (0, s), (0, w)] rf mem Q := by
  obtain ⟨d, rfl⟩ : ∃ d, D = d + 1 := ⟨D - 1, by omega⟩
  unfold zcel at k
  refine s_plan_cellOf hR hp ?_
  refine u_isThere hR hp hP hW (by omega) (by omega) (by omega) (fun h => ?_) (fun h => ?_)
  · unfold zthere at h
    rw [if_pos (by omega)] at k
    rw [hP.r 3 (by decide) (by decide)]
    repeat' (first | omega | refine ⟨?_, ?_⟩ | intro _)
    all_goals exact k
  · unfold zthere at h
    rw [if_neg (by omega)] at k
    repeat' (first | omega | refine ⟨?_, ?_⟩ | intro _)
    all_goals exact k
theorem u_cellAt (hR : zall rf zRK = true) (hp : zPln rf p) (hP : PC mem p pl) (hW : WP pl) {x y : Int} (hx : inI x) (hy : inI y) (k : Q (zcellAt (pl 0 1) (pl 0 2) x y) mem) : Ci X D 69 [(2, p), (0, x), (0, y)] rf mem Q := by
  have hc := hW.cr
  unfold zcellAt at k
  refine s_plan_cellAt hR hp ?_
  rw [hP.r0]
  have f0 : ¬ (0 ≤ x ∧ x < pl 0 1 ∧ 0 ≤ y ∧ y < pl 0 2) → L_plan_cellAt_29 X D rf Q mem p x y 0 := fun h => by
    rw [if_neg h] at k
    exact s_plan_cellAt_29 hR hp ⟨by decide, fun _ => k, fun q => absurd rfl q⟩
  have f1 : (0 ≤ x ∧ x < pl 0 1 ∧ 0 ≤ y ∧ y < pl 0 2) → L_plan_cellAt_29 X D rf Q mem p x y 1 := fun h => by
    rw [if_pos h] at k
    exact s_plan_cellAt_29 hR hp ⟨by decide, fun q => absurd q (by decide), fun _ => k⟩
  refine ⟨hx, fun _ => f0 (by omega), fun _ => ⟨⟨hx, by omega⟩, fun _ => f0 (by omega), fun _ => ⟨hy, fun _ => f0 (by omega), fun _ => ⟨⟨hy, by omega⟩, fun _ => f0 (by omega), fun _ => f1 (by omega)⟩⟩⟩⟩
theorem u_isCell (hR : zall rf zRK = true) (hp : zPln rf p) (hP : PC mem p pl) (hW : WP pl) (hD : 1 ≤ D) {c : Int} (hc : inI c) (k1 : zic (pl 0 1) (pl 0 2) c → Q 1 mem) (k0 : ¬ zic (pl 0 1) (pl 0 2) c → Q 0 mem) : Ci X D 70 [(2, p), (0, c)] rf mem Q := by
  obtain ⟨d, rfl⟩ : ∃ d, D = d + 1 := ⟨D - 1, by omega⟩
  have hw := hW.cr
  refine s_plan_isCell hR hp ⟨hc, fun q => k0 (fun h => ?_), fun q => ⟨hc, hc, ?_⟩⟩
  · unfold zic at h
    omega
  · rw [tmod8 (by omega), tdiv8 (by omega)]
    refine u_cellAt hR hp hP hW (by omega) (by omega) ?_
    have h := zic_iff (C := pl 0 1) (R := pl 0 2) (c := c) (by omega) (by omega) (by omega)
    have hr := zcellAt_rng (C := pl 0 1) (R := pl 0 2) (x := c % 8) (y := c / 8) (by omega) (by omega)
    refine ⟨?_, fun q => k0 (fun hh => (h.mpr hh) q), fun q => k1 (h.mp q)⟩
    unfold zic at hr
    omega
theorem zom3 (X : zX) {w : Int} (hw : 0 ≤ w ∧ w < 4) : zom X 3 w.toNat = zdx w := by
  have : w = 0 ∨ w = 1 ∨ w = 2 ∨ w = 3 := by omega
  rcases this with rfl | rfl | rfl | rfl <;> rfl
theorem zom4 (X : zX) {w : Int} (hw : 0 ≤ w ∧ w < 4) : zom X 4 w.toNat = zdy w := by
  have : w = 0 ∨ w = 1 ∨ w = 2 ∨ w = 3 := by omega
  rcases this with rfl | rfl | rfl | rfl <;> rfl
theorem zdx_rng (w : Int) : -1 ≤ zdx w ∧ zdx w ≤ 1 := by
  unfold zdx
  split
  · omega
  · split <;> omega
theorem zdy_rng (w : Int) : -1 ≤ zdy w ∧ zdy w ≤ 1 := by
  unfold zdy
  split
  · omega
  · split <;> omega
theorem u_next (hR : zall rf zRK = true) (hp : zPln rf p) (hP : PC mem p pl) (hW : WP pl) (hD : 1 ≤ D) {c w : Int} (hc : inI c) (hw : inI w) (k : Q (znext (pl 0 1) (pl 0 2) c w) mem) : Ci X D 71 [(2, p), (0, c), (0, w)] rf mem Q := by
  obtain ⟨d, rfl⟩ : ∃ d, D = d + 1 := ⟨D - 1, by omega⟩
  unfold znext at k
  refine s_plan_next hR hp ⟨hc, fun q => ?_, fun q => ⟨hw, fun q2 => ?_, fun q2 => ⟨hw, fun q3 => ⟨hc, by omega, hc, by omega, ?_⟩, fun q3 => ?_⟩⟩⟩
  · rwa [if_neg (by omega)] at k
  · rwa [if_neg (by omega)] at k
  · rw [if_pos (by omega)] at k
    rw [tmod8 (by omega), tdiv8 (by omega), zom3 X (by omega), zom4 X (by omega)]
    have h1 := zdx_rng w
    have h2 := zdy_rng w
    exact u_cellAt hR hp hP hW (by omega) (by omega) k
  · rwa [if_neg (by omega)] at k
end PLAN
/-! THE DRAUGHTS -/
/-- is c among n cells that begin at a and go on along w -/
def zbl (C R w c : Int) : Int → Nat → Bool
  | _, 0 => false
  | a, n + 1 => if a = -1 then false else if a = c then true else zbl C R w c (znext C R a w) n
def zblown (pl : zF) (k c : Int) : Bool := zbl (pl 0 1) (pl 0 2) (pl 4 k.toNat) c (pl 3 k.toNat) (pl 5 k.toNat + 1).toNat
def zwdoor (pl : zF) (op c : Int) : Int := aFd (fun k => zbit op k = 1 && zblown pl k c) 0 (pl 1 0).toNat
def zwind (pl : zF) (op c : Int) : Int := if zwdoor pl op c = -1 then -1 else pl 4 (zwdoor pl op c).toNat
theorem zwind_rng {pl : zF} (hW : WP pl) (op c : Int) : -1 ≤ zwind pl op c ∧ zwind pl op c < 4 := by
  unfold zwind
  split
  · omega
  · next h =>
    have hn := hW.n
    rcases aFd_rng (P := fun k => zbit op k = 1 && zblown pl k c) (pl 1 0).toNat 0 with h1 | h1
    · exact absurd h1 h
    · have := (hW.door (k := zwdoor pl op c) h1.1 (by unfold zwdoor; omega)).2.1
      omega
section WIND
variable {X : zX} {D p w : Nat} {rf pl : zF} {Q : Int → zF → Prop}
theorem u_windIn (hR : zall rf zRK = true) (hw : zWrk rf w) {mem : zF} {c : Int} (hc : inI c) (k : Q (if 0 ≤ c ∧ c < 64 then mem (w + 1) c.toNat else -1) mem) : Ci X D 143 [(2, w), (0, c)] rf mem Q := by
  refine s_works_windIn hR hw ⟨hc, fun q => ?_, fun q => ⟨hc, fun q => ?_, fun q => ⟨by omega, ?_⟩⟩⟩
  · rwa [if_neg (by omega)] at k
  · rwa [if_neg (by omega)] at k
  · rwa [if_pos (by omega)] at k
end WIND
section BLOW
variable {X : zX} {p w : Nat} {rf pl : zF} {Q : zF → Prop}
/-- what blow makes of the row of draughts -/
def zrow1 (C R v : Int) (a : Int) (n : Nat) (f : Int → Int) : Int → Int := fun c => if f c = -1 ∧ zbl C R v c a n = true then v else f c
theorem zbl_in {C R v c : Int} (hC : C ≤ 7) (hR : R ≤ 7) : ∀ (n : Nat) (a : Int), (a = -1 ∨ zic C R a) → zbl C R v c a n = true → zic C R c
  | 0, a, _, h => by
    unfold zbl at h
    cases h
  | n + 1, a, ha, h => by
    unfold zbl at h
    split at h
    · cases h
    · next h1 =>
      split at h
      · next h2 =>
        rw [← h2]
        rcases ha with ha | ha
        · exact absurd ha h1
        · exact ha
      · exact zbl_in hC hR n _ (znext_rng hC hR) h
/-- the row of draughts holds f -/
def WR (mem : zF) (w : Nat) (f : Int → Int) : Prop := ∀ c : Int, 0 ≤ c → c < 64 → mem (w + 1) c.toNat = f c
theorem u_blow_10 (hR : zall rf zRK = true) (hw : zWrk rf w) (hp : zPln rf p) (hWP : WP pl) (hd : p + 13 ≤ w ∨ w + 2 ≤ p) {d : Nat} (hD : 1 ≤ d) {k : Int} (hk : 0 ≤ k ∧ k < pl 1 0) : ∀ (n : Nat) {mem : zF} {a j : Int} {f : Int → Int}, PC mem p pl → WR mem w f → (∀ c, inI (f c)) → (a = -1 ∨ zic (pl 0 1) (pl 0 2) a) → j + n = pl 5 k.toNat + 1 → 0 ≤ j → (∀ mem', (∀ i, i ≠ w + 1 → mem' i = mem i) → WR mem' w (zrow1 (pl 0 1) (pl 0 2) (pl 4 k.toNat) a n f) → Q mem') → L_works_blow_10 X d rf Q mem w p k a j
  | n, mem, a, j, f, hP, hr, hf, ha, hj, hj0, kk => by
    have hn := hWP.n
    have hdo := hWP.door hk.1 hk.2
    have hcr := hWP.cr
    refine s_works_blow_10 hR hw hp ⟨by omega, ?_⟩
    rw [hP.r 5 (by decide) (by decide)]
    refine ⟨by omega, fun q => ?_, fun q => ⟨?_, fun q1 => ?_, fun q1 => ⟨?_, fun q2 => ?_, fun q2 => ⟨by omega, ?_⟩⟩⟩⟩
    · have e : n = 0 := by omega
      subst e
      refine kk mem (fun _ _ => rfl) ?_
      intro c h1 h2
      rw [hr c h1 h2]
      unfold zrow1 zbl
      rw [if_neg (by simp)]
    · unfold zic at ha
      omega
    · have e : a = -1 := by unfold zic at ha; omega
      refine kk mem (fun _ _ => rfl) ?_
      intro c h1 h2
      rw [hr c h1 h2]
      unfold zrow1
      rw [if_neg]
      rintro ⟨_, h4⟩
      cases n with
      | zero => unfold zbl at h4; cases h4
      | succ n =>
        unfold zbl at h4
        rw [if_pos e] at h4
        cases h4
    · unfold zic at ha
      omega
    · unfold zic at ha
      omega
    · obtain ⟨m, rfl⟩ : ∃ m, n = m + 1 := ⟨n - 1, by omega⟩
      have hne : a ≠ -1 := by omega
      rw [hr a (by omega) (by omega)]
      have go : ∀ (mem1 : zF), (∀ i, i ≠ w + 1 → mem1 i = mem i) → WR mem1 w (fun c => if c = a ∧ f a = -1 then pl 4 k.toNat else f c) → L_works_blow_53 X d rf Q mem1 w p k a j := by
        intro mem1 h1 h2
        have hP1 : PC mem1 p pl := hP.fr (fun s h3 h4 => h1 _ (by omega))
        refine s_works_blow_53 hR hw hp ⟨by omega, ?_⟩
        rw [hP1.r 4 (by decide) (by decide)]
        refine u_next hR hp hP1 hWP hD (by omega) (by omega) ?_
        refine u_blow_10 hR hw hp hWP hd hD hk m hP1 h2 ?_ (znext_rng hcr.1.2 hcr.2.2) (by omega) (by omega) ?_
        · intro c
          show inI (if c = a ∧ f a = -1 then pl 4 k.toNat else f c)
          split
          · omega
          · exact hf c
        · intro mem2 h3 h4
          refine kk mem2 (fun i hi => (h3 i hi).trans (h1 i hi)) ?_
          intro c hc1 hc2
          rw [h4 c hc1 hc2]
          unfold zrow1
          simp only
          by_cases e : c = a
          · subst e
            have e2 : zbl (pl 0 1) (pl 0 2) (pl 4 k.toNat) c c (m + 1) = true := by
              unfold zbl
              rw [if_neg hne, if_pos rfl]
            rw [e2]
            by_cases e3 : f c = -1
            · rw [if_pos (show c = c ∧ f c = -1 from ⟨rfl, e3⟩), if_neg (by omega), if_pos ⟨e3, rfl⟩]
            · rw [if_neg (show ¬ (c = c ∧ f c = -1) from fun q => e3 q.2), if_neg (fun q => e3 q.1), if_neg (fun q => e3 q.1)]
          · have e2 : zbl (pl 0 1) (pl 0 2) (pl 4 k.toNat) c a (m + 1) = zbl (pl 0 1) (pl 0 2) (pl 4 k.toNat) c (znext (pl 0 1) (pl 0 2) a (pl 4 k.toNat)) m := by
              conv => lhs; unfold zbl
              rw [if_neg hne, if_neg (fun q => e q.symm)]
            rw [e2, if_neg (show ¬ (c = a ∧ f a = -1) from fun q => e q.1)]
      refine ⟨hf a, fun q3 => ?_, fun q3 => ⟨by omega, by omega, ?_⟩⟩
      · refine go mem (fun _ _ => rfl) (fun c h1 h2 => ?_)
        rw [hr c h1 h2]
        show f c = if c = a ∧ f a = -1 then pl 4 k.toNat else f c
        rw [if_neg (fun q => q3 q.2)]
      · rw [hP.r 4 (by decide) (by decide)]
        refine go _ (fun i hi => zup_row _ _ _ hi) (fun c h1 h2 => ?_)
        rw [zup_get]
        show _ = if c = a ∧ f a = -1 then pl 4 k.toNat else f c
        by_cases e : c = a
        · rw [e, if_pos ⟨rfl, rfl⟩, if_pos ⟨rfl, q3⟩]
        · rw [if_neg (by omega), hr c h1 h2, if_neg (fun q => e q.1)]
theorem u_blow (hR : zall rf zRK = true) (hw : zWrk rf w) (hp : zPln rf p) (hWP : WP pl) (hd : p + 13 ≤ w ∨ w + 2 ≤ p) {D : Nat} (hD : 3 ≤ D) {k : Int} (hk : 0 ≤ k ∧ k < pl 1 0) {mem : zF} {f : Int → Int} (hP : PC mem p pl) (hr : WR mem w f) (hf : ∀ c, inI (f c)) (kk : ∀ mem', (∀ i, i ≠ w + 1 → mem' i = mem i) → WR mem' w (fun c => if f c = -1 ∧ zblown pl k c = true then pl 4 k.toNat else f c) → Q mem') : Cv X D 142 [(2, w), (2, p), (0, k)] rf mem Q := by
  obtain ⟨d, rfl⟩ : ∃ d, D = d + 1 := ⟨D - 1, by omega⟩
  have hn := hWP.n
  have hdo := hWP.door hk.1 hk.2
  refine s_works_blow hR hw hp (u_cellOf hR hp hP hWP (by omega) (by decide) (by omega) ?_)
  have e : zcel pl 0 k = pl 3 k.toNat := by
    unfold zcel
    rw [if_pos (show k < pl 1 (Int.toNat 0) from hk.2)]
    congr 1
    omega
  rw [e]
  refine u_blow_10 hR hw hp hWP hd (by omega) hk (pl 5 k.toNat + 1).toNat hP hr hf (Or.inr hdo.1) (by omega) (by omega) ?_
  intro mem' h1 h2
  exact kk mem' h1 h2
end BLOW
