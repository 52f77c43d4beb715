/-! THE WHOLE STATE: program and reference side by side -/
def TP (mem : zF) (tb : Nat → Int) : Prop := mem 1 1 = mem 261 1 ∧ (0 ≤ mem 1 1 ∧ mem 1 1 ≤ 1600) ∧ ∀ j : Nat, (j : Int) < mem 1 1 → zand (mem 2 j) 255 = tb j ∧ mem 262 j = tb j ∧ 0 ≤ tb j ∧ tb j ≤ 255
def IM (mem : zF) : Prop := mem 234 1 = mem 261 78 ∧ (0 ≤ mem 234 1 ∧ mem 234 1 ≤ 71) ∧ (∀ j : Nat, (j : Int) < mem 234 1 → mem 235 j = mem 314 j ∧ inI (mem 235 j)) ∧ ∀ j : Nat, j < 24 → inI (mem 244 j)
def ST (mem : zF) (N : Int) : Prop := ∀ j : Nat, j < 6 → mem 245 j = mem 292 j ∧ 0 ≤ mem 245 j ∧ mem 245 j ≤ N
def SD (mem : zF) : Prop := mem 0 9 = mem 261 66 ∧ 0 ≤ mem 0 9 ∧ mem 0 9 < 2147483648
def FL (mem : zF) : Prop := mem 3 3 = mem 261 10 ∧ mem 3 4 = mem 261 11 ∧ inI (mem 3 3) ∧ inI (mem 3 4)
def zn5 : List Int → Int
  | [] => 0
  | l :: r => l + 32 * zn5 r
def zn8 : Int → List Int → Int
  | a, [] => a
  | a, l :: r => zn8 (256 * a + 96 + l) r
/-- the two ways to keep a name -/
def NR (a w : Int) : Prop := ∃ ls : List Int, 1 ≤ ls.length ∧ ls.length ≤ 6 ∧ (∀ l ∈ ls, 1 ≤ l ∧ l ≤ 26) ∧ a = zn5 ls ∧ w = zn8 0 ls
def NM (mem pl : zF) : Prop := ∀ (s : Nat) (k : Int), s < 3 → 0 ≤ k → k < pl 1 s → NR (pl 2 (6 * (s : Int) + k).toNat) (mem (283 + s) (6 * mem 261 13 + k).toNat)
def zow : List Int := [441842, 802, 537644, 605668, 641, 20692354, 8488114, 464399, 599208, 405556, 180423330, 438566, 190771, 20391188, 659147426, 5800, 289445442, 149392563, 21177924, 20059300, 201, 591, 4545, 20974, 12673, 14637, 24621]
def PR (rf mem : zF) (p : Nat) : Prop := rf 3 1 = ((254 - p : Nat) : Int) ∧ ∀ j : Nat, j < 27 → mem 5 j = zow.getD j 0
def HT (mem pl : zF) (hs : Int → zF) (c f u : Int) : Prop := (mem 52 2 = c ∧ mem 52 1 = f ∧ mem 261 65 = c ∧ mem 261 64 = u) ∧ (0 ≤ c ∧ c ≤ 20) ∧ (0 ≤ f ∧ f < 20) ∧ (0 ≤ u ∧ u < 20) ∧ HW pl c hs ∧ HSc mem c f hs ∧ HSr mem c u pl hs
def FE (mem pl ft : zF) : Prop := FEp pl ft ∧ FEc mem pl ft ∧ FEr mem ft
/-- what doesn't hang on the scene -/
def GO (rf mem : zF) (p : Nat) (pl ft : zF) (tb : Nat → Int) (N : Int) : Prop := FE mem pl ft ∧ TP mem tb ∧ IM mem ∧ ST mem N ∧ FL mem ∧ NM mem pl ∧ PR rf mem p
def G (rf mem : zF) (p : Nat) (pl sc ft : zF) (hs : Int → zF) (c f u : Int) (tb : Nat → Int) (N : Int) : Prop := CX rf mem p pl sc ∧ PX pl sc ∧ RX rf mem pl sc ∧ HT mem pl hs c f u ∧ SD mem ∧ GO rf mem p pl ft tb N
def GI (rf mem : zF) (N : Int) : Prop := ∃ (p : Nat) (pl sc ft : zF) (hs : Int → zF) (c f u : Int) (tb : Nat → Int), G rf mem p pl sc ft hs c f u tb N
/-- nothing but scratch and scenes has changed -/
def AF (p : Nat) (mem mem' : zF) : Prop := (∀ i, (i < 23 ∨ 51 < i) → (i < 52 ∨ 233 < i) → i < 261 → i ≠ 0 → i ≠ p + 9 → i ≠ p + 13 → i ≠ p + 14 → mem' i = mem i) ∧ (mem' 48 = mem 48 ∧ mem' 35 7 = mem 35 7) ∧ (∀ j, j ≠ 9 → mem' 0 j = mem 0 j) ∧ (∀ j, j ≠ 64 → j ≠ 65 → j ≠ 66 → mem' 261 j = mem 261 j) ∧ ∀ a, 261 < a → (a < 293 ∨ (307 < a ∧ a < 311) ∨ 313 < a) → mem' a = mem a
theorem AF.rfl {p : Nat} {mem : zF} : AF p mem mem := ⟨fun _ _ _ _ _ _ _ _ => Eq.refl _, ⟨Eq.refl _, Eq.refl _⟩, fun _ _ => Eq.refl _, fun _ _ _ _ => Eq.refl _, fun _ _ _ => Eq.refl _⟩
theorem AF.trans {p : Nat} {m1 m2 m3 : zF} (h1 : AF p m1 m2) (h2 : AF p m2 m3) : AF p m1 m3 :=
  ⟨fun i a b c d e f g => (h2.1 i a b c d e f g).trans (h1.1 i a b c d e f g), ⟨h2.2.1.1.trans h1.2.1.1, h2.2.1.2.trans h1.2.1.2⟩, fun j a => (h2.2.2.1 j a).trans (h1.2.2.1 j a), fun j a b c => (h2.2.2.2.1 j a b c).trans (h1.2.2.2.1 j a b c), fun a b c => (h2.2.2.2.2 a b c).trans (h1.2.2.2.2 a b c)⟩
theorem GO.af {rf mem mem' : zF} {p : Nat} {pl ft : zF} {tb : Nat → Int} {N : Int} (h : GO rf mem p pl ft tb N) (hp : p = 8 ∨ p = 246) (ha : AF p mem mem') : GO rf mem' p pl ft tb N := by
  obtain ⟨h1, h2, h3, h4, h5, h6, h7⟩ := h
  have r : ∀ i, (i < 8 ∨ 233 < i ∧ i < 246) → i ≠ 0 → mem' i = mem i := fun i a b => ha.1 i (by omega) (by omega) (by omega) b (by omega) (by omega) (by omega)
  have s : ∀ j, j ≠ 64 → j ≠ 65 → j ≠ 66 → mem' 261 j = mem 261 j := ha.2.2.2.1
  have q : ∀ a, 261 < a → (a < 293 ∨ (307 < a ∧ a < 311) ∨ 313 < a) → mem' a = mem a := ha.2.2.2.2
  refine ⟨⟨h1.1, ?_, ?_⟩, ?_, ?_, ?_, ?_, ?_, ?_⟩
  · unfold FEc
    rw [ha.2.1.1, ha.2.1.2]
    exact h1.2.1
  · unfold FEr
    rw [s 70 (by decide) (by decide) (by decide), q 308 (by decide) (by decide), q 309 (by decide) (by decide), q 310 (by decide) (by decide)]
    exact h1.2.2
  · unfold TP
    rw [r 1 (by decide) (by decide), r 2 (by decide) (by decide), s 1 (by decide) (by decide) (by decide), q 262 (by decide) (by decide)]
    exact h2
  · unfold IM
    rw [r 234 (by decide) (by decide), r 235 (by decide) (by decide), r 244 (by decide) (by decide), s 78 (by decide) (by decide) (by decide), q 314 (by decide) (by decide)]
    exact h3
  · unfold ST
    rw [r 245 (by decide) (by decide), q 292 (by decide) (by decide)]
    exact h4
  · unfold FL
    rw [r 3 (by decide) (by decide), s 10 (by decide) (by decide) (by decide), s 11 (by decide) (by decide) (by decide)]
    exact h5
  · intro s1 k a b c
    rw [s 13 (by decide) (by decide) (by decide), q (283 + s1) (by omega) (by omega)]
    exact h6 s1 k a b c
  · exact ⟨h7.1, fun j hj => by rw [r 5 (by decide) (by decide)]; exact h7.2 j hj⟩
/-- what a question of both leaves -/
def RL (p : Nat) (mem mem' : zF) : Prop := (∀ i, i < 261 → (i < 32 ∨ 51 < i ∨ i = 48) → i ≠ p + 9 → i ≠ p + 13 → i ≠ p + 14 → mem' i = mem i) ∧ mem' 35 7 = mem 35 7 ∧ ∀ a j, 261 ≤ a → ¬ zofv 1 a j → (a < 305 ∨ 307 < a) → (a < 311 ∨ 313 < a) → mem' a j = mem a j
theorem G.rl {rf mem mem' : zF} {p : Nat} {pl sc ft : zF} {hs : Int → zF} {c f u : Int} {tb : Nat → Int} {N : Int} (h : G rf mem p pl sc ft hs c f u tb N) (hq : RL p mem mem') : G rf mem' p pl sc ft hs c f u tb N := by
  obtain ⟨hX, hP, hR, hH, hS, hO⟩ := h
  have hp := hX.e
  have hN := hP.1.n
  have row : ∀ a, 261 ≤ a → (a < 293 ∨ (307 < a ∧ a < 311) ∨ 313 < a) → mem' a = mem a := by
    intro a a1 a2
    funext j
    exact hq.2.2 a j a1 (by unfold zofv; omega) (by omega) (by omega)
  have rv : ∀ (v : Int) (s1 : zF), 0 ≤ v → v ≠ 1 → s1 0 11 ≤ 6 → RV mem v pl s1 → RV mem' v pl s1 := by
    intro v s1 v0 v1 hk hr
    refine ⟨?_, fun k k1 k2 => ?_, fun s k k1 k2 k3 k4 => ?_, fun j j1 j2 => ?_⟩
    · rw [hq.2.2 293 _ (by decide) (by unfold zofv; omega) (by decide) (by decide), hq.2.2 294 _ (by decide) (by unfold zofv; omega) (by decide) (by decide), hq.2.2 295 _ (by decide) (by unfold zofv; omega) (by decide) (by decide), hq.2.2 303 _ (by decide) (by unfold zofv; omega) (by decide) (by decide)]
      exact hr.1
    · rw [hq.2.2 296 _ (by decide) (by unfold zofv; omega) (by decide) (by decide)]
      exact hr.2.1 k k1 k2
    · rw [hq.2.2 (295 + s) _ (by omega) (by unfold zofv; omega) (by omega) (by omega)]
      exact hr.2.2.1 s k k1 k2 k3 k4
    · rw [hq.2.2 304 _ (by decide) (by unfold zofv; omega) (by decide) (by decide)]
      exact hr.2.2.2 j j1 j2
  have hA : AF p mem mem' := ⟨fun i a b c d e f g => hq.1 i c (by omega) e f g, ⟨hq.1 48 (by decide) (by decide) (by omega) (by omega) (by omega), hq.2.1⟩, fun j _ => by rw [hq.1 0 (by decide) (by decide) (by omega) (by omega) (by omega)], fun j _ _ _ => by rw [row 261 (by decide) (by decide)], fun a a1 a2 => row a (by omega) a2⟩
  refine ⟨⟨hX.1, hX.pc.fr (fun s h1 h2 => hq.1 _ (by omega) (by omega) (by omega) (by omega) (by omega)), hX.s.fr (fun i i1 i2 => hq.1 i (by omega) (by omega) (by omega) (by omega) (by omega))⟩, hP, ⟨hR.1, hR.2.1.fr (by rw [row 261 (by decide) (by decide)]) (by rw [row 261 (by decide) (by decide)]) (fun a a1 a2 => row a (by omega) (by omega)), rv 0 sc (by decide) (by decide) hP.2.2.1.k6.2 hR.2.2⟩, ?_, ?_, hO.af hp hA⟩
  · obtain ⟨h1, h2, h3, h4, h5, h6, h7⟩ := hH
    refine ⟨?_, h2, h3, h4, h5, fun k k1 k2 => (h6 k k1 k2).fr (fun i i1 i2 => hq.1 i (by omega) (by omega) (by omega) (by omega) (by omega)), fun k k1 k2 => rv _ _ (by omega) (by omega) (h5 k k1 k2).1.k6.2 (h7 k k1 k2)⟩
    rw [hq.1 52 (by decide) (by decide) (by omega) (by omega) (by omega), row 261 (by decide) (by decide)]
    exact h1
  · unfold SD
    rw [hq.1 0 (by decide) (by decide) (by omega) (by omega) (by omega), row 261 (by decide) (by decide)]
    exact hS
theorem QC.rl {p : Nat} {m1 m2 : zF} (h : QC p m1 m2) (hp : p = 8 ∨ p = 246) : RL p m1 m2 := ⟨fun i _ a b c d => h.1 i a b c d, h.2, fun a j a1 _ _ _ => by rw [h.1 a (by omega) (by omega) (by omega) (by omega)]⟩
theorem QR.rl {p : Nat} {m1 m2 : zF} (h : QR m1 m2) : RL p m1 m2 := ⟨fun i a _ _ _ _ => h.row (by omega), by rw [h.row (by decide)], fun a j _ b c d => h a j b c d⟩
/-- the law's question to both -/
def zPR (X : zX) (rf : zF) (d : Nat) (mem : zF) (M1 : Nat) (as1 : List zV) (M2 : Nat) (as2 : List zV) (Z : zF → Prop) : Prop := Ci X d M1 as1 rf mem (fun r1 m1 => Ci X d M2 as2 rf m1 (fun r2 m2 => (inI r1 ∧ inI r2) ∧ r1 = r2 ∧ Z m2))
theorem G.n {rf mem : zF} {p : Nat} {pl sc ft : zF} {hs : Int → zF} {c f u : Int} {tb : Nat → Int} {N N2 : Int} (h : G rf mem p pl sc ft hs c f u tb N) (hn : N ≤ N2) : G rf mem p pl sc ft hs c f u tb N2 := by
  obtain ⟨hX, hP, hR, hH, hS, h1, h2, h3, h4, h5⟩ := h
  exact ⟨hX, hP, hR, hH, hS, h1, h2, h3, fun j hj => ⟨(h4 j hj).1, (h4 j hj).2.1, by have := (h4 j hj).2.2; omega⟩, h5⟩
theorem zpart_rng {c w : Int} (hc : -1 ≤ c ∧ c < 64) : -1 ≤ zpart c w ∧ zpart c w < 64 := by
  unfold zpart
  split
  · omega
  · split
    · omega
    · split <;> omega
section QPAIR
variable {X : zX} {rf mem : zF} {p : Nat} {pl sc ft : zF} {hs : Int → zF} {c f u : Int} {tb : Nat → Int} {N : Int} {d : Nat}
/-- a question that both answer alike -/
theorem pair_q {M1 M2 : Nat} {as1 as2 : List zV} {v : Int} (h : G rf mem p pl sc ft hs c f u tb N) (hv : inI v) (h1 : ∀ {Q : Int → zF → Prop}, (∀ mem', QC p mem mem' → Q v mem') → Ci X d M1 as1 rf mem Q) (h2 : ∀ {Q : Int → zF → Prop} {m1 : zF}, G rf m1 p pl sc ft hs c f u tb N → (∀ mem', QR m1 mem' → Q v mem') → Ci X d M2 as2 rf m1 Q) : zPR X rf d mem M1 as1 M2 as2 (fun m2 => GI rf m2 (N + 1)) := by
  unfold zPR
  refine h1 (fun m1 f1 => ?_)
  have g1 := h.rl (f1.rl h.1.e)
  refine h2 g1 (fun m2 f2 => ?_)
  exact ⟨⟨hv, hv⟩, rfl, p, pl, sc, ft, hs, c, f, u, tb, (g1.rl f2.rl).n (by omega)⟩
theorem p_later (h : G rf mem p pl sc ft hs c f u tb N) (hd : 20 ≤ d) {x y z : Int} (hx : inI x) (hy : inI y) (hz : inI z) : zPR X rf d mem 161 [(2, 0), (0, x), (0, y), (0, z)] 285 [(2, 261), (0, x), (0, y), (0, z)] (fun m2 => GI rf m2 (N + 1)) := by
  refine pair_q (v := aLater pl sc x y z) h ?_ (fun kk => u_later h.1 h.2.1 (by omega) hx hy hz kk) (fun h1 kk => t_later h1.2.2.1 h1.2.1 (by omega) hx hy hz kk)
  unfold aLater
  have hN := h.2.1.1.n
  split
  · next q =>
    have hW := WS.run h.2.1.1 y.toNat (sc := sc) h.2.1.2.2.1 (by omega)
    have h1 := hW.film (k := x) (by omega)
    have h2 := zpart_rng (w := z) (hW.bubI (k := x) (by omega))
    split <;> omega
  · decide
theorem p_owner (h : G rf mem p pl sc ft hs c f u tb N) (hd : 20 ≤ d) {x y : Int} (hx : inI x) (hy : inI y) : zPR X rf d mem 163 [(2, 0), (0, x), (0, y)] 287 [(2, 261), (0, x), (0, y)] (fun m2 => GI rf m2 (N + 1)) := by
  refine pair_q (v := aOwner pl sc x y) h ?_ (fun kk => u_owner h.1 h.2.1 (by omega) hx hy kk) (fun h1 kk => t_owner h1.2.2.1 h1.2.1 (by omega) hx hy kk)
  unfold aOwner
  have hN := h.2.1.1.n
  split
  · next q =>
    have hW := WS.run h.2.1.1 y.toNat (sc := sc) h.2.1.2.2.1 (by omega)
    have h1 := (hW.owner (k := x) (by omega)).1
    omega
  · decide
theorem aGo_rng {b : Int} : ∀ (n : Nat) {k : Int} {s : zF}, 0 ≤ k → -1 ≤ aGo pl b n k s ∧ aGo pl b n k s ≤ k + n
  | 0, k, s, h => by unfold aGo; omega
  | n + 1, k, s, h => by
    have := aGo_rng (b := b) n (k := k + 1) (s := zn1 pl s) (by omega)
    unfold aGo
    split <;> omega
theorem p_goes (h : G rf mem p pl sc ft hs c f u tb N) (hd : 20 ≤ d) {x : Int} (hx : inI x) : zPR X rf d mem 162 [(2, 0), (0, x)] 286 [(2, 261), (0, x)] (fun m2 => GI rf m2 (N + 1)) := by
  refine pair_q (v := aGoes pl sc x) h ?_ (fun kk => u_goes h.1 h.2.1 (by omega) hx kk) (fun h1 kk => t_goes h1.2.2.1 h1.2.1 (by omega) hx kk)
  unfold aGoes
  have := aGo_rng (pl := pl) (b := x) (min 40 (999 - sc 0 0)).toNat (k := 0) (s := sc) (by omega)
  have h9 := h.2.1.2.2.1.sec
  split
  · omega
  · decide
theorem p_doors (h : G rf mem p pl sc ft hs c f u tb N) (hd : 20 ≤ d) {x y z : Int} (hx : inI x) (hy : inI y) (hz : inI z) : zPR X rf d mem 164 [(2, 0), (0, x), (0, y), (0, z)] 288 [(2, 261), (0, x), (0, y), (0, z)] (fun m2 => GI rf m2 (N + 1)) := by
  refine pair_q (v := aDoors pl sc x y z) h ?_ (fun kk => u_doors h.1 h.2.1 (by omega) hx hy hz kk) (fun h1 kk => t_doors h1.2.2.1 h1.2.1 (by omega) hx hy hz kk)
  unfold aDoors
  have hsh := zshl_rng h.2.1.1.n.1
  split
  · have := aIt_inv (f := aDoor1 pl sc x y z.toNat) (I := fun m t => -1 ≤ t ∧ t ≤ 64) (lo := 0) (m := zshl 1 (pl 1 0)) ?_ (zshl 1 (pl 1 0)).toNat 0 (-1) (by omega) (by omega) (by decide)
    · omega
    · intro k t k1 k2 ht
      unfold aDoor1
      split
      · exact ht
      · split <;> omega
  · decide
theorem p_stand (h : G rf mem p pl sc ft hs c f u tb N) (hd : 20 ≤ d) {x y z : Int} (hx : inI x) (hy : inI y) (hz : inI z) : zPR X rf d mem 165 [(2, 0), (0, x), (0, y), (0, z)] 289 [(2, 261), (0, x), (0, y), (0, z)] (fun m2 => GI rf m2 (N + 1)) := by
  refine pair_q (v := aStand pl sc x y z) h ?_ (fun kk => u_stand h.1 h.2.1 (by omega) hx hy hz kk) (fun h1 kk => t_stand h1.2.2.1 h1.2.1 (by omega) hx hy hz kk)
  unfold aStand
  have := aIt_inv (f := aStand1 pl sc x y.toNat) (I := fun _ s => BB s) (lo := 0) (m := 64) ?_ 64 0 (-1, -1) (by omega) (by omega) ⟨by decide, by decide⟩
  · have h2 := zpart_rng (w := z) this.1
    have h3 := this.2
    split
    · split <;> omega
    · decide
  · intro k s k1 k2 hs
    unfold aStand1
    split
    · have := aOwned_rng (aRun pl y.toNat (zup sc 1 x.toNat k)) x
      exact hs.best ⟨k1, k2⟩ (by omega)
    · exact hs
theorem p_shine (h : G rf mem p pl sc ft hs c f u tb N) (hd : 20 ≤ d) {x y : Int} (hx : inI x) (hy : inI y) : zPR X rf d mem 166 [(2, 0), (0, x), (0, y)] 290 [(2, 261), (0, x), (0, y)] (fun m2 => GI rf m2 (N + 1)) := by
  refine pair_q (v := aShine pl sc x y) h ?_ (fun kk => u_shine h.1 h.2.1 (by omega) hx hy kk) (fun h1 kk => t_shine h1.2.2.1 h1.2.1 (by omega) hx hy kk)
  unfold aShine
  have hcr := h.2.1.1.cr
  split
  · next q =>
    have := aIt_inv (f := aShine1 pl sc x.toNat) (I := fun _ s => BB s) (lo := 0) (m := 64) ?_ 64 0 (-1, -1) (by omega) (by omega) ⟨by decide, by decide⟩
    · have h2 := zpart_rng (w := y) this.1
      have h3 := this.2
      split <;> omega
    · intro k s k1 k2 hs
      unfold aShine1
      split
      · next q2 =>
        have hic := (zic_iff (C := pl 0 1) (R := pl 0 2) (c := k) (by omega) (by omega) k1).mp q2
        have := aRents_rng (WS.run h.2.1.1 x.toNat (h.2.1.2.2.1.s01 (Or.inr hic)) (by rw [zup_ne _ _ _ _ (by decide)]; omega))
        exact hs.best ⟨k1, k2⟩ (by omega)
      · exact hs
  · decide
theorem aLast_rng {b : Int} {n : Nat} : ∀ (m : Nat) {k : Int}, 0 ≤ k → -1 ≤ aLast pl sc b n m k ∧ aLast pl sc b n m k ≤ k + m
  | 0, k, h => by unfold aLast; omega
  | m + 1, k, h => by
    have := aLast_rng (b := b) (n := n) m (k := k + 1) (by omega)
    unfold aLast
    split <;> omega
theorem p_lasts (h : G rf mem p pl sc ft hs c f u tb N) (hd : 20 ≤ d) {x y : Int} (hx : inI x) (hy : inI y) : zPR X rf d mem 167 [(2, 0), (0, x), (0, y)] 291 [(2, 261), (0, x), (0, y)] (fun m2 => GI rf m2 (N + 1)) := by
  refine pair_q (v := aLasts pl sc x y) h ?_ (fun kk => u_lasts h.1 h.2.1 (by omega) hx hy kk) (fun h1 kk => t_lasts h1.2.2.1 h1.2.1 (by omega) hx hy kk)
  unfold aLasts
  have := aLast_rng (pl := pl) (sc := sc) (b := x) (n := y.toNat) 99 (k := 1) (by omega)
  split
  · omega
  · decide
theorem p_odds (h : G rf mem p pl sc ft hs c f u tb N) (hd : 20 ≤ d) {x y : Int} (hx : inI x) (hy : inI y) : zPR X rf d mem 168 [(2, 0), (0, x), (0, y)] 292 [(2, 261), (0, x), (0, y)] (fun m2 => GI rf m2 (N + 1)) := by
  refine pair_q (v := aOdds pl sc x y) h ?_ (fun kk => u_odds h.1 h.2.1 (by omega) hx hy kk) (fun h1 kk => t_odds h1.2.2.1 h1.2.1 (by omega) hx hy kk)
  unfold aOdds
  have hb := h.2.1.1.breath
  split
  · have := aIt_inv (f := aOdd1 pl sc x y) (I := fun m t => 0 ≤ t ∧ t ≤ 400 * (m + 1)) (lo := -1) (m := 4) ?_ 5 (-1) 0 (by omega) (by omega) (by decide)
    · omega
    · intro k t k1 k2 ht
      unfold aOdd1
      split
      · split <;> omega
      · omega
  · decide
theorem p_draught (h : G rf mem p pl sc ft hs c f u tb N) (hd : 20 ≤ d) {x y : Int} (hx : inI x) (hy : inI y) : zPR X rf d mem 160 [(2, 0), (0, x), (0, y)] 282 [(2, 261), (0, x), (0, y)] (fun m2 => GI rf m2 (N + 1)) := by
  refine pair_q (v := aDraught pl sc x y) h ?_ (fun kk => u_draught h.1 h.2.1 (by omega) hx hy kk) (fun h1 kk => t_draught h1.2.2.1 h1.2.1 (by omega) hx hy (kk _ QR.rfl))
  unfold aDraught
  have := zwind_rng h.2.1.1 (sc 0 2) (zcellAt (pl 0 1) (pl 0 2) x y)
  split
  · decide
  · omega
theorem aList_rng {P : Int → Bool} : ∀ (n : Nat) {c : Int}, 0 ≤ c → ∀ v ∈ aList P c n, 0 ≤ v ∧ v < c + n
  | 0, c, h, v, hv => by unfold aList at hv; cases hv
  | n + 1, c, h, v, hv => by
    have ih := aList_rng (P := P) n (c := c + 1) (by omega)
    unfold aList at hv
    split at hv
    · rcases List.mem_cons.mp hv with e | e
      · omega
      · have := ih v e; omega
    · have := ih v hv; omega
theorem p_from (h : G rf mem p pl sc ft hs c f u tb N) (hd : 20 ≤ d) {x y : Int} (hx : inI x) (hy : inI y) : zPR X rf d mem 170 [(2, 0), (0, x), (0, y)] 296 [(2, 261), (0, x), (0, y)] (fun m2 => GI rf m2 (N + 1)) := by
  refine pair_q (v := aFrom pl sc ft x y) h ?_ (fun kk => u_from h.1 h.2.1 h.2.2.2.2.2.1.1 h.2.2.2.2.2.1.2.1 (by omega) hx hy kk) (fun h1 kk => t_from h1.2.2.1 h1.2.1 h1.2.2.2.2.2.1.1 h1.2.2.2.2.2.1.2.2 (by omega) hx hy kk)
  unfold aFrom
  have h1 := aC_rng (P := aLeft pl sc ft x) 64 0
  split
  · split
    · omega
    · split
      · decide
      · rw [List.getD_eq_getElem?_getD]
        cases e : (aList (aLeft pl sc ft x) 0 64)[y.toNat]? with
        | none => decide
        | some v =>
          have := aList_rng 64 (by omega) v (List.mem_of_getElem? e)
          show inI v
          omega
  · decide
theorem p_tells (h : G rf mem p pl sc ft hs c f u tb N) (hd : 20 ≤ d) {x y : Int} (hx : inI x) (hy : inI y) : zPR X rf d mem 171 [(2, 0), (0, x), (0, y)] 298 [(2, 261), (0, x), (0, y)] (fun m2 => GI rf m2 (N + 1)) := by
  refine pair_q (v := aTells pl sc ft x y) h ?_ (fun kk => u_tells h.1 h.2.1 h.2.2.2.2.2.1.1 h.2.2.2.2.2.1.2.1 (by omega) hx hy kk) (fun h1 kk => t_tells h1.2.2.1 h1.2.1 h1.2.2.2.2.2.1.1 h1.2.2.2.2.2.1.2.2 (by omega) hx hy kk)
  unfold aTells
  have h1 := aC_rng (P := aLeft pl sc ft x) 64 0
  have h9 := h.2.1.2.2.1.sec
  have h99 := h.2.1.2.2.2
  have hso : aSoon sc = min 30 (999 - sc 0 0) := rfl
  have := aIt_inv (f := aTell1 pl sc ft x) (I := fun m s => (-1 ≤ s.1 ∧ s.1 ≤ m) ∧ 0 ≤ s.2 ∧ s.2 ≤ 65) (lo := 1) (m := aSoon sc + 1) ?_ (aSoon sc).toNat 1 (-1, aC (aLeft pl sc ft x) 0 64 + 1) (by omega) (by omega) ⟨by show -1 ≤ (-1 : Int) ∧ (-1 : Int) ≤ 1; decide, by show 0 ≤ aC (aLeft pl sc ft x) 0 64 + 1; omega, by show aC (aLeft pl sc ft x) 0 64 + 1 ≤ 65; omega⟩
  · unfold aTellS
    split
    · split <;> omega
    · decide
  · intro k s k1 k2 hs
    have hm := aMx_le (pl := pl) (sc := sc) (ft := ft) (b := x) (n := k)
    have hm0 := (aMx_ok (aCnt pl sc ft x k)).2.1
    unfold aTell1
    split
    · exact ⟨by show -1 ≤ k ∧ k ≤ k + 1; omega, hm0, by show aMx (aCnt pl sc ft x k) ≤ 65; omega⟩
    · exact ⟨by omega, hs.2⟩
end QPAIR
