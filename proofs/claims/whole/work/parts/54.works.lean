/-! A SECOND, as both do it -/
def aTall (pl sc : zF) (b : Int) : Int := if aHeirIn sc (sc 2 b.toNat) = -1 then 0 else pl 6 (aHeirIn sc (sc 2 b.toNat)).toNat
def aQ (pl sc : zF) (b : Int) (j : Nat) : Int := if j = 0 then sc 3 b.toNat else if j = 1 then sc 4 b.toNat else if j = 2 then sc 0 0 else if j = 3 then sc 9 b.toNat else if j = 4 then aTall pl sc b else zpop (sc 5 b.toNat)
def aLess (pl sc : zF) (b : Int) : Int := if pl 11 0 = -1 then 1 else zres pl 0 (aQ pl sc b)
def aFilm (pl sc : zF) (b : Int) : Int := max 0 (min 99 (sc 3 b.toNat - aLess pl sc b))
def aHue (pl sc : zF) (b : Int) : Int := max 0 (min 9 (if pl 11 2 = -1 then sc 3 b.toNat / 10 else zres pl 2 (aQ pl sc b)))
def aBursts (pl sc : zF) (b : Int) : Prop := sc 3 b.toNat = 0 ∨ (pl 11 1 ≠ -1 ∧ zres pl 1 (aQ pl sc b) = 1)
def aThin2 (pl : zF) (b : Int) (sc : zF) : Int × zF :=
  if sc 3 b.toNat = 0 ∨ (pl 11 1 ≠ -1 ∧ zres pl 1 (aQ pl sc b) = 1) then (1, aBurst b (aHeirIn sc (sc 2 b.toNat)) sc)
  else if sc 2 b.toNat = sc 0 1 then (0, aRent b (aHue pl sc b) sc) else (0, sc)
def aThin (pl : zF) (b : Int) (sc : zF) : Int × zF := if sc 2 b.toNat = -1 then (0, sc) else aThin2 pl b (zup sc 3 b.toNat (aFilm pl sc b))
def aThinS (pl : zF) (b : Int) (s : Int × zF) : Int × zF := (s.1 + (aThin pl b s.2).1, (aThin pl b s.2).2)
def aThins (pl : zF) (sc : zF) : Int × zF := aIt (aThinS pl) 0 6 (0, sc)
def aTick (sc : zF) : zF := zup sc 0 0 (sc 0 0 + 1)
/-- how many burst, and the scene a second later -/
def aPass (pl : zF) (w : Int → Int) (br : Int) (sc : zF) : Int × zF := ((aThins pl (aJoins (aDrifts pl w br sc))).1, aTick (aThins pl (aJoins (aDrifts pl w br sc))).2)
def WD (sc : zF) : Prop := ∀ k : Int, 0 ≤ k → k < 6 → 0 ≤ sc 9 k.toNat ∧ sc 9 k.toNat ≤ 1
def WR3 (pl : zF) : Prop := ROK pl 0 ∧ ROK pl 1 ∧ ROK pl 2
theorem aTall_rng {pl sc : zF} (hP : WP pl) (hW : WS pl sc) (b : Int) : 0 ≤ aTall pl sc b ∧ aTall pl sc b ≤ 9 := by
  unfold aTall
  split
  · omega
  · next q =>
    rcases aHeirIn_rng pl sc hW (sc 2 b.toNat) with h | h
    · exact (hP.heir (k := aHeirIn sc (sc 2 b.toNat)) (by omega) h.2.1).2
    · exact absurd h q
theorem aQ_rng {pl sc : zF} (hP : WP pl) (hW : WS pl sc) {b : Int} (hb : 0 ≤ b ∧ b < 6) (hD : 0 ≤ sc 9 b.toNat ∧ sc 9 b.toNat ≤ 1) (j : Nat) : -1000000 ≤ aQ pl sc b j ∧ aQ pl sc b j ≤ 1000000 := by
  have h1 := hW.film hb
  have h2 := hW.size hb
  have h3 := hW.sec
  have h4 := aTall_rng hP hW b
  have h5 := zpop_rng (hW.deeds hb)
  unfold aQ
  split
  · omega
  · split
    · omega
    · split
      · omega
      · split
        · omega
        · split
          · omega
          · omega
theorem aHeirIn_same {sc sc' : zF} (e : sc' 1 = sc 1) (c : Int) : aHeirIn sc' c = aHeirIn sc c := by
  unfold aHeirIn
  rw [e]
theorem aFilm_rng (pl sc : zF) (b : Int) : 0 ≤ aFilm pl sc b ∧ aFilm pl sc b ≤ 99 := by
  unfold aFilm
  omega
theorem aHue_rng (pl sc : zF) (b : Int) : 0 ≤ aHue pl sc b ∧ aHue pl sc b ≤ 9 := by
  unfold aHue
  omega
theorem WS.thin2 {pl sc : zF} (h : WS pl sc) (hP : WP pl) {b : Int} (hb : 0 ≤ b ∧ b < 6) (hf : sc 2 b.toNat ≠ -1) : WS pl (aThin2 pl b sc).2 := by
  unfold aThin2
  have hn := hP.n
  split
  · refine h.burst hb hf ?_ hP
    rcases aHeirIn_rng pl sc h (sc 2 b.toNat) with q | q <;> omega
  · split
    · exact aRent_inv h hb (aHue_rng pl sc b)
    · exact h
theorem WS.thin {pl sc : zF} (h : WS pl sc) (hP : WP pl) {b : Int} (hb : 0 ≤ b ∧ b < 6) : WS pl (aThin pl b sc).2 := by
  unfold aThin
  split
  · exact h
  · next q =>
    refine WS.thin2 (h.s3 hb q (aFilm_rng pl sc b)) hP hb ?_
    rw [zup_row _ _ _ (by decide)]
    exact q
theorem aBurst_row {b h : Int} {sc : zF} {s : Nat} (hs : s = 1 ∨ s = 7 ∨ 8 < s) : aBurst b h sc s = sc s := by
  unfold aBurst aKeep
  rw [zup_row _ _ _ (by omega), zup_row _ _ _ (by omega), zup_row _ _ _ (by omega), zup_row _ _ _ (by omega), zup_row _ _ _ (by omega), aClear_row _ (by omega), aOwn_row _ _ _ (by omega)]
theorem aRent_row {b more : Int} {sc : zF} {s : Nat} (hs : s ≠ 7) : aRent b more sc s = sc s := by
  refine aIt_inv (f := aRent1 b more) (I := fun _ t => t s = sc s) (lo := 0) (m := 6) ?_ 6 0 sc (by omega) (by omega) rfl
  intro k t _ _ ht
  unfold aRent1
  split
  · rw [zup_row _ _ _ hs]
    exact ht
  · exact ht
theorem aThin_row {pl : zF} {b : Int} {sc : zF} {s : Nat} (hs : s = 1 ∨ 8 < s) : (aThin pl b sc).2 s = sc s := by
  unfold aThin
  split
  · rfl
  · unfold aThin2
    split
    · dsimp only
      rw [aBurst_row (by omega), zup_row _ _ _ (by omega)]
    · split
      · dsimp only
        rw [aRent_row (by omega), zup_row _ _ _ (by omega)]
      · dsimp only
        rw [zup_row _ _ _ (by omega)]
theorem WS.joins {pl sc : zF} (h : WS pl sc) : WS pl (aJoins sc) := by
  refine aIt_inv (f := aJoin) (I := fun _ s => WS pl s) (lo := 0) (m := 6) ?_ 6 0 sc (by omega) (by omega) h
  intro b s b1 b2 hs
  unfold aJoin
  refine aIt_inv (f := aJoin1 b) (I := fun _ s => WS pl s) (lo := b + 1) (m := 6) ?_ _ _ s (by omega) (by omega) hs
  intro o s o1 o2 hs
  exact hs.join1 ⟨b1, b2⟩ ⟨by omega, o2⟩ (by omega)
theorem aTwo_row {b o : Int} {sc : zF} {s : Nat} (hs : s < 2 ∨ 5 < s) : aTwo b o sc s = sc s := by
  unfold aTwo
  rw [aClear_row _ hs, zup_row _ _ _ (by omega), zup_row _ _ _ (by omega), zup_row _ _ _ (by omega)]
theorem aJoins_row {sc : zF} {s : Nat} (hs : s < 2 ∨ 5 < s) : aJoins sc s = sc s := by
  refine aIt_inv (f := aJoin) (I := fun _ t => t s = sc s) (lo := 0) (m := 6) ?_ 6 0 sc (by omega) (by omega) rfl
  intro b t _ _ ht
  unfold aJoin
  rw [← ht]
  refine aIt_inv (f := aJoin1 b) (I := fun _ t2 => t2 s = t s) (lo := b + 1) (m := b + 1 + ((5 - b).toNat : Int)) ?_ _ _ t (by omega) (by omega) rfl
  intro o t2 _ _ h2
  unfold aJoin1
  split
  · rw [aTwo_row hs]
    exact h2
  · exact h2
theorem aDrift_row {pl : zF} {w : Int → Int} {br b : Int} {sc : zF} {s : Nat} (hs : s ≠ 2 ∧ s ≠ 9) : aDrift pl w br b sc s = sc s := by
  unfold aDrift
  generalize (if w (sc 2 b.toNat) = -1 then br else w (sc 2 b.toNat)) = x
  split
  · rw [zup_row _ _ _ (by omega)]
  · rw [zup_row _ _ _ (by omega), zup_row _ _ _ (by omega)]
theorem WS.drifts {pl sc : zF} (h : WS pl sc) (hP : WP pl) (w : Int → Int) (br : Int) : WS pl (aDrifts pl w br sc) := by
  refine aIt_inv (f := aDrift pl w br) (I := fun _ s => WS pl s) (lo := 0) (m := 6) ?_ 6 0 sc (by omega) (by omega) h
  intro b s b1 b2 hs
  exact hs.drift hP w br ⟨b1, b2⟩
theorem aDrifts_row {pl : zF} {w : Int → Int} {br : Int} {sc : zF} {s : Nat} (hs : s ≠ 2 ∧ s ≠ 9) : aDrifts pl w br sc s = sc s := by
  refine aIt_inv (f := aDrift pl w br) (I := fun _ t => t s = sc s) (lo := 0) (m := 6) ?_ 6 0 sc (by omega) (by omega) rfl
  intro b t _ _ ht
  rw [aDrift_row hs]
  exact ht
theorem WD.drifts {pl : zF} {w : Int → Int} {br : Int} {sc : zF} : WD (aDrifts pl w br sc) := by
  have := aIt_inv (f := aDrift pl w br) (I := fun m s => ∀ k : Int, 0 ≤ k → k < m → 0 ≤ s 9 k.toNat ∧ s 9 k.toNat ≤ 1) (lo := 0) (m := 6) ?_ 6 0 sc (by omega) (by omega) (fun k k1 k2 => by omega)
  · exact this
  · intro b s b1 b2 hs k k1 k2
    unfold aDrift
    generalize (if w (s 2 b.toNat) = -1 then br else w (s 2 b.toNat)) = x
    split
    · rw [zupk b1 k1]
      split
      · omega
      · exact hs k k1 (by omega)
    · rw [zup_row _ _ _ (by decide), zupk b1 k1]
      split
      · omega
      · exact hs k k1 (by omega)
theorem WD.row {sc sc' : zF} (h : WD sc) (e : sc' 9 = sc 9) : WD sc' := by
  unfold WD
  rw [e]
  exact h
theorem WS.thins {pl sc : zF} (h : WS pl sc) (hP : WP pl) : WS pl (aThins pl sc).2 := by
  refine aIt_inv (f := aThinS pl) (I := fun _ s => WS pl s.2) (lo := 0) (m := 6) ?_ 6 0 (0, sc) (by omega) (by omega) h
  intro b s b1 b2 hs
  exact hs.thin hP ⟨b1, b2⟩
theorem aBurst_r0 {b h : Int} {sc : zF} {j : Nat} (hj : j ≠ 11) : aBurst b h sc 0 j = sc 0 j := by
  unfold aBurst aKeep
  rw [zup_ne _ _ _ _ hj, zup_row _ _ _ (by omega), zup_row _ _ _ (by omega), zup_row _ _ _ (by omega), zup_row _ _ _ (by omega), aClear_row _ (by omega), aOwn_row _ _ _ (by omega)]
theorem aThin_r0 {pl : zF} {b : Int} {sc : zF} {j : Nat} (hj : j ≠ 11) : (aThin pl b sc).2 0 j = sc 0 j := by
  unfold aThin
  split
  · rfl
  · unfold aThin2
    split
    · dsimp only
      rw [aBurst_r0 hj, zup_row _ _ _ (by omega)]
    · split
      · dsimp only
        rw [aRent_row (by omega), zup_row _ _ _ (by omega)]
      · dsimp only
        rw [zup_row _ _ _ (by omega)]
theorem aThins_r0 {pl : zF} {sc : zF} {j : Nat} (hj : j ≠ 11) : (aThins pl sc).2 0 j = sc 0 j := by
  refine aIt_inv (f := aThinS pl) (I := fun _ t => t.2 0 j = sc 0 j) (lo := 0) (m := 6) ?_ 6 0 (0, sc) (by omega) (by omega) rfl
  intro b t _ _ ht
  exact (aThin_r0 hj).trans ht
theorem aThins_rng {pl : zF} {sc : zF} : 0 ≤ (aThins pl sc).1 ∧ (aThins pl sc).1 ≤ 6 := by
  have := aIt_inv (f := aThinS pl) (I := fun m t => 0 ≤ t.1 ∧ t.1 ≤ m) (lo := 0) (m := 6) ?_ 6 0 (0, sc) (by omega) (by omega) ⟨Int.le_refl 0, Int.le_refl 0⟩
  · exact this
  · intro b t b1 b2 ht
    have : 0 ≤ (aThin pl b t.2).1 ∧ (aThin pl b t.2).1 ≤ 1 := by
      unfold aThin
      split
      · dsimp only; omega
      · unfold aThin2
        split
        · dsimp only; omega
        · split
          · dsimp only; omega
          · dsimp only; omega
    unfold aThinS
    simp only
    omega
theorem aPass_r0 {pl : zF} {w : Int → Int} {br : Int} {sc : zF} {j : Nat} (hj : j ≠ 11) (h0 : j ≠ 0) : (aPass pl w br sc).2 0 j = sc 0 j := by
  show aTick _ 0 j = _
  unfold aTick
  rw [zup_ne _ _ _ _ h0, aThins_r0 hj, aJoins_row (by omega), aDrifts_row (by omega)]
theorem aPass_sec {pl : zF} {w : Int → Int} {br : Int} {sc : zF} : (aPass pl w br sc).2 0 0 = sc 0 0 + 1 := by
  show aTick _ 0 0 = _
  unfold aTick
  rw [zup_at, aThins_r0 (by decide), aJoins_row (by omega), aDrifts_row (by omega)]
theorem WS.pass {pl sc : zF} (h : WS pl sc) (hP : WP pl) (w : Int → Int) (br : Int) (hs : sc 0 0 ≤ 999) : WS pl (aPass pl w br sc).2 := by
  have h1 := (((h.drifts hP w br).joins).thins hP)
  have e : (aThins pl (aJoins (aDrifts pl w br sc))).2 0 0 = sc 0 0 := by rw [aThins_r0 (by decide), aJoins_row (by omega), aDrifts_row (by omega)]
  have h2 := h.sec
  refine WS.s0 h1 (sc' := (aPass pl w br sc).2) (fun s hs => zup_row _ _ _ (by omega)) (by rw [aPass_sec]; omega) ?_ ?_ ?_
  · rw [aPass_r0 (by decide) (by decide)]
    exact h.lamp
  · rw [aPass_r0 (by decide) (by decide)]
    exact h.opn
  · exact zup_ne (j := 0) (k := 11) (aThins pl (aJoins (aDrifts pl w br sc))).2 0 0 ((aThins pl (aJoins (aDrifts pl w br sc))).2 0 0 + 1) (by decide)
/-! the program's Works -/
def DJ (p w o : Nat) : Prop := (p + 14 < o ∨ o + 8 < p) ∧ (p + 14 < w ∨ w + 2 < p) ∧ (w + 2 < o ∨ o + 8 < w)
/-- what thinning may change: the scene, the rules' scratch -/
def FT (p o : Nat) (mem mem' : zF) : Prop := ∀ i, (i < o ∨ o + 8 < i) → i ≠ p + 9 → i ≠ p + 13 → i ≠ p + 14 → mem' i = mem i
theorem FT.rfl {p o : Nat} {mem : zF} : FT p o mem mem := fun _ _ _ _ _ => Eq.refl _
theorem FT.trans {p o : Nat} {m1 m2 m3 : zF} (h1 : FT p o m1 m2) (h2 : FT p o m2 m3) : FT p o m1 m3 := fun i a c d e => (h2 i a c d e).trans (h1 i a c d e)
theorem FS.ft {p o : Nat} {m1 m2 : zF} (h : FS o m1 m2) : FT p o m1 m2 := fun i a _ _ _ => h i a
theorem FT.pc {p w o : Nat} {m1 m2 pl : zF} (h : FT p o m1 m2) (hj : DJ p w o) (hP : PC m1 p pl) : PC m2 p pl := hP.fr (fun s h1 h2 => h _ (by unfold DJ at hj; omega) (by omega) (by omega) (by omega))
/-- what a second may change: that, and the drifted row -/
def FP (p w o : Nat) (mem mem' : zF) : Prop := ∀ i, (i < o ∨ o + 8 < i) → i ≠ w + 2 → i ≠ p + 9 → i ≠ p + 13 → i ≠ p + 14 → mem' i = mem i
theorem FP.rfl {p w o : Nat} {mem : zF} : FP p w o mem mem := fun _ _ _ _ _ _ => Eq.refl _
theorem FP.trans {p w o : Nat} {m1 m2 m3 : zF} (h1 : FP p w o m1 m2) (h2 : FP p w o m2 m3) : FP p w o m1 m3 := fun i a b c d e => (h2 i a b c d e).trans (h1 i a b c d e)
theorem FS.fp {p w o : Nat} {m1 m2 : zF} (h : FS o m1 m2) : FP p w o m1 m2 := fun i a _ _ _ _ => h i a
theorem FT.fp {p w o : Nat} {m1 m2 : zF} (h : FT p o m1 m2) : FP p w o m1 m2 := fun i a _ b c d => h i a b c d
theorem FP.pc {p w o : Nat} {m1 m2 pl : zF} (h : FP p w o m1 m2) (hj : DJ p w o) (hP : PC m1 p pl) : PC m2 p pl := hP.fr (fun s h1 h2 => h _ (by unfold DJ at hj; omega) (by unfold DJ at hj; omega) (by omega) (by omega) (by omega))
theorem FP.wr {p w o : Nat} {m1 m2 : zF} {f : Int → Int} (h : FP p w o m1 m2) (hj : DJ p w o) (hr : WR m1 w f) : WR m2 w f := by
  intro c h1 h2
  rw [h (w + 1) (by unfold DJ at hj; omega) (by omega) (by unfold DJ at hj; omega) (by unfold DJ at hj; omega) (by unfold DJ at hj; omega)]
  exact hr c h1 h2
def DR (mem : zF) (w : Nat) (sc : zF) : Prop := ∀ k : Int, 0 ≤ k → k < 6 → mem (w + 2) k.toNat = sc 9 k.toNat
section WORKS
variable {X : zX} {p w o : Nat} {rf pl : zF}
theorem u_drift_3 {d : Nat} {Q : zF → Prop} (hR : zall rf zRK = true) (hp : zPln rf p) (hw : zWrk rf w) (ho : zScn rf o) (hj : DJ p w o) (hD : 1 ≤ d) (hWP : WP pl) {wf : Int → Int} (hwf : ∀ c, -1 ≤ wf c ∧ wf c < 4) (hwn : ∀ c, c < 0 → wf c = -1) {br : Int} (hbr : -1 ≤ br ∧ br < 4) : ∀ (n : Nat) {x : Int} {mem sc : zF}, 0 ≤ x → x + n = 6 → PC mem p pl → SC mem o sc → WR mem w wf → WS pl sc → (∀ k : Int, 0 ≤ k → k < x → mem (w + 2) k.toNat = sc 9 k.toNat) → (∀ mem', SC mem' o (aIt (aDrift pl wf br) x n sc) → DR mem' w (aIt (aDrift pl wf br) x n sc) → FP p w o mem mem' → Q mem') → L_works_driftAll_3 X d rf Q mem w p o br x
  | 0, x, mem, sc, h0, hx, hP, hs, hr, hW, hd, kk => s_works_driftAll_3 hR hw hp ho ⟨by omega, fun _ => kk mem hs (fun k k1 k2 => hd k k1 (by omega)) FP.rfl, fun q => absurd q (by omega)⟩
  | n + 1, x, mem, sc, h0, hx, hP, hs, hr, hW, hd, kk => by
    have hj2 := hj
    unfold DJ at hj2
    have hb := hW.bubI (k := x) (by omega)
    have hcr := hWP.cr
    refine s_works_driftAll_3 hR hw hp ho ⟨by omega, fun q => absurd q (by omega), fun _ => ⟨by omega, ?_⟩⟩
    rw [hs.i 2 (by decide) (by omega)]
    refine u_windIn hR hw (by omega) ?_
    have e : (if 0 ≤ sc 2 x.toNat ∧ sc 2 x.toNat < 64 then mem (w + 1) (sc 2 x.toNat).toNat else -1) = wf (sc 2 x.toNat) := by
      split
      · next q => exact hr _ q.1 q.2
      · exact (hwn _ (by omega)).symm
    rw [e]
    have hwf1 := hwf (sc 2 x.toNat)
    have g : ∀ v : Int, v = (if wf (sc 2 x.toNat) = -1 then br else wf (sc 2 x.toNat)) → L_works_driftAll_42 X d rf Q mem w p o br x (sc 2 x.toNat) v := by
      intro v hv
      have hvr : -1 ≤ v ∧ v < 4 := by
        rw [hv]
        split <;> omega
      have hnr := znext_rng (C := pl 0 1) (R := pl 0 2) (c := sc 2 x.toNat) (w := v) hcr.1.2 hcr.2.2
      refine s_works_driftAll_42 hR hw hp ho ?_
      refine u_next hR hp hP hWP hD (by omega) (by omega) ?_
      unfold aIt at kk
      have hW2 := hW.drift hWP wf br (b := x) (by omega)
      refine ⟨by unfold zic at hnr; omega, fun q => ?_, fun q => ?_⟩
      · refine s_works_driftAll_64 hR hw hp ho ⟨by omega, by unfold zic at hnr; omega, fun q2 => absurd q2 q, fun _ => ⟨by omega, ?_⟩⟩
        have ea : aDrift pl wf br x sc = zup (zup sc 9 x.toNat 1) 2 x.toNat (znext (pl 0 1) (pl 0 2) (sc 2 x.toNat) v) := by
          unfold aDrift
          rw [← hv, if_neg q]
        rw [ea] at kk hW2
        refine u_drift_3 hR hp hw ho hj hD hWP hwf hwn hbr n (by omega) (by omega) (hP.fr (fun s h1 h2 => by rw [zup_row _ _ _ (by omega), zup_row _ _ _ (by omega)])) ?_ ?_ hW2 ?_ ?_
        · exact SC.up (((hs.fr (fun i h1 h2 => zup_row _ _ _ (by omega))).same (fun s k hz => by have := zdom_le hz; rw [zup_row _ _ _ (by omega)]))) 2 _ _
        · intro c c1 c2
          rw [zup_row _ _ _ (by omega), zup_row _ _ _ (by omega)]
          exact hr c c1 c2
        · intro k k1 k2
          rw [zup_row _ _ _ (by omega), zupk h0 k1, zup_row _ _ _ (by decide), zupk h0 k1]
          by_cases e3 : k = x
          · rw [if_pos ⟨rfl, e3⟩, if_pos ⟨rfl, e3⟩]
          · rw [if_neg (fun q => e3 q.2), if_neg (fun q => e3 q.2)]
            exact hd k k1 (by omega)
        · intro mem' g1 g2 g3
          refine kk mem' g1 g2 (FP.trans ?_ g3)
          intro i i1 i2 i3 i4 i5
          rw [zup_row _ _ _ (by omega), zup_row _ _ _ (by omega)]
      · refine s_works_driftAll_64 hR hw hp ho ⟨by omega, by unfold zic at hnr; omega, fun _ => ?_, fun q2 => absurd q q2⟩
        have ea : aDrift pl wf br x sc = zup sc 9 x.toNat 0 := by
          unfold aDrift
          rw [← hv, if_pos q]
        rw [ea] at kk hW2
        refine u_drift_3 hR hp hw ho hj hD hWP hwf hwn hbr n (by omega) (by omega) (hP.fr (fun s h1 h2 => by rw [zup_row _ _ _ (by omega)])) ?_ ?_ hW2 ?_ ?_
        · exact (hs.fr (fun i h1 h2 => zup_row _ _ _ (by omega))).same (fun s k hz => by have := zdom_le hz; rw [zup_row _ _ _ (by omega)])
        · intro c c1 c2
          rw [zup_row _ _ _ (by omega)]
          exact hr c c1 c2
        · intro k k1 k2
          rw [zupk h0 k1, zupk h0 k1]
          by_cases e3 : k = x
          · rw [if_pos ⟨rfl, e3⟩, if_pos ⟨rfl, e3⟩]
          · rw [if_neg (fun q => e3 q.2), if_neg (fun q => e3 q.2)]
            exact hd k k1 (by omega)
        · intro mem' g1 g2 g3
          refine kk mem' g1 g2 (FP.trans ?_ g3)
          intro i i1 i2 i3 i4 i5
          rw [zup_row _ _ _ (by omega)]
    refine ⟨by omega, fun q => g _ (by rw [if_neg q]), fun q => g _ (by rw [if_pos q])⟩
theorem u_join_20 {d : Nat} {Q : zF → Prop} (hR : zall rf zRK = true) (hw : zWrk rf w) (ho : zScn rf o) (hD : 1 ≤ d) {b : Int} (hb : 0 ≤ b ∧ b < 6) : ∀ (n : Nat) {x : Int} {mem sc : zF}, b < x → x + n = 6 → SC mem o sc → WS pl sc → (∀ mem', SC mem' o (aIt (aJoin1 b) x n sc) → FS o mem mem' → L_works_joinAll_2 X d rf Q mem' w o (b + 1)) → L_works_joinAll_20 X d rf Q mem w o b (sc 2 b.toNat) x
  | 0, x, mem, sc, h0, hx, hs, hW, kk => s_works_joinAll_20 hR hw ho ⟨by omega, fun _ => kk mem hs FS.rfl, fun q => absurd q (by omega)⟩
  | n + 1, x, mem, sc, h0, hx, hs, hW, kk => by
    have hbI := hW.bubI hb
    have hxI := hW.bubI (k := x) (by omega)
    refine s_works_joinAll_20 hR hw ho ⟨by omega, fun q => absurd q (by omega), fun _ => ⟨by omega, fun q => ?_, fun q => ⟨by omega, ?_⟩⟩⟩
    · have e : aIt (aJoin1 b) x (n + 1) sc = sc := aIt_stay _ _ (fun k _ _ => by unfold aJoin1; rw [if_neg (fun q2 => q2.1 q)])
      rw [e] at kk
      exact kk mem hs FS.rfl
    · rw [hs.i 2 (by decide) (by omega)]
      unfold aIt at kk
      refine ⟨by omega, fun q2 => ?_, fun q2 => ?_⟩
      · have e : aJoin1 b x sc = sc := by unfold aJoin1; rw [if_neg (fun q3 => q2 q3.2)]
        rw [e] at kk
        exact u_join_20 hR hw ho hD hb n (by omega) (by omega) hs hW kk
      · have e : aJoin1 b x sc = aTwo b x sc := by unfold aJoin1; rw [if_pos ⟨q, q2⟩]
        have hW2 := hW.join1 hb (o := x) (by omega) (by omega)
        rw [e] at kk hW2
        refine u_joinTwo hR ho hD hs hW hb (by omega) ?_
        intro mem1 g1 g2
        have e2 : aTwo b x sc 2 b.toNat = sc 2 b.toNat := by
          unfold aTwo
          rw [aClear_get (by omega) hb.1, if_neg (by omega), zup_row _ _ _ (by decide), zup_row _ _ _ (by decide), zup_row _ _ _ (by decide)]
        rw [← e2]
        refine u_join_20 hR hw ho hD hb n (by omega) (by omega) g1 hW2 ?_
        intro mem2 g3 g4
        exact kk mem2 g3 (g2.trans g4)
theorem u_join_2 {d : Nat} {Q : zF → Prop} (hR : zall rf zRK = true) (hw : zWrk rf w) (ho : zScn rf o) (hD : 1 ≤ d) : ∀ (n : Nat) {x : Int} {mem sc : zF}, 0 ≤ x → x + n = 6 → SC mem o sc → WS pl sc → (∀ mem', SC mem' o (aIt aJoin x n sc) → FS o mem mem' → Q mem') → L_works_joinAll_2 X d rf Q mem w o x
  | 0, x, mem, sc, h0, hx, hs, hW, kk => s_works_joinAll_2 hR hw ho ⟨by omega, fun _ => kk mem hs FS.rfl, fun q => absurd q (by omega)⟩
  | n + 1, x, mem, sc, h0, hx, hs, hW, kk => by
    refine s_works_joinAll_2 hR hw ho ⟨by omega, fun q => absurd q (by omega), fun _ => ⟨by omega, ?_⟩⟩
    rw [hs.i 2 (by decide) (by omega)]
    refine u_join_20 hR hw ho hD (by omega) (5 - x).toNat (by omega) (by omega) hs hW ?_
    intro mem1 g1 g2
    unfold aIt at kk
    have hW2 : WS pl (aJoin x sc) := by
      unfold aJoin
      refine aIt_inv (f := aJoin1 x) (I := fun _ s => WS pl s) (lo := x + 1) (m := 6) ?_ _ _ sc (by omega) (by omega) hW
      intro o s o1 o2 hs
      exact hs.join1 (by omega) ⟨by omega, o2⟩ (by omega)
    refine u_join_2 hR hw ho hD n (by omega) (by omega) g1 hW2 ?_
    intro mem2 g3 g4
    exact kk mem2 g3 (g2.trans g4)
end WORKS
