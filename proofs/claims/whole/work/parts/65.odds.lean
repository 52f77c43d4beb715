/-! lasts and odds -/
theorem aDrift_gone {pl : zF} {w : Int → Int} {br b k : Int} {sc : zF} (hb : 0 ≤ b) (hk : 0 ≤ k) (h : sc 2 b.toNat = -1) : aDrift pl w br k sc 2 b.toNat = -1 := by
  unfold aDrift
  generalize hx : (if w (sc 2 k.toNat) = -1 then br else w (sc 2 k.toNat)) = x
  by_cases q : znext (pl 0 1) (pl 0 2) (sc 2 k.toNat) x = -1
  · rw [if_pos q, zup_row _ _ _ (by decide)]
    exact h
  · rw [if_neg q, zupk hk hb]
    by_cases e : b = k
    · exfalso
      apply q
      unfold znext
      rw [← e, if_neg (by omega)]
    · rw [if_neg (fun c => e c.2), zup_row _ _ _ (by decide)]
      exact h
theorem aClear_gone {b k : Int} {sc : zF} (hb : 0 ≤ b) (hk : 0 ≤ k) (h : sc 2 b.toNat = -1) : aClear k sc 2 b.toNat = -1 := by
  rw [aClear_get hk hb]
  split
  · rfl
  · exact h
theorem aJoin_gone {b k : Int} {sc : zF} (hb : 0 ≤ b) (hk : 0 ≤ k) (h : sc 2 b.toNat = -1) : aJoin k sc 2 b.toNat = -1 := by
  refine aIt_inv (f := aJoin1 k) (I := fun _ t => t 2 b.toNat = -1) (lo := k + 1) (m := k + 1 + ((5 - k).toNat : Int)) ?_ _ _ sc (by omega) (by omega) h
  intro o t o1 _ ht
  unfold aJoin1
  split
  · unfold aTwo
    refine aClear_gone hb (by omega) ?_
    rw [zup_row _ _ _ (by decide), zup_row _ _ _ (by decide), zup_row _ _ _ (by decide)]
    exact ht
  · exact ht
theorem aThin_gone {pl : zF} {b k : Int} {sc : zF} (hb : 0 ≤ b) (hk : 0 ≤ k) (h : sc 2 b.toNat = -1) : (aThin pl k sc).2 2 b.toNat = -1 := by
  unfold aThin
  split
  · exact h
  · unfold aThin2
    split
    · dsimp only
      unfold aBurst
      rw [aKeep_row (by decide) (by decide)]
      refine aClear_gone hb hk ?_
      rw [aOwn_row _ _ _ (by decide), zup_row _ _ _ (by decide)]
      exact h
    · split
      · dsimp only
        rw [aRent_row (by decide), zup_row _ _ _ (by decide)]
        exact h
      · dsimp only
        rw [zup_row _ _ _ (by decide)]
        exact h
theorem aPass_gone {pl : zF} {w : Int → Int} {br b : Int} {sc : zF} (hb : 0 ≤ b) (h : sc 2 b.toNat = -1) : (aPass pl w br sc).2 2 b.toNat = -1 := by
  show aTick _ 2 b.toNat = -1
  unfold aTick
  rw [zup_row _ _ _ (by decide)]
  refine aIt_inv (f := aThinS pl) (I := fun _ t => t.2 2 b.toNat = -1) (lo := 0) (m := 6) ?_ 6 0 (0, _) (by omega) (by omega) ?_
  · intro k t k1 _ ht
    exact aThin_gone hb k1 ht
  · refine aIt_inv (f := aJoin) (I := fun _ t => t 2 b.toNat = -1) (lo := 0) (m := 6) ?_ 6 0 _ (by omega) (by omega) ?_
    · intro k t k1 _ ht
      exact aJoin_gone hb k1 ht
    · refine aIt_inv (f := aDrift pl w br) (I := fun _ t => t 2 b.toNat = -1) (lo := 0) (m := 6) ?_ 6 0 sc (by omega) (by omega) h
      intro k t k1 _ ht
      exact aDrift_gone hb k1 ht
theorem aRun_gone {pl : zF} {b : Int} (hb : 0 ≤ b) : ∀ (n : Nat) {sc : zF}, sc 2 b.toNat = -1 → aRun pl n sc 2 b.toNat = -1
  | 0, _, h => h
  | n + 1, _, h => aRun_gone hb n (aPass_gone hb h)
def aLast (pl sc : zF) (b : Int) (n : Nat) : Nat → Int → Int
  | 0, _ => -1
  | m + 1, f => if aRun pl n (zup sc 3 b.toNat f) 2 b.toNat = -1 then aLast pl sc b n m (f + 1) else f
def aLasts (pl sc : zF) (b n : Int) : Int := if (0 ≤ b ∧ b < pl 1 2 ∧ sc 2 b.toNat ≠ -1) ∧ (1 ≤ n ∧ n ≤ 20 ∧ sc 0 0 + n ≤ 999) then aLast pl sc b n.toNat 99 1 else -1
def aOdd1 (pl sc : zF) (dd h way m : Int) : Int := m + (if (aPass pl (zwind pl (sc 0 2)) way sc).2 6 dd.toNat = h then (if way = -1 then 4 * (100 - pl 0 4) else pl 0 4) else 0)
def aOdds (pl sc : zF) (dd h : Int) : Int := if (0 ≤ dd ∧ dd < pl 1 2) ∧ (0 ≤ h ∧ h < pl 1 1) ∧ sc 0 0 + 1 ≤ 999 then aIt (aOdd1 pl sc dd h) (-1) 5 0 else -1
section LASTS
variable {X : zX} {p : Nat} {rf pl sc : zF}
theorem u_lasts_47 {d : Nat} {Q : Int → zF → Prop} (hD : 4 ≤ d) (hP : WP pl) (hrk : WR3 pl) {b nn film : Int} (hb : 0 ≤ b ∧ b < 6) : ∀ (n : Nat) {x : Int} {mem s1 : zF}, CX rf mem p pl sc → SC mem 39 s1 → WR mem 36 (zwind pl (s1 0 2)) → WS pl s1 → s1 0 0 + n ≤ 999 → 0 ≤ x → x + n = nn → nn ≤ 1000 → (∀ mem', QT p mem mem' → -1 ≤ mem' 41 b.toNat ∧ mem' 41 b.toNat < 64 → (mem' 41 b.toNat = -1 ↔ aRun pl n s1 2 b.toNat = -1) → L_seer_leastFilm_87 X d rf Q mem' p 23 b nn film) → L_seer_leastFilm_47 X d rf Q mem p 23 b nn film x
  | 0, x, mem, s1, hX, hs, hr, hW, h9, h0, hx, hn, kk => by
    have e2 : mem 41 b.toNat = s1 2 b.toNat := hs.i 2 (by decide) hb
    have hbI := hW.bubI hb
    exact s_seer_leastFilm_47 hX.r hX.p (zScn_23 hX.r) ⟨by omega, fun _ => kk mem ⟨QC.rfl, rfl, rfl⟩ (by omega) (by rw [e2]; exact Iff.rfl), fun q => absurd q (by omega)⟩
  | n + 1, x, mem, s1, hX, hs, hr, hW, h9, h0, hx, hn, kk => by
    have e2 : mem 41 b.toNat = s1 2 b.toNat := hs.i 2 (by decide) hb
    have hbI := hW.bubI hb
    refine s_seer_leastFilm_47 hX.r hX.p (zScn_23 hX.r) ⟨by omega, fun q => absurd q (by omega), fun _ => ⟨hb, by omega, fun q => ?_, fun q => ?_⟩⟩
    · refine kk mem ⟨QC.rfl, rfl, rfl⟩ (by omega) ⟨fun _ => ?_, fun _ => q⟩
      exact aRun_gone hb.1 (n + 1) (by rw [← e2]; exact q)
    · refine u_pass (o := 39) (w := 36) hX.r hX.p hX.u (zWrk_36 hX.r) (zScn_39 hX.r) hX.dj hD hP hrk (zwind_rng hP _) (fun c hc => zwind_neg hP _ hc) (by decide) hX.pc hs hr hW (by omega) ?_
      intro m1 g1 f1
      have hq := f1.qt hX.e
      refine u_lasts_47 hD hP hrk hb n (hX.q hq.1) g1 ?_ (hW.pass hP _ _ (by omega)) (by rw [aPass_sec]; omega) (by omega) (by omega) hn ?_
      · rw [aPass_r0 (by decide) (by decide)]
        exact f1.wr hX.dj hr
      · intro m2 f2
        exact kk m2 (hq.trans f2)
theorem u_lasts_9 {d : Nat} {Q : Int → zF → Prop} (hD : 4 ≤ d) (hP : PX pl sc) {b n : Int} (hb : 0 ≤ b ∧ b < 6 ∧ b < pl 1 2) (hf : sc 2 b.toNat ≠ -1) (hn : 0 ≤ n ∧ n ≤ 1000 ∧ sc 0 0 + n ≤ 999) : ∀ (m : Nat) {x : Int} {mem : zF}, CX rf mem p pl sc → WR mem 36 (zwind pl (sc 0 2)) → 0 ≤ x → x + m = 100 → (∀ mem', QC p mem mem' → Q (aLast pl sc b n.toNat m x) mem') → L_seer_leastFilm_9 X d rf Q mem p 23 b n x
  | 0, x, mem, hX, hr, h0, hx, kk => s_seer_leastFilm_9 hX.r hX.p (zScn_23 hX.r) ⟨by omega, fun _ => kk mem QC.rfl, fun q => absurd q (by omega)⟩
  | m + 1, x, mem, hX, hr, h0, hx, kk => by
    refine s_seer_leastFilm_9 hX.r hX.p (zScn_23 hX.r) ⟨by omega, fun q => absurd q (by omega), fun _ => ?_⟩
    refine u_isThere hX.r hX.p hX.pc hP.1 (by omega) (by decide) (by omega) (fun _ => ?_) (fun q => absurd (show zthere pl 2 b from ⟨hb.1, hb.2.1, by decide, by decide, hb.2.2⟩) q)
    refine ⟨by decide, fun q => absurd q (by decide), fun _ => u_copyT hX ?_⟩
    intro m1 g1 f1
    refine ⟨by omega, ?_⟩
    have hs2 : SC (zup m1 42 b.toNat x) 39 (zup sc 3 b.toNat x) := g1.up 3 _ _
    have hF2 : FS 39 mem (zup m1 42 b.toNat x) := f1.up (s := 3) (by decide)
    have hW2 := hP.2.2.1.s3 (b := b) (by omega) hf (x := x) (by omega)
    refine u_lasts_47 hD hP.1 hP.2.1 (by omega) n.toNat (hX.q hF2.qc) hs2 ?_ hW2 (by rw [zup_row _ _ _ (by decide)]; omega) (by omega) (by omega) (by omega) ?_
    · rw [zup_row _ _ _ (by decide)]
      intro c c1 c2
      rw [hF2 (36 + 1) (by omega)]
      exact hr c c1 c2
    · intro m2 f2 hI hiff
      have hq2 : QT p mem m2 := hF2.qt.trans f2
      unfold aLast at kk
      refine s_seer_leastFilm_87 hX.r hX.p (zScn_23 hX.r) ⟨by omega, by omega, fun q => ?_, fun q => ?_⟩
      · rw [if_pos (hiff.mp q)] at kk
        refine u_lasts_9 hD hP hb hf hn m (hX.q hq2.1) ?_ (by omega) (by omega) (fun m3 f3 => kk m3 (hq2.1.trans f3))
        intro c c1 c2
        show m2 37 c.toNat = _
        rw [hq2.2.2]
        exact hr c c1 c2
      · rw [if_neg (fun c => q (hiff.mpr c))] at kk
        exact kk m2 hq2.1
theorem u_lasts {D : Nat} {Q : Int → zF → Prop} {mem : zF} (hX : CX rf mem p pl sc) (hP : PX pl sc) (hD : 7 ≤ D) {b n : Int} (hb : inI b) (hn : inI n) (kk : ∀ mem', QC p mem mem' → Q (aLasts pl sc b n) mem') : Ci X D 167 [(2, 0), (0, b), (0, n)] rf mem Q := by
  obtain ⟨d, rfl⟩ : ∃ d, D = d + 1 := ⟨D - 1, by omega⟩
  obtain ⟨d, rfl⟩ : ∃ e, d = e + 1 := ⟨d - 1, by omega⟩
  have hN := hP.1.n
  unfold aLasts at kk
  refine s_c_lasts hX.r hX.p hX.f (u_floats hX hP (by omega) hb (fun h => ?_) (fun h => ?_))
  · refine ⟨by decide, fun q => absurd q (by decide), fun _ => u_canPass hX hP hn (by decide) (by decide) (fun hc => ?_) (fun hc => ?_)⟩
    · unfold zcan at hc
      rw [if_pos ⟨h, hc⟩] at kk
      refine ⟨by decide, fun _ => ?_, fun q => absurd q (by decide)⟩
      refine s_seer_leastFilm hX.r hX.p (zScn_23 hX.r) (u_start hX hP (by omega) ?_)
      intro m1 g1 g2 f1
      exact u_lasts_9 (by omega) hP (by omega) h.2.2 (by omega) 99 (hX.q f1) g2 (by omega) (by omega) (fun m2 f2 => kk m2 (f1.trans f2))
    · refine ⟨by decide, fun q => absurd rfl q, fun _ => ?_⟩
      have := kk mem QC.rfl
      rwa [if_neg (fun c => hc c.2)] at this
  · refine ⟨by decide, fun _ => ?_, fun q => absurd rfl q⟩
    have := kk mem QC.rfl
    rwa [if_neg (fun c => h c.1)] at this
theorem t_lasts_32 {d : Nat} {Q : Int → zF → Prop} (hD : 7 ≤ d) (hP : PX pl sc) {b n : Int} (hb : 0 ≤ b ∧ b < pl 1 2) (hf : sc 2 b.toNat ≠ -1) (hn : 0 ≤ n ∧ n ≤ 1000 ∧ sc 0 0 + n ≤ 999) : ∀ (m : Nat) {x : Int} {mem : zF}, RX rf mem pl sc → 0 ≤ x → x + m = 100 → (∀ mem', QR mem mem' → Q (aLast pl sc b n.toNat m x) mem') → L_m_lasts_32 X d rf Q mem b n x
  | 0, x, mem, hX, h0, hx, kk => s_m_lasts_32 hX.1 ⟨by omega, fun _ => kk mem QR.rfl, fun q => absurd q (by omega)⟩
  | m + 1, x, mem, hX, h0, hx, kk => by
    have hN := hP.1.n
    refine s_m_lasts_32 hX.1 ⟨by omega, fun q => absurd q (by omega), fun _ => t_copyT hX hP ?_⟩
    intro m1 g1 f1
    refine ⟨by omega, ?_⟩
    have hs2 : RV (zup m1 298 (6 + b).toNat x) 1 pl (zup sc 3 b.toNat x) := g1.up (by decide) 3 (by decide) (by decide) hb.1 x
    have hF2 : RF 1 mem (zup m1 298 (6 + b).toNat x) := f1.up (by unfold zofv; omega)
    have hW2 := hP.2.2.1.s3 (b := b) (by omega) hf (x := x) (by omega)
    refine t_run hX.1 hD hP.1 hP.2.1 (by omega) (hF2.rp hX.2.1) hs2 hW2 (by rw [zup_row _ _ _ (by decide)]; omega) ?_
    intro m3 g3 f3
    have hW3 := WS.run hP.1 n.toNat hW2 (by rw [zup_row _ _ _ (by decide)]; omega)
    have hq3 := hF2.qr.trans f3.qr
    unfold aLast at kk
    refine t_floatsV hX.1 hP.1 hW3 (by decide) g3 hb (fun q => ?_) (fun q => ?_)
    · rw [if_neg q] at kk
      exact ⟨by decide, fun q => absurd q (by decide), fun _ => kk m3 hq3⟩
    · rw [if_pos q] at kk
      exact ⟨by decide, fun _ => t_lasts_32 hD hP hb hf hn m (hX.q hP hq3) (by omega) (by omega) (fun m5 f5 => kk m5 (hq3.trans f5)), fun q => absurd rfl q⟩
theorem t_lasts {D : Nat} {Q : Int → zF → Prop} {mem : zF} (hX : RX rf mem pl sc) (hP : PX pl sc) (hD : 8 ≤ D) {b n : Int} (hb : inI b) (hn : inI n) (kk : ∀ mem', QR mem mem' → Q (aLasts pl sc b n) mem') : Ci X D 291 [(2, 261), (0, b), (0, n)] rf mem Q := by
  obtain ⟨d, rfl⟩ : ∃ d, D = d + 1 := ⟨D - 1, by omega⟩
  have hc0 := hP.1.c0
  unfold aLasts at kk
  refine s_m_lasts hX.1 (t_isBubble hX hP.1 hb (fun q1 => ?_) (fun q1 => ?_))
  · refine ⟨by decide, fun q => absurd q (by decide), fun _ => t_floatsV hX.1 hP.1 hP.2.2.1 (by decide) hX.2.2 q1 (fun q2 => ?_) (fun q2 => ?_)⟩
    · refine ⟨by decide, fun q => absurd q (by decide), fun _ => t_isAhead hX hP (by omega) hn (by decide) (by decide) (fun hc => ?_) (fun hc => ?_) (by decide)⟩
      · have hc2 := hc.2
        unfold zcan at hc2
        rw [if_pos ⟨⟨q1.1, q1.2, q2⟩, hc2⟩] at kk
        exact ⟨by decide, fun _ => t_lasts_32 (by omega) hP q1 q2 (by omega) 99 hX (by omega) (by omega) kk, fun q => absurd q (by decide)⟩
      · refine ⟨by decide, fun q => absurd rfl q, fun _ => ?_⟩
        have := kk mem QR.rfl
        rwa [if_neg (fun c => hc ⟨by omega, c.2⟩)] at this
    · refine ⟨by decide, fun _ => ?_, fun q => absurd rfl q⟩
      have := kk mem QR.rfl
      rwa [if_neg (fun c => c.1.2.2 q2)] at this
  · refine ⟨by decide, fun _ => ?_, fun q => absurd rfl q⟩
    have := kk mem QR.rfl
    rwa [if_neg (fun c => q1 ⟨c.1.1, c.1.2.1⟩)] at this
theorem u_ownsNext {D : Nat} {Q : Int → zF → Prop} {mem : zF} (hX : CX rf mem p pl sc) (hP : PX pl sc) (hD : 5 ≤ D) {b h way : Int} (hb : 0 ≤ b ∧ b < 6 ∧ b < pl 1 2) (hh : inI h) (hw : -1 ≤ way ∧ way < 4) (h9 : sc 0 0 ≤ 998) (hr : WR mem 36 (zwind pl (sc 0 2))) (kk : ∀ mem', QT p mem mem' → Q (if (aPass pl (zwind pl (sc 0 2)) way sc).2 6 b.toNat = h then 1 else 0) mem') : Ci X D 111 [(2, 35), (2, p), (2, 23), (0, b), (0, h), (0, way)] rf mem Q := by
  obtain ⟨d, rfl⟩ : ∃ d, D = d + 1 := ⟨D - 1, by omega⟩
  have hN := hP.1.n
  refine s_seer_ownsBehindNext hX.r hX.p (zScn_23 hX.r) (u_copyT hX ?_)
  intro m1 g1 f1
  have hX1 := hX.q (f1.qc (p := p))
  refine u_pass (o := 39) (w := 36) hX.r hX.p hX.u (zWrk_36 hX.r) (zScn_39 hX.r) hX.dj (by omega) hP.1 hP.2.1 (zwind_rng hP.1 (sc 0 2)) (fun c hc => zwind_neg hP.1 (sc 0 2) hc) hw hX1.pc g1 ?_ hP.2.2.1 h9 ?_
  · intro c c1 c2
    rw [f1 (36 + 1) (by omega)]
    exact hr c c1 c2
  · intro m2 g2 f2
    have hq2 : QT p mem m2 := f1.qt.trans (f2.qt hX.e)
    have hX2 := hX.q hq2.1
    have hW2 := hP.2.2.1.pass hP.1 (zwind pl (sc 0 2)) way (by omega)
    have e6 : m2 45 b.toNat = (aPass pl (zwind pl (sc 0 2)) way sc).2 6 b.toNat := g2.i 6 (by decide) (by omega)
    have ho := (hW2.owner (k := b) (by omega)).1
    have := kk m2 hq2
    refine u_isThere hX.r hX.p hX2.pc hP.1 (by omega) (by decide) (by omega) (fun _ => ?_) (fun q => absurd (show zthere pl 2 b from ⟨hb.1, hb.2.1, by decide, by decide, hb.2.2⟩) q)
    refine ⟨by decide, fun q => absurd q (by decide), fun _ => ⟨by omega, ?_⟩⟩
    rw [e6]
    refine ⟨⟨by omega, hh⟩, fun q => ?_, fun q => ?_⟩
    · rwa [if_neg q] at this
    · rwa [if_pos q] at this
theorem u_odds_41 {d : Nat} {Q : Int → zF → Prop} (hD : 5 ≤ d) (hP : PX pl sc) {b h : Int} (hb : 0 ≤ b ∧ b < 6 ∧ b < pl 1 2) (hh : inI h) (h9 : sc 0 0 ≤ 998) : ∀ (m : Nat) {x t : Int} {mem : zF}, CX rf mem p pl sc → WR mem 36 (zwind pl (sc 0 2)) → 0 ≤ x → x + m = 4 → (∀ mem', QC p mem mem' → Q (aIt (aOdd1 pl sc b h) x m t) mem') → L_seer_rowsToOwn_41 X d rf Q mem p 23 b h t x
  | 0, x, t, mem, hX, hr, h0, hx, kk => s_seer_rowsToOwn_41 hX.r hX.p (zScn_23 hX.r) ⟨by omega, fun _ => kk mem QC.rfl, fun q => absurd q (by omega)⟩
  | m + 1, x, t, mem, hX, hr, h0, hx, kk => by
    refine s_seer_rowsToOwn_41 hX.r hX.p (zScn_23 hX.r) ⟨by omega, fun q => absurd q (by omega), fun _ => u_ownsNext hX hP hD hb hh (by omega) h9 hr ?_⟩
    intro m1 f1
    have hX1 := hX.q f1.1
    have hr1 : WR m1 36 (zwind pl (sc 0 2)) := by
      intro c c1 c2
      show m1 37 c.toNat = _
      rw [f1.2.2]
      exact hr c c1 c2
    unfold aIt aOdd1 at kk
    by_cases q : (aPass pl (zwind pl (sc 0 2)) x sc).2 6 b.toNat = h
    · rw [if_pos q]
      rw [if_pos q, if_neg (by omega)] at kk
      refine ⟨by decide, fun q => absurd q (by decide), fun _ => ?_⟩
      rw [hX1.pc.r0]
      exact u_odds_41 hD hP hb hh h9 m hX1 hr1 (by omega) (by omega) (fun m2 f2 => kk m2 (f1.1.trans f2))
    · rw [if_neg q]
      rw [if_neg q] at kk
      exact ⟨by decide, fun _ => u_odds_41 hD hP hb hh h9 m hX1 hr1 (by omega) (by omega) (fun m2 f2 => kk m2 (f1.1.trans f2)), fun q => absurd rfl q⟩
theorem u_odds {D : Nat} {Q : Int → zF → Prop} {mem : zF} (hX : CX rf mem p pl sc) (hP : PX pl sc) (hD : 7 ≤ D) {b h : Int} (hb : inI b) (hh : inI h) (kk : ∀ mem', QC p mem mem' → Q (aOdds pl sc b h) mem') : Ci X D 168 [(2, 0), (0, b), (0, h)] rf mem Q := by
  obtain ⟨d, rfl⟩ : ∃ d, D = d + 1 := ⟨D - 1, by omega⟩
  obtain ⟨d, rfl⟩ : ∃ e, d = e + 1 := ⟨d - 1, by omega⟩
  have hN := hP.1.n
  unfold aOdds at kk
  refine s_c_odds hX.r hX.p hX.f (u_isThere hX.r hX.p hX.pc hP.1 (by omega) (by decide) hb (fun q1 => ?_) (fun q1 => ?_))
  · have hb6 : 0 ≤ b ∧ b < 6 ∧ b < pl 1 2 := ⟨q1.1, q1.2.1, q1.2.2.2.2⟩
    refine ⟨by decide, fun q => absurd q (by decide), fun _ => u_isThere hX.r hX.p hX.pc hP.1 (by omega) (by decide) hh (fun q2 => ?_) (fun q2 => ?_)⟩
    · have hh2 : 0 ≤ h ∧ h < pl 1 1 := ⟨q2.1, q2.2.2.2.2⟩
      refine ⟨by decide, fun q => absurd q (by decide), fun _ => u_canPass hX hP (by decide) (by decide) (by decide) (fun hc => ?_) (fun hc => ?_)⟩
      · refine ⟨by decide, fun _ => ?_, fun q => absurd q (by decide)⟩
        unfold zcan at hc
        rw [if_pos ⟨⟨hb6.1, hb6.2.2⟩, hh2, hc.2.2⟩] at kk
        refine s_seer_rowsToOwn hX.r hX.p (zScn_23 hX.r) (u_start hX hP (by omega) ?_)
        intro m1 g1 g2 f1
        have hX1 := hX.q f1
        refine u_ownsNext hX1 hP (by omega) hb6 hh (by decide) (by omega) g2 ?_
        intro m2 f2
        have hX2 := hX1.q f2.1
        have hr2 : WR m2 36 (zwind pl (sc 0 2)) := by
          intro c c1 c2
          show m2 37 c.toNat = _
          rw [f2.2.2]
          exact g2 c c1 c2
        unfold aIt aOdd1 at kk
        by_cases q : (aPass pl (zwind pl (sc 0 2)) (-1) sc).2 6 b.toNat = h
        · rw [if_pos q]
          rw [if_pos q, if_pos rfl, Int.zero_add] at kk
          refine ⟨by decide, fun q => absurd q (by decide), fun _ => ?_⟩
          rw [hX2.pc.r0]
          exact u_odds_41 (by omega) hP hb6 hh (by omega) 4 hX2 hr2 (by omega) (by omega) (fun m3 f3 => kk m3 ((f1.trans f2.1).trans f3))
        · rw [if_neg q]
          rw [if_neg q] at kk
          exact ⟨by decide, fun _ => u_odds_41 (by omega) hP hb6 hh (by omega) 4 hX2 hr2 (by omega) (by omega) (fun m3 f3 => kk m3 ((f1.trans f2.1).trans f3)), fun q => absurd rfl q⟩
      · refine ⟨by decide, fun q => absurd rfl q, fun _ => ?_⟩
        have := kk mem QC.rfl
        rwa [if_neg (fun c => hc ⟨by decide, by decide, c.2.2⟩)] at this
    · refine ⟨by decide, fun _ => ?_, fun q => absurd rfl q⟩
      have := kk mem QC.rfl
      rwa [if_neg (fun c => q2 ⟨c.2.1.1, by omega, by decide, by decide, c.2.1.2⟩)] at this
  · refine ⟨by decide, fun _ => ?_, fun q => absurd rfl q⟩
    have := kk mem QC.rfl
    rwa [if_neg (fun c => q1 ⟨c.1.1, by omega, by decide, by decide, c.1.2⟩)] at this
theorem t_odds_33 {d : Nat} {Q : Int → zF → Prop} (hD : 6 ≤ d) (hP : PX pl sc) {b h : Int} (hb : 0 ≤ b ∧ b < pl 1 2) (hh : inI h) (h9 : sc 0 0 ≤ 998) : ∀ (m : Nat) {x t : Int} {mem : zF}, RX rf mem pl sc → -1 ≤ x → x + m = 4 → (∀ mem', QR mem mem' → Q (aIt (aOdd1 pl sc b h) x m t) mem') → L_m_odds_33 X d rf Q mem b h t x
  | 0, x, t, mem, hX, h0, hx, kk => s_m_odds_33 hX.1 ⟨by omega, fun _ => kk mem QR.rfl, fun q => absurd q (by omega)⟩
  | m + 1, x, t, mem, hX, h0, hx, kk => by
    have hN := hP.1.n
    refine s_m_odds_33 hX.1 ⟨by omega, fun q => absurd q (by omega), fun _ => t_copyT hX hP ?_⟩
    intro m1 g1 f1
    refine t_ticks hX.1 hD hP.1 hP.2.1 (by decide) (by omega) (f1.rp hX.2.1) g1 hP.2.2.1 ?_
    intro m2 g2 f2
    have hq2 := f1.qr.trans f2.qr
    have hX2 := hX.q hP hq2
    have hW2 := hP.2.2.1.pass hP.1 (zwind pl (sc 0 2)) x (by omega)
    have e6 : m2 301 (6 + b).toNat = (aPass pl (zwind pl (sc 0 2)) x sc).2 6 b.toNat := g2.b 6 (by decide) (by decide) hb.1 hb.2
    have ho := (hW2.owner (k := b) (by omega)).1
    unfold aIt aOdd1 at kk
    have g85 : ∀ v, v = (if x = -1 then 4 * (100 - pl 0 4) else pl 0 4) → L_m_odds_85 X d rf Q m2 b h t x v := by
      intro v hv
      rw [← hv] at kk
      refine s_m_odds_85 hX.1 ⟨by omega, ?_⟩
      rw [e6]
      refine ⟨⟨by omega, hh⟩, fun q => ?_, fun q => ?_⟩
      · rw [if_neg q] at kk
        exact t_odds_33 hD hP hb hh h9 m hX2 (by omega) (by omega) (fun m3 f3 => kk m3 (hq2.trans f3))
      · rw [if_pos q] at kk
        exact t_odds_33 hD hP hb hh h9 m hX2 (by omega) (by omega) (fun m3 f3 => kk m3 (hq2.trans f3))
    refine ⟨by omega, fun q => ⟨hX2.2.1.bank, ?_⟩, fun q => ⟨hX2.2.1.bank, ?_⟩⟩
    · rw [hX2.2.1.n.2.2.2]
      exact g85 _ (by rw [if_neg q])
    · rw [hX2.2.1.n.2.2.2]
      exact g85 _ (by rw [if_pos q])
theorem t_odds {D : Nat} {Q : Int → zF → Prop} {mem : zF} (hX : RX rf mem pl sc) (hP : PX pl sc) (hD : 7 ≤ D) {b h : Int} (hb : inI b) (hh : inI h) (kk : ∀ mem', QR mem mem' → Q (aOdds pl sc b h) mem') : Ci X D 292 [(2, 261), (0, b), (0, h)] rf mem Q := by
  obtain ⟨d, rfl⟩ : ∃ d, D = d + 1 := ⟨D - 1, by omega⟩
  have hc0 := hP.1.c0
  unfold aOdds at kk
  refine s_m_odds hX.1 (t_isBubble hX hP.1 hb (fun q1 => ?_) (fun q1 => ?_))
  · refine ⟨by decide, fun q => absurd q (by decide), fun _ => t_isHeir hX hP.1 hh (fun q2 => ?_) (fun q2 => ?_)⟩
    · refine ⟨by decide, fun q => absurd q (by decide), fun _ => t_isAhead hX hP (by omega) (by decide) (by decide) (by decide) (fun hc => ?_) (fun hc => ?_) (by decide)⟩
      · have hc2 := hc.2
        unfold zcan at hc2
        rw [if_pos ⟨q1, q2, hc2.2.2⟩] at kk
        exact ⟨by decide, fun _ => t_odds_33 (by omega) hP q1 hh (by omega) 5 hX (by omega) (by omega) kk, fun q => absurd q (by decide)⟩
      · refine ⟨by decide, fun q => absurd rfl q, fun _ => ?_⟩
        have := kk mem QR.rfl
        rwa [if_neg (fun c => hc ⟨by omega, by decide, by decide, c.2.2⟩)] at this
    · refine ⟨by decide, fun _ => ?_, fun q => absurd rfl q⟩
      have := kk mem QR.rfl
      rwa [if_neg (fun c => q2 c.2.1)] at this
  · refine ⟨by decide, fun _ => ?_, fun q => absurd rfl q⟩
    have := kk mem QR.rfl
    rwa [if_neg (fun c => q1 c.1)] at this
end LASTS
