/-! WHAT COMES AHEAD: later, goes, owner, doors, stand, shine, lasts, odds -/
theorem zxor_tab : ∀ x : Fin 64, ∀ y : Fin 64, 0 ≤ zxor (x.val : Int) (y.val : Int) ∧ zxor (x.val : Int) (y.val : Int) < 64 := by decide +kernel
theorem zxor_lt {x y : Int} (hx : 0 ≤ x ∧ x < 64) (hy : 0 ≤ y ∧ y < 64) : 0 ≤ zxor x y ∧ zxor x y < 64 := by
  have h := zxor_tab ⟨x.toNat, by omega⟩ ⟨y.toNat, by omega⟩
  simp only at h
  rwa [Int.toNat_of_nonneg hx.1, Int.toNat_of_nonneg hy.1] at h
theorem zshl_tab : ∀ k : Fin 7, 1 ≤ zshl 1 (k.val : Int) ∧ zshl 1 (k.val : Int) ≤ 64 := by decide +kernel
theorem zshl_rng {k : Int} (hk : 0 ≤ k ∧ k ≤ 6) : 1 ≤ zshl 1 k ∧ zshl 1 k ≤ 64 := by
  have h := zshl_tab ⟨k.toNat, by omega⟩
  simp only at h
  rwa [Int.toNat_of_nonneg hk.1] at h
def aLater (pl sc : zF) (b n w : Int) : Int := if (0 ≤ b ∧ b < pl 1 2) ∧ (0 ≤ n ∧ n ≤ 40 ∧ sc 0 0 + n ≤ 999) ∧ 0 ≤ w ∧ w ≤ 2 then (if w = 2 then aRun pl n.toNat sc 3 b.toNat else zpart (aRun pl n.toNat sc 2 b.toNat) w) else -1
def aOwner (pl sc : zF) (b n : Int) : Int := if (0 ≤ b ∧ b < pl 1 2) ∧ (0 ≤ n ∧ n ≤ 40 ∧ sc 0 0 + n ≤ 999) then aRun pl n.toNat sc 6 b.toNat else -1
theorem zpart_no {c w : Int} (hw : ¬ (0 ≤ w ∧ w ≤ 1)) : zpart c w = -1 := by
  unfold zpart
  rw [if_neg (show ¬ w = 0 by omega), if_neg (show ¬ w = 1 by omega)]
  split <;> rfl
def zn1 (pl sc : zF) : zF := (aPass pl (zwind pl (sc 0 2)) (-1) sc).2
section AHEAD
variable {X : zX} {p : Nat} {rf pl sc : zF}
theorem u_later {D : Nat} {Q : Int → zF → Prop} {mem : zF} (hX : CX rf mem p pl sc) (hP : PX pl sc) (hD : 7 ≤ D) {b n w : Int} (hb : inI b) (hn : inI n) (hw : inI w) (kk : ∀ mem', QC p mem mem' → Q (aLater pl sc b n w) mem') : Ci X D 161 [(2, 0), (0, b), (0, n), (0, w)] rf mem Q := by
  obtain ⟨d, rfl⟩ : ∃ d, D = d + 1 := ⟨D - 1, by omega⟩
  have hN := hP.1.n
  unfold aLater at kk
  refine s_c_later hX.r hX.p hX.f (u_isThere hX.r hX.p hX.pc hP.1 (by omega) (by decide) hb (fun h => ?_) (fun h => ?_))
  · have hb6 : 0 ≤ b ∧ b < 6 := ⟨h.1, h.2.1⟩
    have hb2 : b < pl 1 2 := h.2.2.2.2
    refine ⟨by decide, fun q => absurd q (by decide), fun _ => u_canPass hX hP hn (by decide) (by decide) (fun hc => ?_) (fun hc => ?_)⟩
    · refine ⟨by decide, fun _ => ?_, fun q => absurd q (by decide)⟩
      unfold zcan at hc
      refine u_after hX hP (by omega) (by omega) (by omega) ?_
      intro m1 g1 f1
      have hW1 := WS.run hP.1 n.toNat (sc := sc) hP.2.2.1 (by omega)
      have e2 : m1 41 b.toNat = aRun pl n.toNat sc 2 b.toNat := g1.i 2 (by decide) hb6
      have e3 : m1 42 b.toNat = aRun pl n.toNat sc 3 b.toNat := g1.i 3 (by decide) hb6
      have hbI := hW1.bubI hb6
      refine ⟨rfl, hw, fun q => ⟨hb6, ?_⟩, fun q => ⟨hb6, ?_⟩⟩
      · rw [e2]
        refine u_placePart (hX.q f1) hbI hw ?_
        have := kk m1 f1
        by_cases hw2 : 0 ≤ w ∧ w ≤ 2
        · rwa [if_pos ⟨⟨hb6.1, hb2⟩, hc, hw2⟩, if_neg q] at this
        · rw [if_neg (fun c => hw2 c.2.2)] at this
          rwa [zpart_no (by omega)]
      · rw [e3]
        have := kk m1 f1
        rwa [if_pos ⟨⟨hb6.1, hb2⟩, hc, by omega⟩, if_pos q] at this
    · refine ⟨by decide, fun q => absurd rfl q, fun _ => ?_⟩
      have := kk mem QC.rfl
      rwa [if_neg (fun c => hc c.2.1)] at this
  · refine ⟨by decide, fun _ => ?_, fun q => absurd rfl q⟩
    have := kk mem QC.rfl
    rwa [if_neg (fun c => h ⟨c.1.1, by omega, by decide, by decide, c.1.2⟩)] at this
theorem t_later {D : Nat} {Q : Int → zF → Prop} {mem : zF} (hX : RX rf mem pl sc) (hP : PX pl sc) (hD : 8 ≤ D) {b n w : Int} (hb : inI b) (hn : inI n) (hw : inI w) (kk : ∀ mem', QR mem mem' → Q (aLater pl sc b n w) mem') : Ci X D 285 [(2, 261), (0, b), (0, n), (0, w)] rf mem Q := by
  obtain ⟨d, rfl⟩ : ∃ d, D = d + 1 := ⟨D - 1, by omega⟩
  have hN := hP.1.n
  have hc0 := hP.1.c0
  unfold aLater at kk
  refine s_m_later hX.1 (t_isBubble hX hP.1 hb (fun h => ?_) (fun h => ?_))
  · refine ⟨by decide, fun q => absurd q (by decide), fun _ => t_isAhead hX hP (by omega) hn (by decide) (by decide) (fun hc => ?_) (fun hc => ?_) (by decide)⟩
    · refine ⟨by decide, fun q => absurd q (by decide), fun _ => t_is hX.1 hw (by decide) (by decide) ?_⟩
      have hc2 := hc.2
      unfold zcan at hc2
      by_cases hw2 : 0 ≤ w ∧ w ≤ 2
      · rw [if_pos hw2]
        refine ⟨by decide, fun _ => ?_, fun q => absurd q (by decide)⟩
        refine t_copies hX.1 hP.1 hP.2.2.1 (by decide) (by decide) (by decide) hX.2.2 ?_
        intro m1 g1 f1
        refine t_run hX.1 (by omega) hP.1 hP.2.1 (by omega) (f1.rp hX.2.1) g1 hP.2.2.1 (by omega) ?_
        intro m2 g2 f2
        have hW1 := WS.run hP.1 n.toNat (sc := sc) hP.2.2.1 (by omega)
        have hbI := hW1.bubI (k := b) (by omega)
        have e2 : m2 297 (6 + b).toNat = aRun pl n.toNat sc 2 b.toNat := g2.b 2 (by decide) (by decide) h.1 h.2
        have e3 : m2 298 (6 + b).toNat = aRun pl n.toNat sc 3 b.toNat := g2.b 3 (by decide) (by decide) h.1 h.2
        have := kk m2 (f1.qr.trans f2.qr)
        rw [if_pos ⟨h, hc2, hw2⟩] at this
        refine ⟨hw, fun q => ⟨by omega, ?_⟩, fun q => ⟨by omega, ?_⟩⟩
        · rw [e3]
          rwa [if_pos (by omega)] at this
        · rw [e2]
          rw [if_neg (by omega)] at this
          exact t_partOf hX.1 hbI (by omega) this
      · rw [if_neg hw2]
        refine ⟨by decide, fun q => absurd rfl q, fun _ => ?_⟩
        have := kk mem QR.rfl
        rwa [if_neg (fun c => hw2 c.2.2)] at this
    · refine ⟨by decide, fun _ => ?_, fun q => absurd rfl q⟩
      have := kk mem QR.rfl
      rwa [if_neg (fun c => hc ⟨by omega, c.2.1⟩)] at this
  · refine ⟨by decide, fun _ => ?_, fun q => absurd rfl q⟩
    have := kk mem QR.rfl
    rwa [if_neg (fun c => h c.1)] at this
theorem u_owner {D : Nat} {Q : Int → zF → Prop} {mem : zF} (hX : CX rf mem p pl sc) (hP : PX pl sc) (hD : 7 ≤ D) {b n : Int} (hb : inI b) (hn : inI n) (kk : ∀ mem', QC p mem mem' → Q (aOwner pl sc b n) mem') : Ci X D 163 [(2, 0), (0, b), (0, n)] rf mem Q := by
  obtain ⟨d, rfl⟩ : ∃ d, D = d + 1 := ⟨D - 1, by omega⟩
  have hN := hP.1.n
  unfold aOwner at kk
  refine s_c_owner hX.r hX.p hX.f (u_isThere hX.r hX.p hX.pc hP.1 (by omega) (by decide) hb (fun h => ?_) (fun h => ?_))
  · have hb6 : 0 ≤ b ∧ b < 6 := ⟨h.1, h.2.1⟩
    have hb2 : b < pl 1 2 := h.2.2.2.2
    refine ⟨by decide, fun q => absurd q (by decide), fun _ => u_canPass hX hP hn (by decide) (by decide) (fun hc => ?_) (fun hc => ?_)⟩
    · refine ⟨by decide, fun _ => ?_, fun q => absurd q (by decide)⟩
      unfold zcan at hc
      refine u_after hX hP (by omega) (by omega) (by omega) ?_
      intro m1 g1 f1
      have e6 : m1 45 b.toNat = aRun pl n.toNat sc 6 b.toNat := g1.i 6 (by decide) hb6
      refine ⟨rfl, hb6, ?_⟩
      rw [e6]
      have := kk m1 f1
      rwa [if_pos ⟨⟨hb6.1, hb2⟩, hc⟩] at this
    · refine ⟨by decide, fun q => absurd rfl q, fun _ => ?_⟩
      have := kk mem QC.rfl
      rwa [if_neg (fun c => hc c.2)] at this
  · refine ⟨by decide, fun _ => ?_, fun q => absurd rfl q⟩
    have := kk mem QC.rfl
    rwa [if_neg (fun c => h ⟨c.1.1, by omega, by decide, by decide, c.1.2⟩)] at this
theorem t_owner {D : Nat} {Q : Int → zF → Prop} {mem : zF} (hX : RX rf mem pl sc) (hP : PX pl sc) (hD : 8 ≤ D) {b n : Int} (hb : inI b) (hn : inI n) (kk : ∀ mem', QR mem mem' → Q (aOwner pl sc b n) mem') : Ci X D 287 [(2, 261), (0, b), (0, n)] rf mem Q := by
  obtain ⟨d, rfl⟩ : ∃ d, D = d + 1 := ⟨D - 1, by omega⟩
  have hN := hP.1.n
  have hc0 := hP.1.c0
  unfold aOwner at kk
  refine s_m_owner hX.1 (t_isBubble hX hP.1 hb (fun h => ?_) (fun h => ?_))
  · refine ⟨by decide, fun q => absurd q (by decide), fun _ => t_isAhead hX hP (by omega) hn (by decide) (by decide) (fun hc => ?_) (fun hc => ?_) (by decide)⟩
    · have hc2 := hc.2
      unfold zcan at hc2
      refine ⟨by decide, fun _ => ?_, fun q => absurd q (by decide)⟩
      refine t_copies hX.1 hP.1 hP.2.2.1 (by decide) (by decide) (by decide) hX.2.2 ?_
      intro m1 g1 f1
      refine t_run hX.1 (by omega) hP.1 hP.2.1 (by omega) (f1.rp hX.2.1) g1 hP.2.2.1 (by omega) ?_
      intro m2 g2 f2
      have e6 : m2 301 (6 + b).toNat = aRun pl n.toNat sc 6 b.toNat := g2.b 6 (by decide) (by decide) h.1 h.2
      have := kk m2 (f1.qr.trans f2.qr)
      rw [if_pos ⟨h, hc2⟩] at this
      refine ⟨by omega, ?_⟩
      rwa [e6]
    · refine ⟨by decide, fun q => absurd rfl q, fun _ => ?_⟩
      have := kk mem QR.rfl
      rwa [if_neg (fun c => hc ⟨by omega, c.2⟩)] at this
  · refine ⟨by decide, fun _ => ?_, fun q => absurd rfl q⟩
    have := kk mem QR.rfl
    rwa [if_neg (fun c => h c.1)] at this
/-! goes -/
def aGo (pl : zF) (b : Int) : Nat → Int → zF → Int
  | 0, _, _ => -1
  | n + 1, k, s => if zn1 pl s 2 b.toNat = -1 then k else aGo pl b n (k + 1) (zn1 pl s)
def aGoes (pl sc : zF) (b : Int) : Int := if 0 ≤ b ∧ b < pl 1 2 ∧ sc 2 b.toNat ≠ -1 then aGo pl b (min 40 (999 - sc 0 0)).toNat 0 sc else -1
theorem u_goes_24 {d : Nat} {Q : Int → zF → Prop} (hD : 4 ≤ d) {b nn : Int} (hb : 0 ≤ b ∧ b < 6 ∧ b < pl 1 2) (hP : WP pl) (hrk : WR3 pl) : ∀ (n : Nat) {x : Int} {mem s1 : zF}, CX rf mem p pl sc → SC mem 39 s1 → WR mem 36 (zwind pl (s1 0 2)) → WS pl s1 → s1 0 0 + n ≤ 999 → 0 ≤ x → x + n = nn → nn ≤ 40 → (∀ mem', QC p mem mem' → Q (aGo pl b n x s1) mem') → L_seer_secondOfGoing_24 X d rf Q mem p 23 b nn x
  | 0, x, mem, s1, hX, hs, hr, hW, h9, h0, hx, hn, kk => s_seer_secondOfGoing_24 hX.r hX.p (zScn_23 hX.r) ⟨by omega, fun _ => kk mem QC.rfl, fun q => absurd q (by omega)⟩
  | n + 1, x, mem, s1, hX, hs, hr, hW, h9, h0, hx, hn, kk => by
    refine s_seer_secondOfGoing_24 hX.r hX.p (zScn_23 hX.r) ⟨by omega, fun q => absurd q (by omega), fun _ => ?_⟩
    refine u_isThere hX.r hX.p hX.pc hP (by omega) (by decide) (by omega) (fun _ => ?_) (fun h => absurd (show zthere pl 2 b from ⟨hb.1, hb.2.1, by decide, by decide, hb.2.2⟩) h)
    refine ⟨by decide, fun q => absurd q (by decide), fun _ => ?_⟩
    refine u_pass (o := 39) (w := 36) hX.r hX.p hX.u (zWrk_36 hX.r) (zScn_39 hX.r) hX.dj hD hP hrk (zwind_rng hP _) (fun c hc => zwind_neg hP _ hc) (by decide) hX.pc hs hr hW (by omega) ?_
    intro m1 g1 f1
    have hW1 : WS pl (zn1 pl s1) := hW.pass hP _ _ (by omega)
    have hbI := hW1.bubI (k := b) (by omega)
    have e2 : m1 41 b.toNat = zn1 pl s1 2 b.toNat := g1.i 2 (by decide) (by omega)
    have hq := f1.qc hX.e
    unfold aGo at kk
    refine ⟨by omega, ?_⟩
    rw [e2]
    refine ⟨by omega, fun q => ?_, fun q => ?_⟩
    · rw [if_neg q] at kk
      refine u_goes_24 hD hb hP hrk n (hX.q hq) g1 ?_ hW1 (by rw [aPass_sec]; omega) (by omega) (by omega) hn ?_
      · rw [aPass_r0 (by decide) (by decide)]
        exact f1.wr hX.dj hr
      · intro m2 f2
        exact kk m2 (hq.trans f2)
    · rw [if_pos q] at kk
      exact kk m1 hq
theorem u_goes {D : Nat} {Q : Int → zF → Prop} {mem : zF} (hX : CX rf mem p pl sc) (hP : PX pl sc) (hD : 7 ≤ D) {b : Int} (hb : inI b) (kk : ∀ mem', QC p mem mem' → Q (aGoes pl sc b) mem') : Ci X D 162 [(2, 0), (0, b)] rf mem Q := by
  obtain ⟨d, rfl⟩ : ∃ d, D = d + 1 := ⟨D - 1, by omega⟩
  obtain ⟨d, rfl⟩ : ∃ e, d = e + 1 := ⟨d - 1, by omega⟩
  have hN := hP.1.n
  have hsec := hP.2.2.1.sec
  have h9 := hP.2.2.2
  unfold aGoes at kk
  refine s_c_goes hX.r hX.p hX.f (u_floats hX hP (by omega) hb (fun h => ?_) (fun h => ?_))
  · refine ⟨by decide, fun _ => ?_, fun q => absurd q (by decide)⟩
    refine s_seer_secondOfGoing hX.r hX.p (zScn_23 hX.r) ?_
    rw [hX.s.z 0 (by decide)]
    refine u_min hX.r (by decide) (by omega) (u_start hX hP (by omega) ?_)
    intro m1 g1 g2 f1
    rw [if_pos h] at kk
    exact u_goes_24 (by omega) (by omega) hP.1 hP.2.1 (min 40 (999 - sc 0 0)).toNat (hX.q f1) g1 g2 hP.2.2.1 (by omega) (by omega) (by omega) (by omega) (fun m2 f2 => kk m2 (f1.trans f2))
  · refine ⟨by decide, fun q => absurd rfl q, fun _ => ?_⟩
    have := kk mem QC.rfl
    rwa [if_neg h] at this
theorem t_goes_27 {d : Nat} {Q : Int → zF → Prop} (hD : 6 ≤ d) {b : Int} (hb : 0 ≤ b ∧ b < pl 1 2) (hP : PX pl sc) : ∀ (n : Nat) {x : Int} {mem s1 : zF}, RX rf mem pl sc → RV mem 1 pl s1 → WS pl s1 → s1 0 0 = sc 0 0 + x → 0 ≤ x → x + n = min 40 (999 - sc 0 0) → (∀ mem', QR mem mem' → Q (aGo pl b n x s1) mem') → L_m_goes_27 X d rf Q mem b x
  | n, x, mem, s1, hX, hs, hW, h9, h0, hx, kk => by
    have hN := hP.1.n
    have hc0 := hP.1.c0
    refine s_m_goes_27 hX.1 (t_isAhead hX hP (by omega) (by omega) (by decide) (by decide) (fun hc => ?_) (fun hc => ?_) (by decide))
    · have hc2 := hc.2
      unfold zcan at hc2
      obtain ⟨m, rfl⟩ : ∃ m, n = m + 1 := ⟨n - 1, by omega⟩
      refine ⟨by decide, fun q => absurd q (by decide), fun _ => ?_⟩
      refine t_ticks hX.1 hD hP.1 hP.2.1 (by decide) (by decide) hX.2.1 hs hW ?_
      intro m1 g1 f1
      have hW1 : WS pl (zn1 pl s1) := hW.pass hP.1 _ _ (by omega)
      unfold aGo at kk
      refine t_floatsV hX.1 hP.1 hW1 (by decide) g1 hb (fun q => ?_) (fun q => ?_)
      · refine ⟨by decide, fun _ => ?_, fun q => absurd q (by decide)⟩
        rw [if_neg q] at kk
        refine t_goes_27 hD hb hP m (hX.q hP f1.qr) g1 hW1 (by rw [aPass_sec]; omega) (by omega) (by omega) ?_
        intro m2 f2
        exact kk m2 (f1.qr.trans f2)
      · refine ⟨by decide, fun q => absurd rfl q, fun _ => ?_⟩
        rw [if_pos q] at kk
        exact kk m1 f1.qr
    · unfold zcan at hc
      have e : n = 0 := by omega
      subst e
      exact ⟨by decide, fun _ => kk mem QR.rfl, fun q => absurd rfl q⟩
theorem t_goes {D : Nat} {Q : Int → zF → Prop} {mem : zF} (hX : RX rf mem pl sc) (hP : PX pl sc) (hD : 7 ≤ D) {b : Int} (hb : inI b) (kk : ∀ mem', QR mem mem' → Q (aGoes pl sc b) mem') : Ci X D 286 [(2, 261), (0, b)] rf mem Q := by
  obtain ⟨d, rfl⟩ : ∃ d, D = d + 1 := ⟨D - 1, by omega⟩
  have hN := hP.1.n
  have hsec := hP.2.2.1.sec
  have h9 := hP.2.2.2
  unfold aGoes at kk
  refine s_m_goes hX.1 (t_isBubble hX hP.1 hb (fun h => ?_) (fun h => ?_))
  · refine ⟨by decide, fun q => absurd q (by decide), fun _ => t_floatsV hX.1 hP.1 hP.2.2.1 (by decide) hX.2.2 h (fun q => ?_) (fun q => ?_)⟩
    · refine ⟨by decide, fun _ => ?_, fun q => absurd q (by decide)⟩
      rw [if_pos ⟨h.1, h.2, q⟩] at kk
      refine t_copies hX.1 hP.1 hP.2.2.1 (by decide) (by decide) (by decide) hX.2.2 ?_
      intro m1 g1 f1
      exact t_goes_27 (by omega) h hP (min 40 (999 - sc 0 0)).toNat (hX.q hP f1.qr) g1 hP.2.2.1 (by omega) (by omega) (by omega) (fun m2 f2 => kk m2 (f1.qr.trans f2))
    · refine ⟨by decide, fun q => absurd rfl q, fun _ => ?_⟩
      have := kk mem QR.rfl
      rwa [if_neg (fun c => c.2.2 q)] at this
  · refine ⟨by decide, fun _ => ?_, fun q => absurd rfl q⟩
    have := kk mem QR.rfl
    rwa [if_neg (fun c => h ⟨c.1, c.2.1⟩)] at this
end AHEAD
