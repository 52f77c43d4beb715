/-! stand and shine of the reference; lasts and odds of both -/
theorem aIt_stayI {f : Int → Int → Int} {s : Int} : ∀ (n : Nat) (b : Int), (∀ k, b ≤ k → k < b + n → f k s = s) → aIt f b n s = s := aIt_stay
section RSTAND
variable {X : zX} {p : Nat} {rf pl sc : zF}
theorem t_owned_5 {d : Nat} {Q : Int → zF → Prop} {mem r : zF} (hR : zall rf zRK = true) (hp : RP mem pl) {v : Int} (hv : 0 ≤ v ∧ v < 22) (hs : RV mem v pl r) (hP : WP pl) (hW : WS pl r) {h : Int} (hh : 0 ≤ h ∧ h < 6) : ∀ (n : Nat) {x c : Int}, 0 ≤ x → x + n = 6 → Q (aIt (aOwned1 r h) x n c) mem → L_m_ownedBy_5 X d rf Q mem v h c x
  | n, x, c, h0, hx, kk => by
    have hN := hP.n
    refine s_m_ownedBy_5 hR ⟨hp.bank, ?_⟩
    rw [hp.n.2.2.1]
    refine ⟨by omega, fun q => ?_, fun q => ⟨by omega, ?_⟩⟩
    · rw [aIt_stayI] at kk
      · exact kk
      · intro k k1 k2
        have := (hW.owner (k := k) (by omega)).2 (by omega)
        unfold aOwned1
        rw [if_neg (by omega)]
        omega
    · obtain ⟨m, rfl⟩ : ∃ m, n = m + 1 := ⟨n - 1, by omega⟩
      have e6 : mem 301 (6 * v + x).toNat = r 6 x.toNat := hs.b 6 (by decide) (by decide) h0 (by omega)
      have ho2 := (hW.owner (k := x) (by omega)).1
      rw [e6]
      unfold aIt aOwned1 at kk
      refine ⟨by omega, fun q => ?_, fun q => ?_⟩
      · rw [if_neg q] at kk
        exact t_owned_5 hR hp hv hs hP hW hh m (by omega) (by omega) kk
      · rw [if_pos q] at kk
        exact t_owned_5 hR hp hv hs hP hW hh m (by omega) (by omega) kk
theorem t_owned {d : Nat} {Q : Int → zF → Prop} {mem r : zF} (hR : zall rf zRK = true) (hp : RP mem pl) {v : Int} (hv : 0 ≤ v ∧ v < 22) (hs : RV mem v pl r) (hP : WP pl) (hW : WS pl r) {h : Int} (hh : 0 ≤ h ∧ h < 6) (kk : Q (aOwned r h) mem) : Ci X d 278 [(2, 261), (0, v), (0, h)] rf mem Q :=
  s_m_ownedBy hR (t_owned_5 hR hp hv hs hP hW hh 6 (by omega) (by omega) kk)
theorem t_isCellOf {D : Nat} {Q : Int → zF → Prop} {mem : zF} (hX : RX rf mem pl sc) (hP : WP pl) (hD : 2 ≤ D) {c : Int} (hc : 0 ≤ c ∧ c < 64) (k1 : zcellAt (pl 0 1) (pl 0 2) (c % 8) (c / 8) ≠ -1 → Q 1 mem) (k0 : zcellAt (pl 0 1) (pl 0 2) (c % 8) (c / 8) = -1 → Q 0 mem) : Ci X D 254 [(2, 261), (0, c)] rf mem Q := by
  obtain ⟨d, rfl⟩ : ∃ d, D = d + 1 := ⟨D - 1, by omega⟩
  refine s_m_isCellOf hX.1 ⟨by omega, fun q => absurd q (by omega), fun _ => ⟨by omega, by omega, ?_⟩⟩
  rw [tmod8 hc.1, tdiv8 hc.1]
  refine t_cell hX.1 (by omega) hX.2.1 hP (by omega) (by omega) (fun q => ?_) (fun q => ?_)
  · exact ⟨by decide, fun q => absurd q (by decide), fun _ => k1 q⟩
  · exact ⟨by decide, fun _ => k0 q, fun q => absurd rfl q⟩
theorem t_stand_39 {d : Nat} {Q : Int → zF → Prop} (hD : 7 ≤ d) (hP : PX pl sc) {h n w : Int} (hh : 0 ≤ h ∧ h < pl 1 1) (hn : 0 ≤ n ∧ n ≤ 1000 ∧ sc 0 0 + n ≤ 999) (hw : 0 ≤ w ∧ w ≤ 2) : ∀ (m : Nat) {x : Int} {mem : zF} {s : Int × Int}, RX rf mem pl sc → BB s → 0 ≤ x → x + m = 64 → (∀ mem', QR mem mem' → Q (if w = 2 then (aIt (aStand1 pl sc h n.toNat) x m s).2 else zpart (aIt (aStand1 pl sc h n.toNat) x m s).1 w) mem') → L_m_stand_39 X d rf Q mem h n w s.1 s.2 x
  | 0, x, mem, s, hX, hB, h0, hx, kk => by
    have := kk mem QR.rfl
    unfold aIt at this
    refine s_m_stand_39 hX.1 ⟨by omega, fun _ => ⟨by omega, fun q => ?_, fun q => ?_⟩, fun q => absurd q (by omega)⟩
    · rw [if_neg q] at this
      exact t_partOf hX.1 hB.1 (by omega) this
    · rwa [if_pos q] at this
  | m + 1, x, mem, s, hX, hB, h0, hx, kk => by
    have hN := hP.1.n
    have hcr := hP.1.cr
    unfold aIt at kk
    have skip : aStand1 pl sc h n.toNat x s = s → L_m_stand_39 X d rf Q mem h n w s.1 s.2 (x + 1) := by
      intro ea
      rw [ea] at kk
      exact t_stand_39 hD hP hh hn hw m hX hB (by omega) (by omega) kk
    have hic := zic_iff (C := pl 0 1) (R := pl 0 2) (c := x) (by omega) (by omega) (by omega)
    refine s_m_stand_39 hX.1 ⟨by omega, fun q => absurd q (by omega), fun _ => t_isCellOf hX hP.1 (by omega) (by omega) (fun c1 => ?_) (fun c1 => ?_)⟩
    · have g80 : (sc 1 h.toNat = x ∨ aHeirIn sc x = -1) → L_m_stand_80 X d rf Q mem h n w s.1 s.2 x := by
        intro hfr
        have ea : aStand1 pl sc h n.toNat x s = aBest x (aOwned (aRun pl n.toNat (zup sc 1 h.toNat x)) h) s := by
          unfold aStand1
          rw [if_pos ⟨c1, hfr⟩]
        rw [ea] at kk
        refine s_m_stand_80 hX.1 (t_copyT hX hP ?_)
        intro m1 g1 f1
        refine ⟨by omega, ?_⟩
        have hs2 : RV (zup m1 296 (6 + h).toNat x) 1 pl (zup sc 1 h.toNat x) := g1.up1 (by decide) hh.1 x
        have hF2 : RF 1 mem (zup m1 296 (6 + h).toNat x) := f1.up (by unfold zofv; omega)
        have hW2 := hP.2.2.1.s1 (b := h) (by omega) hh.2 (hic.mp c1)
        refine t_run hX.1 hD hP.1 hP.2.1 (by omega) (hF2.rp hX.2.1) hs2 hW2 (by rw [zup_row _ _ _ (by decide)]; omega) ?_
        intro m3 g3 f3
        have hW3 := WS.run hP.1 n.toNat hW2 (by rw [zup_row _ _ _ (by decide)]; omega)
        have hq3 := hF2.qr.trans f3.qr
        have hX3 := hX.q hP hq3
        have how := aOwned_rng (aRun pl n.toNat (zup sc 1 h.toNat x)) h
        have hB2 := hB.2
        have hBn := hB.best (c := x) (w := aOwned (aRun pl n.toNat (zup sc 1 h.toNat x)) h) (by omega) (by omega)
        refine t_owned hX.1 hX3.2.1 (by decide) g3 hP.1 hW3 (by omega) ⟨by omega, fun q => ?_, fun q => ?_⟩
        · refine t_owned hX.1 hX3.2.1 (by decide) g3 hP.1 hW3 (by omega) ?_
          have eb : aBest x (aOwned (aRun pl n.toNat (zup sc 1 h.toNat x)) h) s = (x, aOwned (aRun pl n.toNat (zup sc 1 h.toNat x)) h) := by unfold aBest; rw [if_pos q]
          rw [eb] at kk hBn
          exact t_stand_39 hD hP hh hn hw m (s := (x, aOwned (aRun pl n.toNat (zup sc 1 h.toNat x)) h)) hX3 hBn (by omega) (by omega) (fun m5 f5 => kk m5 (hq3.trans f5))
        · have eb : aBest x (aOwned (aRun pl n.toNat (zup sc 1 h.toNat x)) h) s = s := by unfold aBest; rw [if_neg q]
          rw [eb] at kk
          exact t_stand_39 hD hP hh hn hw m hX3 hB (by omega) (by omega) (fun m5 f5 => kk m5 (hq3.trans f5))
      have e1 : mem 296 h.toNat = sc 1 h.toNat := by
        have := hX.2.2.2.1 h hh.1 hh.2
        have e0 : (6 * 0 + h).toNat = h.toNat := by omega
        rwa [e0] at this
      have hhI := hP.2.2.1.heirI (k := h) (by omega)
      have hhr := aHeirIn_rng pl sc hP.2.2.1 x
      refine ⟨by decide, fun q => absurd q (by decide), fun _ => t_heirIn hX.1 hX.2.1 hP.1 hP.2.2.1 (by decide) hX.2.2 (by omega) (by omega) ⟨by omega, fun q => g80 (Or.inr q), fun q => ⟨by omega, ?_⟩⟩⟩
      rw [e1]
      refine ⟨by omega, fun q2 => g80 (Or.inl q2), fun q2 => skip ?_⟩
      unfold aStand1
      rw [if_neg (fun c => by omega)]
    · refine ⟨by decide, fun _ => skip ?_, fun q => absurd rfl q⟩
      unfold aStand1
      rw [if_neg (fun c => c.1 c1)]
theorem t_stand {D : Nat} {Q : Int → zF → Prop} {mem : zF} (hX : RX rf mem pl sc) (hP : PX pl sc) (hD : 8 ≤ D) {h n w : Int} (hh : inI h) (hn : inI n) (hw : inI w) (kk : ∀ mem', QR mem mem' → Q (aStand pl sc h n w) mem') : Ci X D 289 [(2, 261), (0, h), (0, n), (0, w)] rf mem Q := by
  obtain ⟨d, rfl⟩ : ∃ d, D = d + 1 := ⟨D - 1, by omega⟩
  have hN := hP.1.n
  have hc0 := hP.1.c0
  unfold aStand at kk
  refine s_m_stand hX.1 (t_isHeir hX hP.1 hh (fun q1 => ?_) (fun q1 => ?_))
  · refine ⟨by decide, fun q => absurd q (by decide), fun _ => t_isAhead hX hP (by omega) hn (by decide) (by decide) (fun hc => ?_) (fun hc => ?_) (by decide)⟩
    · have hc2 := hc.2
      unfold zcan at hc2
      refine ⟨by decide, fun q => absurd q (by decide), fun _ => t_is hX.1 hw (by decide) (by decide) ?_⟩
      by_cases hw2 : 0 ≤ w ∧ w ≤ 2
      · rw [if_pos hw2]
        rw [if_pos ⟨q1, hc2, hw2⟩] at kk
        exact ⟨by decide, fun _ => t_stand_39 (s := (-1, -1)) (by omega) hP q1 (by omega) hw2 64 hX ⟨by decide, by decide⟩ (by omega) (by omega) kk, fun q => absurd q (by decide)⟩
      · rw [if_neg hw2]
        refine ⟨by decide, fun q => absurd rfl q, fun _ => ?_⟩
        have := kk mem QR.rfl
        rwa [if_neg (fun c => hw2 c.2.2)] at this
    · refine ⟨by decide, fun _ => ?_, fun q => absurd rfl q⟩
      have := kk mem QR.rfl
      rwa [if_neg (fun c => hc ⟨by omega, c.2.1⟩)] at this
  · refine ⟨by decide, fun _ => ?_, fun q => absurd rfl q⟩
    have := kk mem QR.rfl
    rwa [if_neg (fun c => q1 c.1)] at this
theorem t_shine_74 {d : Nat} {Q : Int → zF → Prop} {mem r : zF} (hX : RX rf mem pl sc) (hP : WP pl) (hs : RV mem 1 pl r) (hW : WS pl r) {n w c1 c2 x : Int} (h4 : inI c2) : ∀ (m : Nat) {y t : Int}, 0 ≤ y → y + m = 6 → (0 ≤ t ∧ t ≤ 999 * y) → ((c2 < aIt (aRents1 r) y m t → L_m_shine_30 X d rf Q mem n w x (aIt (aRents1 r) y m t) (x + 1)) ∧ (¬ c2 < aIt (aRents1 r) y m t → L_m_shine_30 X d rf Q mem n w c1 c2 (x + 1))) → L_m_shine_74 X d rf Q mem n w c1 c2 x t y
  | m, y, t, h0, hy, ht, kk => by
    have hN := hP.n
    refine s_m_shine_74 hX.1 ⟨hX.2.1.bank, ?_⟩
    rw [hX.2.1.n.2.2.1]
    refine ⟨by omega, fun q => ⟨by omega, ?_⟩, fun q => ⟨by omega, ?_⟩⟩
    · rw [aIt_stayI] at kk
      · exact kk
      · intro k k1 k2
        have := (hW.rent (k := k) (by omega)).2 (by omega)
        unfold aRents1
        omega
    · obtain ⟨m1, rfl⟩ : ∃ m1, m = m1 + 1 := ⟨m - 1, by omega⟩
      have e7 : mem 302 (6 + y).toNat = r 7 y.toNat := hs.b 7 (by decide) (by decide) h0 (by omega)
      have hr := (hW.rent (k := y) (by omega)).1
      rw [e7]
      exact t_shine_74 hX hP hs hW h4 m1 (by omega) (by omega) (by omega) kk
theorem t_shine_30 {d : Nat} {Q : Int → zF → Prop} (hD : 7 ≤ d) (hP : PX pl sc) {n w : Int} (hn : 0 ≤ n ∧ n ≤ 1000 ∧ sc 0 0 + n ≤ 999) (hw : 0 ≤ w ∧ w ≤ 2) : ∀ (m : Nat) {x : Int} {mem : zF} {s : Int × Int}, RX rf mem pl sc → BB s → 0 ≤ x → x + m = 64 → (∀ mem', QR mem mem' → Q (if w = 2 then (aIt (aShine1 pl sc n.toNat) x m s).2 else zpart (aIt (aShine1 pl sc n.toNat) x m s).1 w) mem') → L_m_shine_30 X d rf Q mem n w s.1 s.2 x
  | 0, x, mem, s, hX, hB, h0, hx, kk => by
    have := kk mem QR.rfl
    unfold aIt at this
    refine s_m_shine_30 hX.1 ⟨by omega, fun _ => ⟨by omega, fun q => ?_, fun q => ?_⟩, fun q => absurd q (by omega)⟩
    · rw [if_neg q] at this
      exact t_partOf hX.1 hB.1 (by omega) this
    · rwa [if_pos q] at this
  | m + 1, x, mem, s, hX, hB, h0, hx, kk => by
    have hcr := hP.1.cr
    unfold aIt at kk
    have hic := zic_iff (C := pl 0 1) (R := pl 0 2) (c := x) (by omega) (by omega) (by omega)
    refine s_m_shine_30 hX.1 ⟨by omega, fun q => absurd q (by omega), fun _ => t_isCellOf hX hP.1 (by omega) (by omega) (fun c1 => ?_) (fun c1 => ?_)⟩
    · have ea : aShine1 pl sc n.toNat x s = aBest x (aRents (aRun pl n.toNat (zup sc 0 1 x))) s := by
        unfold aShine1
        rw [if_pos c1]
      rw [ea] at kk
      refine ⟨by decide, fun _ => t_copyT hX hP ?_, fun q => absurd q (by decide)⟩
      intro m1 g1 f1
      have hs2 : RV (zup m1 294 1 x) 1 pl (zup sc 0 1 x) := g1.up0 294 1 (Or.inr (Or.inl ⟨rfl, rfl⟩)) _
      have hF2 : RF 1 mem (zup m1 294 1 x) := f1.up (by unfold zofv; omega)
      have hW2 := hP.2.2.1.s01 (Or.inr (hic.mp c1))
      refine t_run hX.1 hD hP.1 hP.2.1 (by omega) (hF2.rp hX.2.1) hs2 hW2 (by rw [zup_ne _ _ _ _ (by decide)]; omega) ?_
      intro m3 g3 f3
      have hW3 := WS.run hP.1 n.toNat hW2 (by rw [zup_ne _ _ _ _ (by decide)]; omega)
      have hq3 := hF2.qr.trans f3.qr
      have hX3 := hX.q hP hq3
      have how := aRents_rng hW3
      have hB2 := hB.2
      have hBn := hB.best (c := x) (w := aRents (aRun pl n.toNat (zup sc 0 1 x))) (by omega) (by omega)
      refine t_shine_74 hX3 hP.1 g3 hW3 (by omega) 6 (by omega) (by omega) (by decide) ⟨fun q => ?_, fun q => ?_⟩
      · have eb : aBest x (aRents (aRun pl n.toNat (zup sc 0 1 x))) s = (x, aRents (aRun pl n.toNat (zup sc 0 1 x))) := if_pos q
        rw [eb] at kk hBn
        exact t_shine_30 hD hP hn hw m (s := (x, aRents (aRun pl n.toNat (zup sc 0 1 x)))) hX3 hBn (by omega) (by omega) (fun m5 f5 => kk m5 (hq3.trans f5))
      · have eb : aBest x (aRents (aRun pl n.toNat (zup sc 0 1 x))) s = s := if_neg q
        rw [eb] at kk
        exact t_shine_30 hD hP hn hw m hX3 hB (by omega) (by omega) (fun m5 f5 => kk m5 (hq3.trans f5))
    · have ea : aShine1 pl sc n.toNat x s = s := by
        unfold aShine1
        rw [if_neg (fun c => c c1)]
      rw [ea] at kk
      exact ⟨by decide, fun q => absurd rfl q, fun _ => t_shine_30 hD hP hn hw m hX hB (by omega) (by omega) kk⟩
theorem t_shine {D : Nat} {Q : Int → zF → Prop} {mem : zF} (hX : RX rf mem pl sc) (hP : PX pl sc) (hD : 8 ≤ D) {n w : Int} (hn : inI n) (hw : inI w) (kk : ∀ mem', QR mem mem' → Q (aShine pl sc n w) mem') : Ci X D 290 [(2, 261), (0, n), (0, w)] rf mem Q := by
  obtain ⟨d, rfl⟩ : ∃ d, D = d + 1 := ⟨D - 1, by omega⟩
  unfold aShine at kk
  refine s_m_shine hX.1 (t_isAhead hX hP (by omega) hn (by decide) (by decide) (fun hc => ?_) (fun hc => ?_) (by decide))
  · have hc2 := hc.2
    unfold zcan at hc2
    refine ⟨by decide, fun q => absurd q (by decide), fun _ => t_is hX.1 hw (by decide) (by decide) ?_⟩
    by_cases hw2 : 0 ≤ w ∧ w ≤ 2
    · rw [if_pos hw2]
      rw [if_pos ⟨hc.1, hc2, hw2⟩] at kk
      exact ⟨by decide, fun _ => t_shine_30 (s := (-1, -1)) (by omega) hP (by omega) hw2 64 hX ⟨by decide, by decide⟩ (by omega) (by omega) kk, fun q => absurd q (by decide)⟩
    · rw [if_neg hw2]
      refine ⟨by decide, fun q => absurd rfl q, fun _ => ?_⟩
      have := kk mem QR.rfl
      rwa [if_neg (fun c => hw2 c.2.2)] at this
  · refine ⟨by decide, fun _ => ?_, fun q => absurd rfl q⟩
    have := kk mem QR.rfl
    rwa [if_neg (fun c => hc ⟨c.1, c.2.1⟩)] at this
end RSTAND
