/-! the reference's ticks -/
section TICKS
variable {X : zX} {rf pl : zF}
theorem t_shines {D : Nat} {Q : zF → Prop} {mem sc : zF} (hR : zall rf zRK = true) (hD : 3 ≤ D) (hP : WP pl) (hrk : WR3 pl) {v b : Int} (hv : 0 ≤ v ∧ v < 22) (hb : 0 ≤ b ∧ b < pl 1 2) (hp : RP mem pl) (hs : RV mem v pl sc) (hW : WS pl sc) (hd : RD mem pl sc) (hdr : WD sc) (hf : sc 2 b.toNat ≠ -1) (kk : ∀ mem', RV mem' v pl (aRent b (aHue pl sc b) sc) → RF v mem mem' → Q mem') : Cv X D 267 [(2, 261), (0, v), (0, b)] rf mem Q := by
  obtain ⟨d, rfl⟩ : ∃ d, D = d + 1 := ⟨D - 1, by omega⟩
  have hn := hP.n
  have hfi := hW.film (k := b) (by omega)
  have hqr := aQ_rng hP hW (b := b) (by omega) (hdr b hb.1 (by omega))
  refine s_m_shines hR (t_laysV hR (by omega) hP hv hb hp hs hW hd hf ?_)
  intro m1 q1 f1
  have hF1 : RF v mem m1 := RF.rfl.sc (Or.inr rfl) f1
  have hp1 := hF1.rp hp
  have hs1 : RV m1 v pl sc := hs.fr (fun a a1 a2 => f1 a (by omega))
  refine t_isTold (r := 2) hR (by decide) hp1.rc hrk.2.2 (fun ht => ?_) (fun ht => ?_)
  · refine ⟨by decide, fun q => absurd q (by decide), fun _ => ?_⟩
    refine t_reckons (r := 2) hR (by omega) (by decide) hp1.rc hrk.2.2 ht q1 (fun j _ => hqr j) ?_
    intro m2 f2
    have hz := (zres_rng hrk.2.2 ht (q := aQ pl sc b) (fun j _ _ => hqr j)).1
    have hF2 : RF v mem m2 := hF1.sc (Or.inl rfl) f2
    refine t_cut hR (by omega) (by decide) (by decide) ?_
    refine t_shines_45 hR hP hv hb (by omega) 6 (by omega) (by omega) (hF2.rp hp) (hs1.fr (fun a a1 a2 => f2 a (by omega))) hW ?_
    intro m3 g3 f3
    refine kk m3 ?_ (hF2.trans f3)
    unfold aHue
    rw [if_neg ht]
    exact g3
  · refine ⟨by decide, fun _ => ⟨by omega, ?_⟩, fun q => absurd rfl q⟩
    have e3 : m1 298 (6 * v + b).toNat = sc 3 b.toNat := hs1.b 3 (by decide) (by decide) hb.1 hb.2
    rw [e3]
    refine ⟨by omega, ?_⟩
    have e10 : (sc 3 b.toNat).tdiv 10 = sc 3 b.toNat / 10 := Int.tdiv_eq_ediv_of_nonneg hfi.1
    rw [e10]
    refine t_shines_45 hR hP hv hb (by omega) 6 (by omega) (by omega) hp1 hs1 hW ?_
    intro m3 g3 f3
    refine kk m3 ?_ (hF1.trans f3)
    unfold aHue
    rw [if_pos ht]
    have e : max 0 (min 9 (sc 3 b.toNat / 10)) = sc 3 b.toNat / 10 := by omega
    rw [e]
    exact g3
/-- the rest of a bubble's second, once its film is thinned -/
theorem t_ticks_mid {d : Nat} {Q : Int → zF → Prop} (hR : zall rf zRK = true) (hD : 3 ≤ d) (hP : WP pl) (hrk : WR3 pl) {v b c : Int} (hv : 0 ≤ v ∧ v < 22) (hb : 0 ≤ b ∧ b < pl 1 2) {mem sc : zF} (hp : RP mem pl) (hs : RV mem v pl sc) (hW : WS pl sc) (hd : RD mem pl sc) (hdr : WD sc) (hf : sc 2 b.toNat ≠ -1) (kk : ∀ mem', RV mem' v pl (aThin2 pl b sc).2 → RF v mem mem' → L_m_ticks_16 X d rf Q mem' v (c + (aThin2 pl b sc).1) (b + 1)) : Cv X d 263 [(2, 261), (0, v), (0, b)] rf mem (fun mem15 => (0 ≤ ((6 * v) + b) ∧ ((6 * v) + b) < 132) ∧ ((inI (mem15 298 (((6 * v) + b)).toNat)) ∧ (((mem15 298 (((6 * v) + b)).toNat) = 0 → L_m_ticks_138 X d rf Q mem15 v c b) ∧ (¬ (mem15 298 (((6 * v) + b)).toNat) = 0 → Ci X d 251 [(2, 261), (0, 1)] rf mem15 (fun r17 mem18 => (inI r17) ∧ ((r17 = 0 → L_m_ticks_151 X d rf Q mem18 v c b) ∧ (¬ r17 = 0 → Cl X d 250 [(2, 261), (0, 1)] rf mem18 (fun r20 mem21 => (inL r20 ∧ inL 1) ∧ ((inI (if r20 < 1 then -1 else if r20 = 1 then 0 else 1)) ∧ ((¬ (if r20 < 1 then -1 else if r20 = 1 then 0 else 1) = 0 → L_m_ticks_151 X d rf Q mem21 v c b) ∧ ((if r20 < 1 then -1 else if r20 = 1 then 0 else 1) = 0 → L_m_ticks_138 X d rf Q mem21 v c b))))))))))) := by
  have hn := hP.n
  have hfi := hW.film (k := b) (by omega)
  have hqr := aQ_rng hP hW (b := b) (by omega) (hdr b hb.1 (by omega))
  refine t_laysV hR (by omega) hP hv hb hp hs hW hd hf ?_
  intro m1 q1 f1
  have hF1 : RF v mem m1 := RF.rfl.sc (Or.inr rfl) f1
  have hp1 := hF1.rp hp
  have hs1 : RV m1 v pl sc := hs.fr (fun a a1 a2 => f1 a (by omega))
  have e3 : m1 298 (6 * v + b).toNat = sc 3 b.toNat := hs1.b 3 (by decide) (by decide) hb.1 hb.2
  rw [e3]
  have bu : (sc 3 b.toNat = 0 ∨ (pl 11 1 ≠ -1 ∧ zres pl 1 (aQ pl sc b) = 1)) → ∀ m2, RP m2 pl → RV m2 v pl sc → RF v mem m2 → L_m_ticks_138 X d rf Q m2 v c b := by
    intro hc m2 p2 s2 f2
    unfold aThin2 at kk
    rw [if_pos hc] at kk
    refine s_m_ticks_138 hR (t_burst hR (by omega) hP hv hb p2 s2 hW hf ?_)
    intro m3 g3 f3
    exact kk m3 g3 (f2.trans f3)
  have sh : ¬ (sc 3 b.toNat = 0 ∨ (pl 11 1 ≠ -1 ∧ zres pl 1 (aQ pl sc b) = 1)) → ∀ m2, RP m2 pl → RV m2 v pl sc → RF v mem m2 → L_m_ticks_151 X d rf Q m2 v c b := by
    intro hc m2 p2 s2 f2
    unfold aThin2 at kk
    rw [if_neg hc] at kk
    have e2 : m2 297 (6 * v + b).toNat = sc 2 b.toNat := s2.b 2 (by decide) (by decide) hb.1 hb.2
    have hbI := hW.bubI (k := b) (by omega)
    have hlI := hW.lampI
    refine s_m_ticks_151 hR ⟨by omega, hv, ?_⟩
    rw [e2, s2.1.2.1]
    refine ⟨by omega, fun q => ?_, fun q => ?_⟩
    · rw [if_neg q] at kk
      have := kk m2 s2 f2
      rwa [show c + ((0 : Int), sc).1 = c from Int.add_zero c] at this
    · rw [if_pos q] at kk
      have hd2 : RD m2 pl sc := by
        unfold RD
        rw [f2.row (by decide)]
        exact hd
      refine t_shines hR hD hP hrk hv hb p2 s2 hW hd2 hdr hf ?_
      intro m3 g3 f3
      have := kk m3 g3 (f2.trans f3)
      rwa [show c + ((0 : Int), aRent b (aHue pl sc b) sc).1 = c from Int.add_zero c] at this
  refine ⟨by omega, by omega, fun q => bu (Or.inl q) m1 hp1 hs1 hF1, fun q => ?_⟩
  refine t_isTold (r := 1) hR (by decide) hp1.rc hrk.2.1 (fun ht => ?_) (fun ht => ?_)
  · refine ⟨by decide, fun q => absurd q (by decide), fun _ => ?_⟩
    refine t_reckons (r := 1) hR (by omega) (by decide) hp1.rc hrk.2.1 ht q1 (fun j _ => hqr j) ?_
    intro m2 f2
    have hz := (zres_rng hrk.2.1 ht (q := aQ pl sc b) (fun j _ _ => hqr j)).1
    have hF2 : RF v mem m2 := hF1.sc (Or.inl rfl) f2
    have hs2 : RV m2 v pl sc := hs1.fr (fun a a1 a2 => f2 a (by omega))
    refine ⟨⟨by omega, by decide⟩, zcmpi _ _, fun q2 => ?_, fun q2 => ?_⟩
    · rw [zcmp0] at q2
      refine sh ?_ m2 (hF2.rp hp) hs2 hF2
      rintro (q3 | q3)
      · exact q q3
      · exact q2 q3.2
    · rw [zcmp0] at q2
      exact bu (Or.inr ⟨ht, q2⟩) m2 (hF2.rp hp) hs2 hF2
  · refine ⟨by decide, fun _ => sh ?_ m1 hp1 hs1 hF1, fun q => absurd rfl q⟩
    rintro (q3 | q3)
    · exact q q3
    · exact q3.1 ht
theorem t_ticks_16 {d : Nat} {Q : Int → zF → Prop} (hR : zall rf zRK = true) (hD : 3 ≤ d) (hP : WP pl) (hrk : WR3 pl) {v : Int} (hv : 0 ≤ v ∧ v < 22) : ∀ (n : Nat) {x c : Int} {mem sc : zF}, 0 ≤ x → x + n = 6 → RP mem pl → RV mem v pl sc → RD mem pl sc → WS pl sc → WD sc → (∀ mem', RV mem' v pl (aTick (aIt (aThinS pl) x n (c, sc)).2) → RF v mem mem' → Q (aIt (aThinS pl) x n (c, sc)).1 mem') → L_m_ticks_16 X d rf Q mem v c x
  | n, x, c, mem, sc, h0, hx, hp, hs, hd, hW, hdr, kk => by
    have hn := hP.n
    refine s_m_ticks_16 hR ⟨hp.bank, ?_⟩
    rw [hp.n.2.2.1]
    refine ⟨by omega, fun q => ⟨hv, hv, ?_⟩, fun q => ?_⟩
    · rw [aIt_stay] at kk
      · rw [hs.1.1]
        exact kk _ (hs.up0 293 0 (Or.inl ⟨rfl, rfl⟩) _) (RF.rfl.up (by unfold zofv; omega))
      · intro k k1 k2
        unfold aThinS aThin
        have := hW.bubN (k := k) (by omega) (by omega)
        simp only
        rw [if_pos this]
        simp
    · obtain ⟨m, rfl⟩ : ∃ m, n = m + 1 := ⟨n - 1, by omega⟩
      unfold aIt at kk
      have ea : aThinS pl x (c, sc) = (c + (aThin pl x sc).1, (aThin pl x sc).2) := rfl
      rw [ea] at kk
      have hW2 := hW.thin hP (b := x) (by omega)
      have e9 : (aThin pl x sc).2 9 = sc 9 := aThin_row (by omega)
      have nxt : ∀ m1, RV m1 v pl (aThin pl x sc).2 → RF v mem m1 → L_m_ticks_16 X d rf Q m1 v (c + (aThin pl x sc).1) (x + 1) := by
        intro m1 g1 f1
        have hd1 : RD m1 pl (aThin pl x sc).2 := by
          unfold RD
          rw [f1.row (by decide), e9]
          exact hd
        refine t_ticks_16 hR hD hP hrk hv m (by omega) (by omega) (f1.rp hp) g1 hd1 hW2 (hdr.row e9) ?_
        intro m2 g2 f2
        exact kk m2 g2 (f1.trans f2)
      refine t_floatsV hR hP hW hv hs ⟨h0, by omega⟩ (fun q1 => ?_) (fun q1 => ?_)
      · refine ⟨by decide, fun _ => ?_, fun q => absurd q (by decide)⟩
        have et : aThin pl x sc = aThin2 pl x (zup sc 3 x.toNat (aFilm pl sc x)) := by unfold aThin; rw [if_neg q1]
        have hqr := aQ_rng hP hW (b := x) (by omega) (hdr x h0 (by omega))
        have hfi := hW.film (k := x) (by omega)
        refine t_laysV hR (by omega) hP hv (by omega) hp hs hW hd q1 ?_
        intro m1 q2 f1
        have hF1 : RF v mem m1 := RF.rfl.sc (Or.inr rfl) f1
        have hp1 := hF1.rp hp
        have hs1 : RV m1 v pl sc := hs.fr (fun a a1 a2 => f1 a (by omega))
        have e3 : m1 298 (6 * v + x).toNat = sc 3 x.toNat := hs1.b 3 (by decide) (by decide) h0 (by omega)
        rw [e3]
        have g91 : ∀ (less : Int) (m2 : zF), less = aLess pl sc x → (-1000000 ≤ less ∧ less ≤ 1000000) → RV m2 v pl sc → RF v mem m2 → L_m_ticks_91 X d rf Q m2 v c x (6 * v + x) (sc 3 x.toNat) less := by
          intro less m2 hl hlr hs2 hF2
          refine s_m_ticks_91 hR (t_cut hR (by omega) (by decide) (by decide) ⟨by omega, ?_⟩)
          have ef : max 0 (min 99 (sc 3 x.toNat - less)) = aFilm pl sc x := by rw [hl]; rfl
          rw [ef]
          have hF3 : RF v mem (zup m2 298 (6 * v + x).toNat (aFilm pl sc x)) := hF2.up (by unfold zofv; omega)
          have hW3 := hW.s3 (b := x) (by omega) q1 (aFilm_rng pl sc x)
          refine t_ticks_mid hR hD hP hrk hv ⟨h0, by omega⟩ (hF3.rp hp) (hs2.up hv.1 3 (by decide) (by decide) h0 (aFilm pl sc x)) hW3 ?_ (hdr.row (zup_row _ _ _ (by decide))) (by rw [zup_row _ _ _ (by decide)]; exact q1) ?_
          · unfold RD
            rw [hF3.row (by decide), zup_row _ _ _ (by decide)]
            exact hd
          · rw [← et]
            intro m4 g4 f4
            exact nxt m4 g4 (hF3.trans f4)
        refine ⟨by omega, by omega, t_isTold (r := 0) hR (by decide) hp1.rc hrk.1 (fun ht => ?_) (fun ht => ?_)⟩
        · refine ⟨by decide, fun q => absurd q (by decide), fun _ => ?_⟩
          refine t_reckons (r := 0) hR (by omega) (by decide) hp1.rc hrk.1 ht q2 (fun j _ => hqr j) ?_
          intro m2 f2
          have hz := (zres_rng hrk.1 ht (q := aQ pl sc x) (fun j _ _ => hqr j)).1
          refine g91 _ m2 ?_ hz (hs1.fr (fun a a1 a2 => f2 a (by omega))) (hF1.sc (Or.inl rfl) f2)
          unfold aLess
          rw [if_neg ht]
        · refine ⟨by decide, fun _ => g91 1 m1 ?_ (by decide) hs1 hF1, fun q => absurd rfl q⟩
          unfold aLess
          rw [if_pos ht]
      · refine ⟨by decide, fun q => absurd rfl q, fun _ => ?_⟩
        have et : aThin pl x sc = (0, sc) := by unfold aThin; rw [if_pos q1]
        rw [et] at nxt
        have := nxt mem hs RF.rfl
        rwa [show c + ((0 : Int), sc).1 = c from Int.add_zero c] at this
theorem t_ticks {D : Nat} {Q : Int → zF → Prop} (hR : zall rf zRK = true) (hD : 6 ≤ D) (hP : WP pl) (hrk : WR3 pl) {v br : Int} (hv : 0 ≤ v ∧ v < 22) (hbr : -1 ≤ br ∧ br < 4) {mem sc : zF} (hp : RP mem pl) (hs : RV mem v pl sc) (hW : WS pl sc) (kk : ∀ mem', RV mem' v pl (aPass pl (zwind pl (sc 0 2)) br sc).2 → R7 v mem mem' → Q (aPass pl (zwind pl (sc 0 2)) br sc).1 mem') : Ci X D 268 [(2, 261), (0, v), (0, br)] rf mem Q := by
  obtain ⟨d, rfl⟩ : ∃ d, D = d + 1 := ⟨D - 1, by omega⟩
  obtain ⟨d, rfl⟩ : ∃ e, d = e + 1 := ⟨d - 1, by omega⟩
  have hn := hP.n
  refine s_m_ticks hR (s_m_drifts hR (t_drifts_2 (op := sc 0 2) hR (by omega) hP hv hbr 6 (by omega) (by omega) hp hs hW rfl (fun k k1 k2 => by omega) ?_))
  intro m1 g1 g2 f1
  have hW1 := hW.drifts hP (zwind pl (sc 0 2)) br
  refine s_m_joinsAll hR (t_joins_2 hR hP hv 6 (by omega) (by omega) (f1.rp hp) g1 hW1 ?_)
  intro m2 g3 f2
  have e9 : aJoins (aDrifts pl (zwind pl (sc 0 2)) br sc) 9 = aDrifts pl (zwind pl (sc 0 2)) br sc 9 := aJoins_row (by omega)
  have hd2 : RD m2 pl (aJoins (aDrifts pl (zwind pl (sc 0 2)) br sc)) := by
    unfold RD
    rw [f2.row (by decide), e9]
    exact g2
  refine t_ticks_16 hR (by omega) hP hrk hv 6 (by omega) (by omega) ((f1.trans f2.r7).rp hp) g3 hd2 hW1.joins (WD.drifts.row e9) ?_
  intro m3 g4 f3
  exact kk m3 g4 ((f1.trans f2.r7).trans f3.r7)
end TICKS
