/-! the reference's second -/
section TICK
variable {X : zX} {rf pl : zF}
theorem t_goesOut {d : Nat} {Q : zF → Prop} {mem sc : zF} (hR : zall rf zRK = true) {v b : Int} (hv : 0 ≤ v ∧ v < 22) (hb : 0 ≤ b ∧ b < 6) (hs : RV mem v pl sc) (kk : ∀ mem', RV mem' v pl (aClear b sc) → RF v mem mem' → Q mem') : Cv X d 261 [(2, 261), (0, v), (0, b)] rf mem Q := by
  refine s_m_goesOut hR ⟨by omega, by omega, by omega, by omega, kk _ ((((hs.up hv.1 2 (by decide) (by decide) hb.1 _).up hv.1 3 (by decide) (by decide) hb.1 _).up hv.1 4 (by decide) (by decide) hb.1 _).up hv.1 5 (by decide) (by decide) hb.1 _) ?_⟩
  exact (((RF.rfl.up (by unfold zofv; omega)).up (by unfold zofv; omega)).up (by unfold zofv; omega)).up (by unfold zofv; omega)
theorem t_joins_19 {d : Nat} {Q : zF → Prop} (hR : zall rf zRK = true) (hP : WP pl) {v b : Int} (hv : 0 ≤ v ∧ v < 22) (hb : 0 ≤ b ∧ b < pl 1 2) : ∀ (n : Nat) {x : Int} {mem sc : zF}, b < x → x + n = 6 → RP mem pl → RV mem v pl sc → WS pl sc → (∀ mem', RV mem' v pl (aIt (aJoin1 b) x n sc) → RF v mem mem' → L_m_joinsAll_2 X d rf Q mem' v (b + 1)) → L_m_joinsAll_19 X d rf Q mem v b x
  | n, x, mem, sc, h0, hx, hp, hs, hW, kk => by
    have hn := hP.n
    refine s_m_joinsAll_19 hR ⟨hp.bank, ?_⟩
    rw [hp.n.2.2.1]
    refine ⟨by omega, fun q => ?_, fun q => ?_⟩
    · rw [aIt_stay] at kk
      · exact kk mem hs RF.rfl
      · intro k k1 k2
        unfold aJoin1
        rw [if_neg]
        rintro ⟨q1, q2⟩
        rw [hW.bubN (k := k) (by omega) (by omega)] at q2
        exact q1 q2.symm
    · obtain ⟨m, rfl⟩ : ∃ m, n = m + 1 := ⟨n - 1, by omega⟩
      refine t_floatsV hR hP hW hv hs hb (fun q1 => ?_) (fun q1 => ?_)
      · have e1 : mem 297 (6 * v + x).toNat = sc 2 x.toNat := hs.b 2 (by decide) (by decide) (by omega) (by omega)
        have e2 : mem 297 (6 * v + b).toNat = sc 2 b.toNat := hs.b 2 (by decide) (by decide) hb.1 hb.2
        have hbI := hW.bubI (k := b) (by omega)
        have hxI := hW.bubI (k := x) (by omega)
        unfold aIt at kk
        refine ⟨by decide, fun q => absurd q (by decide), fun _ => ⟨by omega, by omega, ?_⟩⟩
        rw [e1, e2]
        refine ⟨by omega, fun q2 => ⟨by omega, by omega, by omega, by omega, by omega, ?_⟩, fun q2 => ?_⟩
        · have d1 : mem 300 (6 * v + b).toNat = sc 5 b.toNat := hs.b 5 (by decide) (by decide) hb.1 hb.2
          have d2 : mem 300 (6 * v + x).toNat = sc 5 x.toNat := hs.b 5 (by decide) (by decide) (by omega) (by omega)
          have z1 : mem 299 (6 * v + b).toNat = sc 4 b.toNat := hs.b 4 (by decide) (by decide) hb.1 hb.2
          have z2 : mem 299 (6 * v + x).toNat = sc 4 x.toNat := hs.b 4 (by decide) (by decide) (by omega) (by omega)
          have s1 := hW.size (k := b) (by omega)
          have s2 := hW.size (k := x) (by omega)
          have f1 := hW.film (k := b) (by omega)
          have f2 := hW.film (k := x) (by omega)
          rw [d1, d2, z1, z2]
          refine ⟨by omega, t_cut hR (by omega) (by decide) (by decide) ⟨by omega, by omega, by omega, ?_⟩⟩
          have g1 : (zup mem 300 (6 * v + b).toNat (zor (sc 5 b.toNat) (sc 5 x.toNat))) 298 (6 * v + x).toNat = sc 3 x.toNat := by
            rw [zup_row _ _ _ (by decide)]
            exact hs.b 3 (by decide) (by decide) (by omega) (by omega)
          have g2 : (zup mem 300 (6 * v + b).toNat (zor (sc 5 b.toNat) (sc 5 x.toNat))) 298 (6 * v + b).toNat = sc 3 b.toNat := by
            rw [zup_row _ _ _ (by decide)]
            exact hs.b 3 (by decide) (by decide) hb.1 hb.2
          have ez : max 0 (min 9 (sc 4 b.toNat + sc 4 x.toNat)) = min 9 (sc 4 b.toNat + sc 4 x.toNat) := by omega
          rw [g1, g2, ez]
          have ej : aJoin1 b x sc = aTwo b x sc := by unfold aJoin1; rw [if_pos ⟨q1, q2⟩]
          have hW2 := hW.join1 (b := b) (o := x) (by omega) (by omega) (by omega)
          rw [ej] at kk hW2
          have hs2 : RV (zup (zup mem 300 (6 * v + b).toNat (zor (sc 5 b.toNat) (sc 5 x.toNat))) 299 (6 * v + b).toNat (min 9 (sc 4 b.toNat + sc 4 x.toNat))) v pl (zup (zup sc 5 b.toNat (zor (sc 5 b.toNat) (sc 5 x.toNat))) 4 b.toNat (min 9 (sc 4 b.toNat + sc 4 x.toNat))) := (hs.up hv.1 5 (by decide) (by decide) hb.1 _).up hv.1 4 (by decide) (by decide) hb.1 _
          have hF2 : RF v mem (zup (zup mem 300 (6 * v + b).toNat (zor (sc 5 b.toNat) (sc 5 x.toNat))) 299 (6 * v + b).toNat (min 9 (sc 4 b.toNat + sc 4 x.toNat))) := (RF.rfl.up (by unfold zofv; omega)).up (by unfold zofv; omega)
          have fin : ∀ (m3 s3 : zF), RV m3 v pl s3 → RF v mem m3 → s3 = zup (zup (zup sc 3 b.toNat (max (sc 3 b.toNat) (sc 3 x.toNat))) 4 b.toNat (min 9 (sc 4 b.toNat + sc 4 x.toNat))) 5 b.toNat (zor (sc 5 b.toNat) (sc 5 x.toNat)) → Cv X d 261 [(2, 261), (0, v), (0, x)] rf m3 (fun mem10 => L_m_joinsAll_19 X d rf Q mem10 v b (x + 1)) := by
            intro m3 s3 r1 r2 r3
            refine t_goesOut hR hv (by omega) r1 ?_
            intro m4 r4 r5
            rw [r3] at r4
            refine t_joins_19 hR hP hv hb m (by omega) (by omega) ((r2.trans r5).rp hp) r4 hW2 ?_
            intro m5 r6 r7
            exact kk m5 r6 ((r2.trans r5).trans r7)
          refine ⟨by omega, fun q3 => fin _ _ hs2 hF2 ?_, fun q3 => ⟨by omega, by omega, fin _ _ (hs2.up hv.1 3 (by decide) (by decide) hb.1 _) (hF2.up (by unfold zofv; omega)) ?_⟩⟩
          · have em : max (sc 3 b.toNat) (sc 3 x.toNat) = sc 3 b.toNat := by omega
            rw [em, zup_id (f := sc) (Eq.refl (sc 3 b.toNat)), zup_comm (by decide)]
          · have em : max (sc 3 b.toNat) (sc 3 x.toNat) = sc 3 x.toNat := by omega
            rw [em, zup_comm (show (4 : Nat) ≠ 3 by decide), zup_comm (show (5 : Nat) ≠ 3 by decide), zup_comm (show (5 : Nat) ≠ 4 by decide)]
        · have ej : aJoin1 b x sc = sc := by unfold aJoin1; rw [if_neg (fun q3 => q2 q3.2)]
          rw [ej] at kk
          exact t_joins_19 hR hP hv hb m (by omega) (by omega) hp hs hW kk
      · refine ⟨by decide, fun _ => ?_, fun q => absurd rfl q⟩
        rw [aIt_stay] at kk
        · exact kk mem hs RF.rfl
        · intro k k1 k2
          unfold aJoin1
          rw [if_neg (fun q3 => q3.1 q1)]
theorem t_joins_2 {d : Nat} {Q : zF → Prop} (hR : zall rf zRK = true) (hP : WP pl) {v : Int} (hv : 0 ≤ v ∧ v < 22) : ∀ (n : Nat) {x : Int} {mem sc : zF}, 0 ≤ x → x + n = 6 → RP mem pl → RV mem v pl sc → WS pl sc → (∀ mem', RV mem' v pl (aIt aJoin x n sc) → RF v mem mem' → Q mem') → L_m_joinsAll_2 X d rf Q mem v x
  | n, x, mem, sc, h0, hx, hp, hs, hW, kk => by
    have hn := hP.n
    refine s_m_joinsAll_2 hR ⟨hp.bank, ?_⟩
    rw [hp.n.2.2.1]
    refine ⟨by omega, fun q => ?_, fun q => ?_⟩
    · rw [aIt_stay] at kk
      · exact kk mem hs RF.rfl
      · intro k k1 k2
        unfold aJoin
        refine aIt_stay _ _ (fun j j1 j2 => ?_)
        unfold aJoin1
        rw [if_neg (fun q1 => q1.1 (hW.bubN (by omega) (by omega)))]
    · obtain ⟨m, rfl⟩ : ∃ m, n = m + 1 := ⟨n - 1, by omega⟩
      unfold aIt at kk
      refine t_joins_19 hR hP hv (by omega) (5 - x).toNat (by omega) (by omega) hp hs hW ?_
      intro m1 g1 g2
      have hW2 : WS pl (aJoin x sc) := by
        unfold aJoin
        refine aIt_inv (f := aJoin1 x) (I := fun _ s => WS pl s) (lo := x + 1) (m := 6) ?_ _ _ sc (by omega) (by omega) hW
        intro o s o1 o2 hs
        exact hs.join1 (by omega) ⟨by omega, o2⟩ (by omega)
      refine t_joins_2 hR hP hv m (by omega) (by omega) (g2.rp hp) g1 hW2 ?_
      intro m2 g3 g4
      exact kk m2 g3 (g2.trans g4)
theorem t_laysV {D : Nat} {Q : zF → Prop} {mem sc : zF} (hR : zall rf zRK = true) (hD : 1 ≤ D) (hP : WP pl) {v b : Int} (hv : 0 ≤ v ∧ v < 22) (hb : 0 ≤ b ∧ b < pl 1 2) (hp : RP mem pl) (hs : RV mem v pl sc) (hW : WS pl sc) (hd : RD mem pl sc) (hf : sc 2 b.toNat ≠ -1) (kk : ∀ mem', (∀ j : Nat, j < 6 → mem' 306 (j + 1) = aQ pl sc b j) → (∀ i, i ≠ 306 → mem' i = mem i) → Q mem') : Cv X D 263 [(2, 261), (0, v), (0, b)] rf mem Q := by
  obtain ⟨d, rfl⟩ : ∃ d, D = d + 1 := ⟨D - 1, by omega⟩
  have hn := hP.n
  have hbk := hp.bank
  have hbI := hW.bubI (k := b) (by omega)
  have e2 : mem 297 (6 * v + b).toNat = sc 2 b.toNat := hs.b 2 (by decide) (by decide) hb.1 hb.2
  have e3 : mem 298 (6 * v + b).toNat = sc 3 b.toNat := hs.b 3 (by decide) (by decide) hb.1 hb.2
  have e4 : mem 299 (6 * v + b).toNat = sc 4 b.toNat := hs.b 4 (by decide) (by decide) hb.1 hb.2
  have e5 : mem 300 (6 * v + b).toNat = sc 5 b.toNat := hs.b 5 (by decide) (by decide) hb.1 hb.2
  have hhr := aHeirIn_rng pl sc hW (sc 2 b.toNat)
  refine s_m_lays hR ⟨by omega, ?_⟩
  rw [e2]
  refine t_heirIn hR hp hP hW hv hs (by omega) hf ?_
  rw [e3, e4, hs.1.1, hd b hb.1 hb.2]
  have g : ∀ x, x = aTall pl sc b → L_m_lays_103 X d rf Q (zup (zup (zup (zup mem 306 1 (sc 3 b.toNat)) 306 2 (sc 4 b.toNat)) 306 3 (sc 0 0)) 306 4 (sc 9 b.toNat)) v b 5 x := by
    intro x hx
    refine s_m_lays_103 hR ⟨by decide, by omega, ?_⟩
    have e6 : (zup (zup (zup (zup mem 306 1 (sc 3 b.toNat)) 306 2 (sc 4 b.toNat)) 306 3 (sc 0 0)) 306 4 (sc 9 b.toNat)) 300 (6 * v + b).toNat = sc 5 b.toNat := by
      rw [zup_row _ _ _ (by decide), zup_row _ _ _ (by decide), zup_row _ _ _ (by decide), zup_row _ _ _ (by decide), e5]
    rw [e6]
    refine t_bits hR (hW.deeds (by omega)) (kk _ ?_ ?_)
    · intro j hj
      have e7 : ((5 : Int)).toNat = 5 := rfl
      rw [e7, hx]
      have : j = 0 ∨ j = 1 ∨ j = 2 ∨ j = 3 ∨ j = 4 ∨ j = 5 := by omega
      rcases this with rfl | rfl | rfl | rfl | rfl | rfl <;> simp [zup_get, aQ]
    · intro i hi
      rw [zup_row _ _ _ hi, zup_row _ _ _ hi, zup_row _ _ _ hi, zup_row _ _ _ hi, zup_row _ _ _ hi, zup_row _ _ _ hi]
  refine ⟨by omega, by omega, hv, by omega, by omega, fun q => ⟨by omega, g _ ?_⟩, fun q => g _ ?_⟩
  · rw [hp.tall (by omega) (by omega)]
    unfold aTall
    rw [if_neg q]
  · unfold aTall
    rw [if_pos q]
theorem RV.keep {mem sc : zF} {v b h n : Int} (hs : RV mem v pl sc) (hv : 0 ≤ v ∧ v < 22) (hk : 0 ≤ sc 0 11 ∧ sc 0 11 < 40) : RV (zup (zup (zup (zup (zup mem 304 (160 * v + 4 * sc 0 11).toNat (sc 0 0)) 304 (160 * v + (4 * sc 0 11 + 1)).toNat b) 304 (160 * v + (4 * sc 0 11 + 2)).toNat h) 304 (160 * v + (4 * sc 0 11 + 3)).toNat n) 303 v.toNat (sc 0 11 + 1)) v pl (aKeep b h n sc) := by
  unfold aKeep
  refine ⟨?_, fun k k1 k2 => ?_, fun s k k1 k2 k3 k4 => ?_, fun j j1 j2 => ?_⟩
  · have h1 := hs.1
    simp [zup_get, h1]
  · rw [zup_row _ _ _ (by decide), zup_row _ _ _ (by decide), zup_row _ _ _ (by decide), zup_row _ _ _ (by decide), zup_row _ _ _ (by decide), zup_row _ _ _ (by decide), zup_row _ _ _ (by decide), zup_row _ _ _ (by decide), zup_row _ _ _ (by decide), zup_row _ _ _ (by decide)]
    exact hs.2.1 k k1 k2
  · rw [zup_row _ _ _ (by omega), zup_row _ _ _ (by omega), zup_row _ _ _ (by omega), zup_row _ _ _ (by omega), zup_row _ _ _ (by omega), zup_row _ _ _ (by omega), zup_row _ _ _ (by omega), zup_row _ _ _ (by omega), zup_row _ _ _ (by omega), zup_row _ _ _ (by omega)]
    exact hs.2.2.1 s k k1 k2 k3 k4
  · rw [zup_at] at j2
    rw [zup_row _ _ _ (show (304 : Nat) ≠ 303 by decide), zup_row _ _ _ (show (8 : Nat) ≠ 0 by decide)]
    simp only [zup_get, true_and]
    by_cases c3 : j = 4 * sc 0 11 + 3
    · rw [if_pos (show (160 * v + j).toNat = (160 * v + (4 * sc 0 11 + 3)).toNat by omega), if_pos (show j.toNat = (4 * sc 0 11 + 3).toNat by omega)]
    · rw [if_neg (show ¬ (160 * v + j).toNat = (160 * v + (4 * sc 0 11 + 3)).toNat by omega), if_neg (show ¬ j.toNat = (4 * sc 0 11 + 3).toNat by omega)]
      by_cases c2 : j = 4 * sc 0 11 + 2
      · rw [if_pos (show (160 * v + j).toNat = (160 * v + (4 * sc 0 11 + 2)).toNat by omega), if_pos (show j.toNat = (4 * sc 0 11 + 2).toNat by omega)]
      · rw [if_neg (show ¬ (160 * v + j).toNat = (160 * v + (4 * sc 0 11 + 2)).toNat by omega), if_neg (show ¬ j.toNat = (4 * sc 0 11 + 2).toNat by omega)]
        by_cases c1 : j = 4 * sc 0 11 + 1
        · rw [if_pos (show (160 * v + j).toNat = (160 * v + (4 * sc 0 11 + 1)).toNat by omega), if_pos (show j.toNat = (4 * sc 0 11 + 1).toNat by omega)]
        · rw [if_neg (show ¬ (160 * v + j).toNat = (160 * v + (4 * sc 0 11 + 1)).toNat by omega), if_neg (show ¬ j.toNat = (4 * sc 0 11 + 1).toNat by omega)]
          by_cases c0 : j = 4 * sc 0 11
          · rw [if_pos (show (160 * v + j).toNat = (160 * v + 4 * sc 0 11).toNat by omega), if_pos (show j.toNat = (4 * sc 0 11).toNat by omega)]
          · rw [if_neg (show ¬ (160 * v + j).toNat = (160 * v + 4 * sc 0 11).toNat by omega), if_neg (show ¬ j.toNat = (4 * sc 0 11).toNat by omega)]
            exact hs.2.2.2 j j1 (by omega)
theorem t_writesDown {D : Nat} {Q : zF → Prop} {mem sc : zF} (hR : zall rf zRK = true) (hD : 1 ≤ D) (hP : WP pl) {v b h dd : Int} (hv : 0 ≤ v ∧ v < 22) (hb : 0 ≤ b ∧ b < pl 1 2) (hs : RV mem v pl sc) (hk : 0 ≤ sc 0 11 ∧ sc 0 11 < 40) (hdd : sc 5 b.toNat = dd) (hd : 0 ≤ dd ∧ dd < 64) (kk : ∀ mem', RV mem' v pl (aKeep b h (zpop dd) sc) → RF v mem mem' → Q mem') : Cv X D 265 [(2, 261), (0, v), (0, b), (0, h)] rf mem Q := by
  obtain ⟨d, rfl⟩ : ∃ d, D = d + 1 := ⟨D - 1, by omega⟩
  have hn := hP.n
  have e5 : mem 300 (6 * v + b).toNat = sc 5 b.toNat := hs.b 5 (by decide) (by decide) hb.1 hb.2
  refine s_m_writesDown hR ⟨hv, ?_⟩
  rw [hs.1.2.2.2]
  refine ⟨by omega, fun _ => ?_, fun q => absurd q (by omega)⟩
  refine s_m_writesDown_66 hR ⟨hv, hv, ?_⟩
  rw [hs.1.2.2.2, hs.1.1, e5, hdd]
  refine ⟨by omega, by omega, by omega, by omega, t_bits hR hd ⟨by omega, hv, hv, ?_⟩⟩
  rw [zup_row _ _ _ (show (303 : Nat) ≠ 304 by decide), zup_row _ _ _ (show (303 : Nat) ≠ 304 by decide), zup_row _ _ _ (show (303 : Nat) ≠ 304 by decide), hs.1.2.2.2]
  have i0 : 4 * (40 * v + sc 0 11) = 160 * v + 4 * sc 0 11 := by omega
  have i1 : 160 * v + 4 * sc 0 11 + 1 = 160 * v + (4 * sc 0 11 + 1) := by omega
  have i2 : 160 * v + 4 * sc 0 11 + 2 = 160 * v + (4 * sc 0 11 + 2) := by omega
  have i3 : 160 * v + 4 * sc 0 11 + 3 = 160 * v + (4 * sc 0 11 + 3) := by omega
  rw [i0, i1, i2, i3]
  refine kk _ (hs.keep hv hk) ?_
  exact ((((RF.rfl.up (by unfold zofv; omega)).up (by unfold zofv; omega)).up (by unfold zofv; omega)).up (by unfold zofv; omega)).up (by unfold zofv; omega)
theorem aClear_at {b : Int} {s s2 : zF} {a : Nat} (e : s a = s2 a) : aClear b s a = aClear b s2 a := by
  funext k
  unfold aClear
  simp only [zup_get, e]
theorem aKeep_row {b h n : Int} {s : zF} {a : Nat} (h1 : a ≠ 0) (h2 : a ≠ 8) : aKeep b h n s a = s a := by
  unfold aKeep
  rw [zup_row _ _ _ h1, zup_row _ _ _ h2, zup_row _ _ _ h2, zup_row _ _ _ h2, zup_row _ _ _ h2]
theorem aKeep_aClear {b b2 h n : Int} {s : zF} : aKeep b h n (aClear b2 s) = aClear b2 (aKeep b h n s) := by
  funext a
  by_cases q : 2 ≤ a ∧ a ≤ 5
  · rw [aKeep_row (by omega) (by omega)]
    exact aClear_at (aKeep_row (by omega) (by omega)).symm
  · rw [aClear_row _ (by omega)]
    funext j
    unfold aKeep
    simp only [zup_get, aClear_row s (show (0 : Nat) < 2 ∨ 5 < 0 by omega), aClear_row s (show a < 2 ∨ 5 < a by omega)]
theorem t_burst_20 {d : Nat} {Q : zF → Prop} (hR : zall rf zRK = true) (hD : 1 ≤ d) (hP : WP pl) {v b h dd : Int} (hv : 0 ≤ v ∧ v < 22) (hb : 0 ≤ b ∧ b < pl 1 2) (hd : 0 ≤ dd ∧ dd < 64) (hdn : ∀ k : Int, pl 1 2 ≤ k → k < 6 → zbit dd k = 0) : ∀ (n : Nat) {x : Int} {mem sc : zF}, 0 ≤ x → x + n = 6 → RP mem pl → RV mem v pl sc → sc 5 b.toNat = dd → (0 ≤ sc 0 11 ∧ sc 0 11 < 40) → (∀ mem', RV mem' v pl (aKeep b h (zpop dd) (aClear b (aIt (aOwn1 h dd) x n sc))) → RF v mem mem' → Q mem') → L_m_burst_20 X d rf Q mem v b h x
  | n, x, mem, sc, h0, hx, hp, hs, h5, hk, kk => by
    have hn := hP.n
    refine s_m_burst_20 hR ⟨hp.bank, ?_⟩
    rw [hp.n.2.2.1]
    refine ⟨by omega, fun q => ?_, fun q => ⟨by omega, ?_⟩⟩
    · rw [aIt_stay] at kk
      · refine t_writesDown hR hD hP hv hb hs hk h5 hd ?_
        intro m1 g1 g2
        refine t_goesOut hR hv (by omega) g1 ?_
        intro m2 g3 g4
        rw [← aKeep_aClear] at g3
        exact kk m2 g3 (g2.trans g4)
      · intro k k1 k2
        unfold aOwn1
        rw [if_neg]
        rw [hdn k (by omega) (by omega)]
        decide
    · obtain ⟨m, rfl⟩ : ∃ m, n = m + 1 := ⟨n - 1, by omega⟩
      have e5 : mem 300 (6 * v + b).toNat = sc 5 b.toNat := hs.b 5 (by decide) (by decide) hb.1 hb.2
      rw [e5, h5]
      have h01 := zbit_01 hd (k := x) (by omega)
      unfold aIt aOwn1 at kk
      refine t_has2 hR hd (by omega) ⟨by omega, fun q2 => ?_, fun q2 => ⟨by omega, ?_⟩⟩
      · rw [if_neg (by omega)] at kk
        exact t_burst_20 hR hD hP hv hb hd hdn m (by omega) (by omega) hp hs h5 hk kk
      · rw [if_pos (by omega)] at kk
        have hF : RF v mem (zup mem 301 (6 * v + x).toNat h) := RF.rfl.up (by unfold zofv; omega)
        refine t_burst_20 hR hD hP hv hb hd hdn m (by omega) (by omega) (hF.rp hp) (hs.up hv.1 6 (by decide) (by decide) h0 _) (by rw [zup_row _ _ _ (by decide)]; exact h5) (by rw [zup_row _ _ _ (by decide)]; exact hk) ?_
        intro m1 g1 g2
        exact kk m1 g1 (hF.trans g2)
theorem t_burst {D : Nat} {Q : zF → Prop} {mem sc : zF} (hR : zall rf zRK = true) (hD : 2 ≤ D) (hP : WP pl) {v b : Int} (hv : 0 ≤ v ∧ v < 22) (hb : 0 ≤ b ∧ b < pl 1 2) (hp : RP mem pl) (hs : RV mem v pl sc) (hW : WS pl sc) (hf : sc 2 b.toNat ≠ -1) (kk : ∀ mem', RV mem' v pl (aBurst b (aHeirIn sc (sc 2 b.toNat)) sc) → RF v mem mem' → Q mem') : Cv X D 266 [(2, 261), (0, v), (0, b)] rf mem Q := by
  obtain ⟨d, rfl⟩ : ∃ d, D = d + 1 := ⟨D - 1, by omega⟩
  have hn := hP.n
  have hbI := hW.bubI (k := b) (by omega)
  have hk := hW.kept
  have hfl := zfl_pos (b := b) (by omega) hf
  have e2 : mem 297 (6 * v + b).toNat = sc 2 b.toNat := hs.b 2 (by decide) (by decide) hb.1 hb.2
  refine s_m_burst hR ⟨by omega, ?_⟩
  rw [e2]
  refine t_heirIn hR hp hP hW hv hs (by omega) hf ?_
  exact t_burst_20 hR (by omega) hP hv hb (hW.deeds (k := b) (by omega)) (fun k k1 k2 => hW.dbit (by omega) (by omega) k1) 6 (by omega) (by omega) hp hs rfl (by omega) kk
theorem t_shines_45 {d : Nat} {Q : zF → Prop} (hR : zall rf zRK = true) (hP : WP pl) {v b more : Int} (hv : 0 ≤ v ∧ v < 22) (hb : 0 ≤ b ∧ b < pl 1 2) (hm : 0 ≤ more ∧ more ≤ 9) : ∀ (n : Nat) {x : Int} {mem sc : zF}, 0 ≤ x → x + n = 6 → RP mem pl → RV mem v pl sc → WS pl sc → (∀ mem', RV mem' v pl (aIt (aRent1 b more) x n sc) → RF v mem mem' → Q mem') → L_m_shines_45 X d rf Q mem v b more x
  | n, x, mem, sc, h0, hx, hp, hs, hW, kk => by
    have hn := hP.n
    refine s_m_shines_45 hR ⟨hp.bank, ?_⟩
    rw [hp.n.2.2.1]
    refine ⟨by omega, fun q => ?_, fun q => ⟨by omega, ?_⟩⟩
    · rw [aIt_stay] at kk
      · exact kk mem hs RF.rfl
      · intro k k1 k2
        unfold aRent1
        rw [if_neg]
        rw [hW.dbit (k := b) (d := k) (by omega) (by omega) (by omega)]
        decide
    · obtain ⟨m, rfl⟩ : ∃ m, n = m + 1 := ⟨n - 1, by omega⟩
      have e5 : mem 300 (6 * v + b).toNat = sc 5 b.toNat := hs.b 5 (by decide) (by decide) hb.1 hb.2
      have e7 : mem 302 (6 * v + x).toNat = sc 7 x.toNat := hs.b 7 (by decide) (by decide) h0 (by omega)
      have hd := hW.deeds (k := b) (by omega)
      have hr := (hW.rent (k := x) (by omega)).1
      rw [e5]
      have h01 := zbit_01 hd (k := x) (by omega)
      unfold aIt aRent1 at kk
      refine t_has2 hR hd (by omega) ⟨by omega, fun q2 => ?_, fun q2 => ⟨by omega, ?_⟩⟩
      · rw [if_neg (by omega)] at kk
        exact t_shines_45 hR hP hv hb hm m (by omega) (by omega) hp hs hW kk
      · rw [if_pos (by omega)] at kk
        rw [e7]
        refine ⟨by omega, t_cut hR (by omega) (by decide) (by decide) ⟨by omega, ?_⟩⟩
        have em : max 0 (min 999 (sc 7 x.toNat + more)) = min 999 (sc 7 x.toNat + more) := by omega
        rw [em]
        have hF : RF v mem (zup mem 302 (6 * v + x).toNat (min 999 (sc 7 x.toNat + more))) := RF.rfl.up (by unfold zofv; omega)
        refine t_shines_45 hR hP hv hb hm m (by omega) (by omega) (hF.rp hp) (hs.up hv.1 7 (by decide) (by decide) h0 _) (hW.s7 (by omega) (by omega) (by omega)) ?_
        intro m1 g1 g2
        exact kk m1 g1 (hF.trans g2)
end TICK
