/-! the acts: end, seed, swing, tiptoe, carry, undo -/
section ACTS
variable {X : zX} {rf mem : zF} {p : Nat} {pl sc ft : zF} {hs : Int → zF} {c f u : Int} {tb : Nat → Int} {N : Int} {d : Nat}
/-- both refuse -/
theorem both_refuse {k v : Int} {M2 : Nat} {as2 : List zV} (h : G rf mem p pl sc ft hs c f u tb N) (hk : 0 ≤ k ∧ k < 6) (hv : inI v) (h2 : ∀ {Q : Int → zF → Prop} {m1 : zF}, RX rf m1 pl sc → (∀ i, i ≠ 245 → m1 i = mem i) → Q v (zup m1 292 k.toNat (m1 292 k.toNat + 1)) → Ci X d M2 as2 rf m1 Q) : Ci X d M2 as2 rf (zup mem 245 k.toNat (mem 245 k.toNat + 1)) (fun r2 m2 => (inI v ∧ inI r2) ∧ v = r2 ∧ GI rf m2 (N + 1)) :=
  h2 h.2.2.1.w245 (fun i hi => zup_row _ _ _ hi) ⟨⟨hv, hv⟩, rfl, gi_refuse h hk⟩
theorem G.acted {m2 m4 sc' : zF} {f' u' : Int} {hs' : Int → zF} {c' : Int} (h : G rf mem p pl sc ft hs c f u tb N) (hP' : PX pl sc') (hc' : 0 ≤ c' ∧ c' ≤ 20) (hw : HW pl c' hs') (c1 : m2 52 2 = c') (c2 : m2 52 1 = f') (fr : 0 ≤ f' ∧ f' < 20) (c3 : HSc m2 c' f' hs') (cf : ∀ i, (i < 23 ∨ 31 < i) → (i < 52 ∨ 233 < i) → m2 i = mem i) (cs : SC m2 23 sc') (r1 : m4 261 65 = c') (r2 : m4 261 64 = u') (ur : 0 ≤ u' ∧ u' < 20) (r3 : HSr m4 c' u' pl hs') (rk : (∀ j, j ≠ 64 → j ≠ 65 → m4 261 j = m2 261 j) ∧ ∀ a, a ≠ 261 → (a < 293 ∨ 307 < a) → m4 a = m2 a) (rs : RV m4 0 pl sc') : G rf m4 p pl sc' ft hs' c' f' u' tb N := by
  obtain ⟨hX, hP, hR, hH, hS, hO⟩ := h
  have hp := hX.e
  have low : ∀ i, i < 261 → m4 i = m2 i := fun i hi => rk.2 i (by omega) (by omega)
  have base : ∀ i, i < 261 → (i < 23 ∨ 31 < i) → (i < 52 ∨ 233 < i) → m4 i = mem i := fun i a b c => (low i a).trans (cf i b c)
  have s261 : ∀ j, j ≠ 64 → j ≠ 65 → m4 261 j = mem 261 j := fun j a b => by rw [rk.1 j a b, cf 261 (by omega) (by omega)]
  have hi : ∀ a, 261 < a → (a < 293 ∨ 307 < a) → m4 a = mem a := fun a b c => by rw [rk.2 a (by omega) c, cf a (by omega) (by omega)]
  have hA : AF p mem m4 := ⟨fun i a b c' d e f g => base i c' (by omega) b, ⟨base 48 (by decide) (by decide) (by decide), by rw [base 35 (by decide) (by decide) (by decide)]⟩, fun j _ => by rw [base 0 (by decide) (by decide) (by decide)], fun j a b _ => s261 j a b, fun a b c => hi a b (by omega)⟩
  refine ⟨⟨hX.1, hX.pc.fr (fun s h1 h2 => base _ (by omega) (by omega) (by omega)), cs.fr (fun i i1 i2 => low i (by omega))⟩, hP', ⟨hR.1, hR.2.1.fr (s261 13 (by decide) (by decide)) (s261 50 (by decide) (by decide)) (fun a a1 a2 => hi a (by omega) (by omega)), rs⟩, ⟨⟨by rw [low 52 (by decide)]; exact c1, by rw [low 52 (by decide)]; exact c2, r1, r2⟩, hc', fr, ur, hw, fun k k1 k2 => (c3 k k1 k2).fr (fun i i1 i2 => low i (by omega)), r3⟩, ?_, hO.af hp hA⟩
  unfold SD
  rw [base 0 (by decide) (by decide) (by decide), s261 66 (by decide) (by decide)]
  exact hS
/-- the reference's half of an act -/
theorem t_act {Q : zF → Prop} {m2 : zF} (h : G rf mem p pl sc ft hs c f u tb N) (hd : 1 ≤ d) (cf : ∀ i, 261 ≤ i → m2 i = mem i) (kk : ∀ m3 u', m3 261 65 = min (c + 1) 20 → m3 261 64 = u' → 0 ≤ u' ∧ u' < 20 → HSr m3 (min (c + 1) 20) u' pl (hsP hs c sc) → KF m2 m3 → RV m3 0 pl sc → Q m3) : Cv X d 245 [(2, 261)] rf m2 Q := by
  obtain ⟨hX, hP, hR, hH, hS, hO⟩ := h
  have hR2 : RX rf m2 pl sc := ⟨hR.1, hR.2.1.fr (by rw [cf 261 (by decide)]) (by rw [cf 261 (by decide)]) (fun a a1 a2 => cf a (by omega)), hR.2.2.fr (fun a a1 a2 => cf a (by omega))⟩
  refine t_keeps hR2 hP hd (by rw [cf 261 (by decide)]; exact hH.1.2.2.1) (by rw [cf 261 (by decide)]; exact hH.1.2.2.2) hH.2.1 hH.2.2.2.1 hH.2.2.2.2.1 (fun k k1 k2 => (hH.2.2.2.2.2.2 k k1 k2).fr (fun a a1 a2 => cf a (by omega))) ?_
  intro m3 u' a1 a2 a3 a4 a5
  exact kk m3 u' a1 a2 a3 a4 a5 (a5.rv0 hP hR2.2.2)
theorem hsr_up {m3 : zF} {u' c' : Int} {hs' : Int → zF} {a j : Nat} {v : Int} (hN : WP pl) (h : HSr m3 c' u' pl hs') (hw : HW pl c' hs') (hz : zofv 0 a j) : HSr (zup m3 a j v) c' u' pl hs' := by
  intro k k1 k2
  have hn := hN.n
  refine rv_keep (w := 0) (m1 := m3) (fun b i h1 h2 h3 h4 => ?_) (by omega) (by omega) (by omega) (by omega) (hw k k1 k2).1.k6.2 (h k k1 k2)
  rw [zup_get, if_neg]
  rintro ⟨rfl, rfl⟩
  exact h2 hz
theorem p_swing (h : G rf mem p pl sc ft hs c f u tb N) (hd : 20 ≤ d) {x y : Int} (hx : inI x) (hy : inI y) : zPR X rf d mem 174 [(2, 0), (0, x), (0, y)] 302 [(2, 261), (0, x), (0, y)] (fun m2 => GI rf m2 (N + 1)) := by
  obtain ⟨d, rfl⟩ : ∃ e, d = e + 1 := ⟨d - 1, by omega⟩
  obtain ⟨hX, hP, hR, hH, hS, hO⟩ := id h
  have hN := hP.1.n
  have hop := hP.2.2.1.opn
  have t40 : ∀ {Q : Int → zF → Prop} {m1 : zF}, Q 0 (zup m1 292 3 (m1 292 3 + 1)) → L_m_swing_40 X d rf Q m1 := fun {Q} {m1} kk => s_m_swing_40 hX.r (t_refuses hX.r (k := 3) (by decide) ⟨by decide, fun _ => kk, fun q => absurd q (by decide)⟩)
  have ref : ¬ ((0 ≤ x ∧ x < pl 1 0) ∧ (0 ≤ y ∧ y ≤ 1) ∧ zbit (sc 0 2) x ≠ y) → Ci X d 184 [(2, 0), (0, 3)] rf mem (fun r m => (r = 0 ∨ r = 1) ∧ Ci X (d + 1) 302 [(2, 261), (0, x), (0, y)] rf m (fun r2 m2 => (inI r ∧ inI r2) ∧ r = r2 ∧ GI rf m2 (N + 1))) := by
    intro hno
    refine u_refused hX (by decide) ⟨Or.inl rfl, both_refuse (k := 3) h (by decide) (by decide) (fun {Q} {m1} hR1 _ kk => ?_)⟩
    have e5 : m1 295 0 = sc 0 2 := hR1.2.2.1.2.2.1
    refine s_m_swing hX.r (t_isDoor hR1 hP.1 hx (fun q1 => ?_) (fun q1 => ?_))
    · refine ⟨by decide, fun q => absurd q (by decide), fun _ => t_is hX.r hy (by decide) (by decide) ?_⟩
      by_cases q2 : 0 ≤ y ∧ y ≤ 1
      · rw [if_pos q2]
        refine ⟨by decide, fun q => absurd q (by decide), fun _ => ?_⟩
        rw [e5]
        have h01 := zbit_01 hop (k := x) (by omega)
        have heq : zbit (sc 0 2) x = y := by
          by_cases q3 : zbit (sc 0 2) x = y
          · exact q3
          · exact absurd ⟨q1, q2, q3⟩ hno
        refine t_has2 hX.r hop (by omega) ⟨hy, fun q3 => ?_, fun q3 => ?_⟩
        · exact s_m_swing_37 hX.r ⟨by omega, fun q4 => absurd (show zbit (sc 0 2) x = 0 by omega) q4, fun _ => t40 kk⟩
        · exact s_m_swing_37 hX.r ⟨by omega, fun q4 => absurd (show zbit (sc 0 2) x = 1 by omega) q4, fun _ => t40 kk⟩
      · rw [if_neg q2]
        exact ⟨by decide, fun _ => t40 kk, fun q => absurd rfl q⟩
    · exact ⟨by decide, fun _ => t40 kk, fun q => absurd rfl q⟩
  refine s_c_swing hX.r hX.p hX.f (u_isThere hX.r hX.p hX.pc hP.1 (by omega) (by decide) hx (fun q1 => ?_) (fun q1 => ?_))
  · have hx2 : 0 ≤ x ∧ x < pl 1 0 := ⟨q1.1, q1.2.2.2.2⟩
    have h01 := zbit_01 hop (k := x) (by omega)
    rw [hX.s.z 2 (by decide)]
    refine ⟨by decide, fun q => absurd q (by decide), fun _ => ⟨hy, fun q => ref (by omega), fun q => ⟨hy, fun q2 => ref (by omega), fun q2 => ⟨⟨zbit_inI hop (by omega), hy⟩, fun q3 => ?_, fun q3 => ref (fun c => c.2.2 q3)⟩⟩⟩⟩
    have q3 : ¬ zbit (sc 0 2) x = y := q3
    refine u_hpush hX (by omega) hH.1.1 hH.1.2.1 hH.2.1 hH.2.2.1 hH.2.2.2.2.2.1 ?_
    intro m1 f' a1 a2 a3 a4 a5
    have es : m1 23 2 = sc 0 2 := by rw [a5 23 (by omega)]; exact hX.s.z 2 (by decide)
    rw [es]
    have hxr := zxor_lt hop (y := zshl 1 x) (by
      have h5 := zshl_rng (k := x) (by omega)
      have h6 : ∀ k : Fin 6, zshl 1 (k.val : Int) < 64 := by decide +kernel
      have h7 := h6 ⟨x.toNat, by omega⟩
      simp only at h7
      rw [Int.toNat_of_nonneg (by omega)] at h7
      omega)
    have hP' : PX pl (zup sc 0 2 (zxor (sc 0 2) (zshl 1 x))) := ⟨hP.1, hP.2.1, hP.2.2.1.s02 hxr, by rw [zup_ne _ _ _ _ (by decide)]; exact hP.2.2.2⟩
    have cs : SC (zup m1 23 2 (zxor (sc 0 2) (zshl 1 x))) 23 (zup sc 0 2 (zxor (sc 0 2) (zshl 1 x))) := (hX.s.fr (fun i i1 i2 => a5 i (by omega))).up0 2 _
    have cf : ∀ i, (i < 23 ∨ 31 < i) → (i < 52 ∨ 233 < i) → (zup m1 23 2 (zxor (sc 0 2) (zshl 1 x))) i = mem i := fun i i1 i2 => by rw [zup_row _ _ _ (by omega)]; exact a5 i i2
    have hR2 : RX rf (zup m1 23 2 (zxor (sc 0 2) (zshl 1 x))) pl sc := ⟨hR.1, hR.2.1.fr (by rw [cf 261 (by omega) (by omega)]) (by rw [cf 261 (by omega) (by omega)]) (fun a b1 b2 => cf a (by omega) (by omega)), hR.2.2.fr (fun a b1 b2 => cf a (by omega) (by omega))⟩
    have hw' := hH.2.2.2.2.1.push hP hH.2.1
    have hc0 := hH.2.1
    refine s_m_swing hX.r (t_isDoor hR2 hP.1 hx (fun _ => ?_) (fun c => absurd hx2 c))
    refine ⟨by decide, fun q => absurd q (by decide), fun _ => t_is hX.r hy (by decide) (by decide) ?_⟩
    rw [if_pos (by omega)]
    refine ⟨by decide, fun q => absurd q (by decide), fun _ => ?_⟩
    have e5 : (zup m1 23 2 (zxor (sc 0 2) (zshl 1 x))) 295 0 = sc 0 2 := hR2.2.2.1.2.2.1
    rw [e5]
    refine t_has2 hX.r hop (by omega) ⟨hy, fun q4 => ?_, fun q4 => ?_⟩
    all_goals
      refine s_m_swing_37 hX.r ⟨by omega, fun _ => t_act h (by omega) (fun i hi => cf i (by omega) (by omega)) ?_, fun q5 => absurd q5 (by omega)⟩
      intro m3 u' b1 b2 b3 b4 b5 b6
      have e6 : m3 295 0 = sc 0 2 := b6.1.2.2.1
      rw [e6]
      refine ⟨⟨by decide, by decide⟩, rfl, (h.acted (m2 := zup m1 23 2 (zxor (sc 0 2) (zshl 1 x))) hP' (by omega) hw' (by rw [zup_row _ _ _ (by decide)]; exact a1) (by rw [zup_row _ _ _ (by decide)]; exact a2) a3 (fun k k1 k2 => (a4 k k1 k2).fr (fun i i1 i2 => zup_row _ _ _ (by omega))) cf cs ?_ ?_ b3 (hsr_up hP.1 b4 hw' (by unfold zofv; omega)) ⟨fun j j1 j2 => ?_, fun a a1 a2 => ?_⟩ (b6.up0 295 2 (Or.inr (Or.inr ⟨rfl, rfl⟩)) _)).gi⟩
      · rw [zup_row _ _ _ (by decide)]; exact b1
      · rw [zup_row _ _ _ (by decide)]; exact b2
      · rw [zup_row _ _ _ (by decide)]; exact b5.1 j j1 j2
      · rw [zup_row _ _ _ (by omega)]; exact b5.row a1 (by omega)
  · exact ⟨by decide, fun _ => ref (fun c => q1 ⟨c.1.1, by omega, by decide, by decide, c.1.2⟩), fun q => absurd rfl q⟩
theorem p_carry (h : G rf mem p pl sc ft hs c f u tb N) (hd : 20 ≤ d) {x y : Int} (hx : inI x) (hy : inI y) : zPR X rf d mem 176 [(2, 0), (0, x), (0, y)] 304 [(2, 261), (0, x), (0, y)] (fun m2 => GI rf m2 (N + 1)) := by
  obtain ⟨d, rfl⟩ : ∃ e, d = e + 1 := ⟨d - 1, by omega⟩
  obtain ⟨hX, hP, hR, hH, hS, hO⟩ := id h
  have hN := hP.1.n
  have hcr := hP.1.cr
  have hlI := hP.2.2.1.lampI
  have t24 : ∀ {Q : Int → zF → Prop} {m1 : zF}, Q 0 (zup m1 292 3 (m1 292 3 + 1)) → L_m_carry_24 X d rf Q m1 := fun {Q} {m1} kk => s_m_carry_24 hX.r (t_refuses hX.r (k := 3) (by decide) ⟨by decide, fun _ => kk, fun q => absurd q (by decide)⟩)
  have eC : zcellAt (pl 0 1) (pl 0 2) x y ≠ -1 → zcellAt (pl 0 1) (pl 0 2) x y = 8 * y + x := by
    intro q
    unfold zcellAt at q ⊢
    split
    · rfl
    · next q2 => rw [if_neg q2] at q; exact absurd rfl q
  have hrn := zcellAt_rng (C := pl 0 1) (R := pl 0 2) (x := x) (y := y) (by omega) (by omega)
  have hrn2 := hrn
  unfold zic at hrn2
  have ref : ¬ (zcellAt (pl 0 1) (pl 0 2) x y ≠ -1 ∧ zcellAt (pl 0 1) (pl 0 2) x y ≠ sc 0 1) → Ci X d 184 [(2, 0), (0, 3)] rf mem (fun r m => (r = 0 ∨ r = 1) ∧ Ci X (d + 1) 304 [(2, 261), (0, x), (0, y)] rf m (fun r2 m2 => (inI r ∧ inI r2) ∧ r = r2 ∧ GI rf m2 (N + 1))) := by
    intro hno
    refine u_refused hX (by decide) ⟨Or.inl rfl, both_refuse (k := 3) h (by decide) (by decide) (fun {Q} {m1} hR1 _ kk => ?_)⟩
    have e4 : m1 294 0 = sc 0 1 := hR1.2.2.1.2.1
    refine s_m_carry hX.r (t_cell hX.r (by omega) hR1.2.1 hP.1 hx hy (fun q1 => ?_) (fun q1 => ?_))
    · refine ⟨by decide, fun q => absurd q (by decide), fun _ => ?_⟩
      rw [e4, ← eC q1]
      refine ⟨⟨hlI, by omega⟩, fun q2 => absurd ⟨q1, fun e => q2 e.symm⟩ hno, fun _ => t24 kk⟩
    · exact ⟨by decide, fun _ => t24 kk, fun q => absurd rfl q⟩
  refine s_c_carry hX.r hX.p hX.f (u_cellAt hX.r hX.p hX.pc hP.1 hx hy ?_)
  rw [hX.s.z 1 (by decide)]
  refine ⟨by omega, fun q => ref (fun c => c.1 q), fun q1 => ⟨⟨by omega, hlI⟩, fun q2 => ?_, fun q2 => ref (fun c => c.2 q2)⟩⟩
  refine u_hpush hX (by omega) hH.1.1 hH.1.2.1 hH.2.1 hH.2.2.1 hH.2.2.2.2.2.1 ?_
  intro m1 f' a1 a2 a3 a4 a5
  have hzi : zic (pl 0 1) (pl 0 2) (zcellAt (pl 0 1) (pl 0 2) x y) := by
    rcases hrn with h5 | h5
    · exact absurd h5 q1
    · exact h5
  rw [eC q1] at hzi hrn2 q2
  rw [eC q1]
  have hP' : PX pl (zup sc 0 1 (8 * y + x)) := ⟨hP.1, hP.2.1, hP.2.2.1.s01 (Or.inr hzi), by rw [zup_ne _ _ _ _ (by decide)]; exact hP.2.2.2⟩
  have cs : SC (zup m1 23 1 (8 * y + x)) 23 (zup sc 0 1 (8 * y + x)) := (hX.s.fr (fun i i1 i2 => a5 i (by omega))).up0 1 _
  have cf : ∀ i, (i < 23 ∨ 31 < i) → (i < 52 ∨ 233 < i) → (zup m1 23 1 (8 * y + x)) i = mem i := fun i i1 i2 => by rw [zup_row _ _ _ (by omega)]; exact a5 i i2
  have hR2 : RX rf (zup m1 23 1 (8 * y + x)) pl sc := ⟨hR.1, hR.2.1.fr (by rw [cf 261 (by omega) (by omega)]) (by rw [cf 261 (by omega) (by omega)]) (fun a b1 b2 => cf a (by omega) (by omega)), hR.2.2.fr (fun a b1 b2 => cf a (by omega) (by omega))⟩
  have hw' := hH.2.2.2.2.1.push hP hH.2.1
  have hc0 := hH.2.1
  refine s_m_carry hX.r (t_cell hX.r (by omega) hR2.2.1 hP.1 hx hy (fun _ => ?_) (fun c => absurd c q1))
  refine ⟨by decide, fun q => absurd q (by decide), fun _ => ?_⟩
  have e4 : (zup m1 23 1 (8 * y + x)) 294 0 = sc 0 1 := hR2.2.2.1.2.1
  rw [e4]
  refine ⟨⟨hlI, by omega⟩, fun _ => t_act h (by omega) (fun i hi => cf i (by omega) (by omega)) ?_, fun q3 => absurd q3.symm q2⟩
  intro m3 u' b1 b2 b3 b4 b5 b6
  refine ⟨⟨by decide, by decide⟩, rfl, (h.acted (m2 := zup m1 23 1 (8 * y + x)) hP' (by omega) hw' (by rw [zup_row _ _ _ (by decide)]; exact a1) (by rw [zup_row _ _ _ (by decide)]; exact a2) a3 (fun k k1 k2 => (a4 k k1 k2).fr (fun i i1 i2 => zup_row _ _ _ (by omega))) cf cs ?_ ?_ b3 (hsr_up hP.1 b4 hw' (by unfold zofv; omega)) ⟨fun j j1 j2 => ?_, fun a a1 a2 => ?_⟩ (b6.up0 294 1 (Or.inr (Or.inl ⟨rfl, rfl⟩)) _)).gi⟩
  · rw [zup_row _ _ _ (by decide)]; exact b1
  · rw [zup_row _ _ _ (by decide)]; exact b2
  · rw [zup_row _ _ _ (by decide)]; exact b5.1 j j1 j2
  · rw [zup_row _ _ _ (by omega)]; exact b5.row a1 (by omega)
theorem p_tiptoe (h : G rf mem p pl sc ft hs c f u tb N) (hd : 20 ≤ d) {x y : Int} (hx : inI x) (hy : inI y) : zPR X rf d mem 175 [(2, 0), (0, x), (0, y)] 303 [(2, 261), (0, x), (0, y)] (fun m2 => GI rf m2 (N + 1)) := by
  obtain ⟨d, rfl⟩ : ∃ e, d = e + 1 := ⟨d - 1, by omega⟩
  obtain ⟨hX, hP, hR, hH, hS, hO⟩ := id h
  have hN := hP.1.n
  have hcr := hP.1.cr
  have t48 : ∀ {Q : Int → zF → Prop} {m1 : zF}, Q 0 (zup m1 292 3 (m1 292 3 + 1)) → L_m_tiptoe_48 X d rf Q m1 := fun {Q} {m1} kk => s_m_tiptoe_48 hX.r (t_refuses hX.r (k := 3) (by decide) ⟨by decide, fun _ => kk, fun q => absurd q (by decide)⟩)
  have hrn := znext_rng (C := pl 0 1) (R := pl 0 2) (c := sc 1 x.toNat) (w := y) (by omega) (by omega)
  have hrn2 := hrn
  unfold zic at hrn2
  have hhr := aHeirIn_rng pl sc hP.2.2.1 (znext (pl 0 1) (pl 0 2) (sc 1 x.toNat) y)
  have ref : ¬ ((0 ≤ x ∧ x < pl 1 1) ∧ znext (pl 0 1) (pl 0 2) (sc 1 x.toNat) y ≠ -1 ∧ aHeirIn sc (znext (pl 0 1) (pl 0 2) (sc 1 x.toNat) y) = -1) → Ci X d 184 [(2, 0), (0, 3)] rf mem (fun r m => (r = 0 ∨ r = 1) ∧ Ci X (d + 1) 303 [(2, 261), (0, x), (0, y)] rf m (fun r2 m2 => (inI r ∧ inI r2) ∧ r = r2 ∧ GI rf m2 (N + 1))) := by
    intro hno
    refine u_refused hX (by decide) ⟨Or.inl rfl, both_refuse (k := 3) h (by decide) (by decide) (fun {Q} {m1} hR1 _ kk => ?_)⟩
    have n1 : L_m_tiptoe_32 X d rf Q m1 x (-1) := s_m_tiptoe_32 hX.r ⟨by decide, fun _ => t48 kk, fun q => absurd rfl q⟩
    refine s_m_tiptoe hX.r (t_isHeir hR1 hP.1 hx (fun q1 => ?_) (fun q1 => ?_))
    · have hhI := hP.2.2.1.heir (k := x) (by omega)
      have hh1 := hhI.1 q1.2
      unfold zic at hh1
      refine ⟨by decide, fun q => absurd q (by decide), fun _ => t_is hX.r hy (by decide) (by decide) ?_⟩
      by_cases q2 : 0 ≤ y ∧ y ≤ 3
      · rw [if_pos q2]
        refine ⟨by decide, fun q => absurd q (by decide), fun _ => ⟨by omega, ?_⟩⟩
        rw [hR1.h q1.1 q1.2]
        refine t_onward hX.r (by omega) hR1.2.1 hP.1 (by omega) (by omega) ?_
        refine s_m_tiptoe_32 hX.r ⟨by omega, fun _ => t48 kk, fun q3 => ?_⟩
        refine t_heirIn hX.r hR1.2.1 hP.1 hP.2.2.1 (by decide) hR1.2.2 (by omega) q3 ⟨by omega, fun q4 => absurd ⟨q1, q3, q4⟩ hno, fun _ => t48 kk⟩
      · rw [if_neg q2]
        exact ⟨by decide, fun _ => n1, fun q => absurd rfl q⟩
    · exact ⟨by decide, fun _ => n1, fun q => absurd rfl q⟩
  refine s_c_tiptoe hX.r hX.p hX.f (u_isThere hX.r hX.p hX.pc hP.1 (by omega) (by decide) hx (fun q1 => ?_) (fun q1 => ?_))
  · have hx2 : 0 ≤ x ∧ x < pl 1 1 := ⟨q1.1, q1.2.2.2.2⟩
    have hx6 : 0 ≤ x ∧ x < 6 := ⟨q1.1, q1.2.1⟩
    have hh1 := (hP.2.2.1.heir hx6).1 hx2.2
    unfold zic at hh1
    have e1 : mem 24 x.toNat = sc 1 x.toNat := hX.s.i 1 (by decide) hx6
    rw [e1]
    refine ⟨by decide, fun _ => ⟨hx6, u_next hX.r hX.p hX.pc hP.1 (by omega) (by omega) hy ⟨by omega, fun q2 => ref (fun c => c.2.1 q2), fun q2 => ?_⟩⟩, fun q => absurd q (by decide)⟩
    refine u_heirIn (o := 23) hX.r (zScn_23 hX.r) hX.s (fun k k1 k2 => by have := hP.2.2.1.heirI ⟨k1, k2⟩; omega) (by omega) ⟨by omega, fun q3 => ?_, fun q3 => ref (fun c => q3 c.2.2)⟩
    have hyr : 0 ≤ y ∧ y < 4 := by
      by_cases e : 0 ≤ y ∧ y < 4
      · exact e
      · exfalso
        apply q2
        unfold znext
        rw [if_neg (by omega)]
    refine u_hpush hX (by omega) hH.1.1 hH.1.2.1 hH.2.1 hH.2.2.1 hH.2.2.2.2.2.1 ?_
    intro m1 f' a1 a2 a3 a4 a5
    refine ⟨hx6, ?_⟩
    have hzi : zic (pl 0 1) (pl 0 2) (znext (pl 0 1) (pl 0 2) (sc 1 x.toNat) y) := by
      rcases hrn with h5 | h5
      · exact absurd h5 q2
      · exact h5
    generalize hv : znext (pl 0 1) (pl 0 2) (sc 1 x.toNat) y = v at hzi q2 q3 hrn2 hhr
    have hP' : PX pl (zup sc 1 x.toNat v) := ⟨hP.1, hP.2.1, hP.2.2.1.s1 hx6 hx2.2 hzi, by rw [zup_row _ _ _ (by decide)]; exact hP.2.2.2⟩
    have cs : SC (zup m1 24 x.toNat v) 23 (zup sc 1 x.toNat v) := (hX.s.fr (fun i i1 i2 => a5 i (by omega))).up 1 _ _
    have cf : ∀ i, (i < 23 ∨ 31 < i) → (i < 52 ∨ 233 < i) → (zup m1 24 x.toNat v) i = mem i := fun i i1 i2 => by rw [zup_row _ _ _ (by omega)]; exact a5 i i2
    have hR2 : RX rf (zup m1 24 x.toNat v) pl sc := ⟨hR.1, hR.2.1.fr (by rw [cf 261 (by omega) (by omega)]) (by rw [cf 261 (by omega) (by omega)]) (fun a b1 b2 => cf a (by omega) (by omega)), hR.2.2.fr (fun a b1 b2 => cf a (by omega) (by omega))⟩
    have hw' := hH.2.2.2.2.1.push hP hH.2.1
    have hc0 := hH.2.1
    refine s_m_tiptoe hX.r (t_isHeir hR2 hP.1 hx (fun _ => ?_) (fun c => absurd hx2 c))
    refine ⟨by decide, fun q => absurd q (by decide), fun _ => t_is hX.r hy (by decide) (by decide) ?_⟩
    rw [if_pos (by omega)]
    refine ⟨by decide, fun q => absurd q (by decide), fun _ => ⟨by omega, ?_⟩⟩
    rw [hR2.h hx2.1 hx2.2]
    refine t_onward hX.r (by omega) hR2.2.1 hP.1 (by omega) hyr ?_
    rw [hv]
    refine s_m_tiptoe_32 hX.r ⟨by omega, fun q4 => absurd q4 q2, fun _ => ?_⟩
    refine t_heirIn hX.r hR2.2.1 hP.1 hP.2.2.1 (by decide) hR2.2.2 (by omega) q2 ⟨by omega, fun _ => t_act h (by omega) (fun i hi => cf i (by omega) (by omega)) ?_, fun q4 => absurd q3 q4⟩
    intro m3 u' b1 b2 b3 b4 b5 b6
    refine ⟨by omega, ⟨by decide, by decide⟩, rfl, (h.acted (m2 := zup m1 24 x.toNat v) hP' (by omega) hw' (by rw [zup_row _ _ _ (by decide)]; exact a1) (by rw [zup_row _ _ _ (by decide)]; exact a2) a3 (fun k k1 k2 => (a4 k k1 k2).fr (fun i i1 i2 => zup_row _ _ _ (by omega))) cf cs ?_ ?_ b3 (hsr_up hP.1 b4 hw' (by unfold zofv; omega)) ⟨fun j j1 j2 => ?_, fun a a1 a2 => ?_⟩ ?_).gi⟩
    · rw [zup_row _ _ _ (by decide)]; exact b1
    · rw [zup_row _ _ _ (by decide)]; exact b2
    · rw [zup_row _ _ _ (by decide)]; exact b5.1 j j1 j2
    · rw [zup_row _ _ _ (by omega)]; exact b5.row a1 (by omega)
    · have := b6.up1 (by decide) hx2.1 v
      have e : (6 * 0 + x).toNat = x.toNat := by omega
      rwa [e] at this
  · exact ⟨by decide, fun q => absurd rfl q, fun _ => ref (fun c => q1 ⟨c.1.1, by omega, by decide, by decide, c.1.2⟩)⟩
end ACTS
