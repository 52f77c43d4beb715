/-! feel -/
def RK (pl : zF) (tb : Nat → Int) (i : Int) : Prop := tb (4 * i).toNat ≤ 30 ∧ tb (4 * i + 1).toNat < pl 1 2 ∧ (zcellAt (pl 0 1) (pl 0 2) (tb (4 * i + 2).toNat) (tb (4 * i + 3).toNat) ≠ -1 ∨ (tb (4 * i + 2).toNat = 255 ∧ tb (4 * i + 3).toNat = 255))
def feltOf (pl : zF) (tb : Nat → Int) (n : Int) : zF := fun s k => if s = 0 then n / 4 else if s = 1 then tb (4 * k) else if s = 2 then tb (4 * k + 1) else zcellAt (pl 0 1) (pl 0 2) (tb (4 * k + 2)) (tb (4 * k + 3))
section FEEL
variable {X : zX} {rf mem : zF} {p : Nat} {pl sc ft : zF} {hs : Int → zF} {c f u : Int} {tb : Nat → Int} {N : Int} {d : Nat}
theorem u_canFelt {Q : Int → zF → Prop} (hX : CX rf mem p pl sc) (hP : PX pl sc) (hT : TP mem tb) (hd : 3 ≤ d) {i : Int} (hi : 0 ≤ i ∧ 4 * i + 4 ≤ mem 1 1) (k1 : RK pl tb i → Q 1 mem) (k0 : ¬ RK pl tb i → Q 0 mem) : Ci X d 114 [(2, 1), (0, 4 * i), (2, p)] rf mem Q := by
  obtain ⟨d, rfl⟩ : ∃ e, d = e + 1 := ⟨d - 1, by omega⟩
  have hl := hT.2.1
  have hN := hP.1.n
  have b0 := (hT.2.2 (4 * i).toNat (by omega)).2.2
  have b1 := (hT.2.2 (4 * i + 1).toNat (by omega)).2.2
  have b2 := (hT.2.2 (4 * i + 2).toNat (by omega)).2.2
  have b3 := (hT.2.2 (4 * i + 3).toNat (by omega)).2.2
  have hcr := hP.1.cr
  unfold RK at k1 k0
  have g37 : ∀ v : Int, (v = 1 ∧ tb (4 * i + 2).toNat = 255 ∧ tb (4 * i + 3).toNat = 255) ∨ (v = 0 ∧ ¬ (tb (4 * i + 2).toNat = 255 ∧ tb (4 * i + 3).toNat = 255)) → L_seer_canBeFelt_37 X d rf Q mem p (4 * i) (tb (4 * i + 2).toNat) (tb (4 * i + 3).toNat) v := by
    intro v hv
    refine s_seer_canBeFelt_37 hX.r hX.p (u_at hX hT (by omega) ?_)
    rw [if_pos (by omega)]
    refine ⟨by omega, fun q => k0 (fun c => by omega), fun q => u_at hX hT (by omega) ?_⟩
    rw [if_pos (by omega)]
    refine u_isThere hX.r hX.p hX.pc hP.1 (by omega) (by decide) (by omega) (fun q2 => ?_) (fun q2 => ?_)
    · have q3 : tb (4 * i + 1).toNat < pl 1 2 := q2.2.2.2.2
      refine ⟨by decide, fun q => absurd q (by decide), fun _ => ⟨by omega, fun q4 => k1 ⟨by omega, q3, Or.inr (by omega)⟩, fun q4 => u_cellAt hX.r hX.p hX.pc hP.1 (by omega) (by omega) ?_⟩⟩
      have hr := zcellAt_rng (C := pl 0 1) (R := pl 0 2) (x := tb (4 * i + 2).toNat) (y := tb (4 * i + 3).toNat) (by omega) (by omega)
      unfold zic at hr
      exact ⟨by omega, fun q5 => k0 (fun c => by rcases c.2.2 with h | h; exact h q5; omega), fun q5 => k1 ⟨by omega, q3, Or.inl q5⟩⟩
    · exact ⟨by decide, fun _ => k0 (fun c => q2 ⟨b1.1, by omega, by decide, by decide, c.2.1⟩), fun q => absurd rfl q⟩
  refine s_seer_canBeFelt hX.r hX.p (u_at hX hT (by omega) ?_)
  rw [if_pos (by omega)]
  refine u_at hX hT (by omega) ?_
  rw [if_pos (by omega)]
  exact ⟨by omega, fun q => g37 0 (Or.inr ⟨rfl, fun c => q c.1⟩), fun q => ⟨by omega, fun q2 => g37 0 (Or.inr ⟨rfl, fun c => q2 c.2⟩), fun q2 => g37 1 (Or.inl ⟨rfl, q, q2⟩)⟩⟩
theorem u_take_61 {Q : Int → zF → Prop} {r : Int} (hd : 1 ≤ d) (hr : 1 ≤ r ∧ r ≤ 16) : ∀ (m : Nat) {k : Int} {mem : zF}, CX rf mem p pl sc → TP mem tb → 4 * r = mem 1 1 → 0 ≤ k → k + m = 4 * r → (∀ j : Int, 0 ≤ j → j < k → mem 48 j.toNat = tb j.toNat) → (∀ mem', (∀ i, i ≠ 35 → i ≠ 48 → mem' i = mem i) → mem' 35 7 = r → (∀ j : Int, 0 ≤ j → j < 4 * r → mem' 48 j.toNat = tb j.toNat) → Q 1 mem') → L_seer_takeFelt_61 X d rf Q mem p r k
  | 0, k, mem, hX, hT, hl, h0, hk, hb, kk => by
    refine s_seer_takeFelt_61 hX.r hX.p ⟨by omega, fun _ => kk _ (fun i i1 i2 => zup_row _ _ _ i1) (zup_at _ _ _ _) (fun j j1 j2 => by rw [zup_row _ _ _ (by decide)]; exact hb j j1 (by omega)), fun q => absurd q (by omega)⟩
  | m + 1, k, mem, hX, hT, hl, h0, hk, hb, kk => by
    refine s_seer_takeFelt_61 hX.r hX.p ⟨by omega, fun q => absurd q (by omega), fun _ => ⟨by omega, fun q => absurd q (by omega), fun _ => u_at hX hT (by omega) ⟨by omega, ?_⟩⟩⟩
    rw [if_pos (by omega)]
    have hp := hX.e
    refine u_take_61 hd hr m ⟨hX.1, hX.pc.fr (fun s h1 h2 => zup_row _ _ _ (by omega)), hX.s.fr (fun i i1 i2 => zup_row _ _ _ (by omega))⟩ ?_ (by rw [zup_row _ _ _ (by decide)]; exact hl) (by omega) (by omega) (fun j j1 j2 => ?_) (fun m1 f1 => kk m1 (fun i i1 i2 => by rw [f1 i i1 i2, zup_row _ _ _ i2]))
    · unfold TP
      rw [zup_row _ _ _ (show (1 : Nat) ≠ 48 by decide), zup_row _ _ _ (show (2 : Nat) ≠ 48 by decide), zup_row _ _ _ (show (261 : Nat) ≠ 48 by decide), zup_row _ _ _ (show (262 : Nat) ≠ 48 by decide)]
      exact hT
    · rw [zupk h0 j1]
      by_cases e : j = k
      · rw [if_pos ⟨rfl, e⟩, e]
      · rw [if_neg (fun q => e q.2)]
        exact hb j j1 (by omega)
theorem u_take_32 {Q : Int → zF → Prop} {r : Int} (hX : CX rf mem p pl sc) (hP : PX pl sc) (hT : TP mem tb) (hd : 4 ≤ d) (hr : 1 ≤ r ∧ r ≤ 16) (hl : 4 * r = mem 1 1) (k1 : (∀ i : Int, 0 ≤ i → i < r → RK pl tb i) → ∀ mem', (∀ i, i ≠ 35 → i ≠ 48 → mem' i = mem i) → mem' 35 7 = r → (∀ j : Int, 0 ≤ j → j < 4 * r → mem' 48 j.toNat = tb j.toNat) → Q 1 mem') (k0 : ¬ (∀ i : Int, 0 ≤ i → i < r → RK pl tb i) → Q 0 mem) : ∀ (m : Nat) {i : Int}, 0 ≤ i → i + m = r → (∀ j : Int, 0 ≤ j → j < i → RK pl tb j) → L_seer_takeFelt_32 X d rf Q mem p r i
  | 0, i, h0, hi, hb => by
    refine s_seer_takeFelt_32 hX.r hX.p ⟨by omega, fun _ => u_take_61 (by omega) hr (4 * r).toNat hX hT hl (by omega) (by omega) (fun j j1 j2 => by omega) (k1 (fun j j1 j2 => hb j j1 (by omega))), fun q => absurd q (by omega)⟩
  | m + 1, i, h0, hi, hb => by
    refine s_seer_takeFelt_32 hX.r hX.p ⟨by omega, fun q => absurd q (by omega), fun _ => u_canFelt hX hP hT (by omega) (by omega) (fun q => ?_) (fun q => ?_)⟩
    · refine ⟨by decide, fun _ => u_take_32 hX hP hT hd hr hl k1 k0 m (by omega) (by omega) (fun j j1 j2 => ?_), fun q => absurd q (by decide)⟩
      by_cases e : j = i
      · rw [e]; exact q
      · exact hb j j1 (by omega)
    · exact ⟨by decide, fun q => absurd rfl q, fun _ => k0 (fun h => q (h i h0 (by omega)))⟩
def aFeels (pl : zF) (tb : Nat → Int) (n : Int) : Prop := (1 ≤ n / 4 ∧ n / 4 ≤ 16 ∧ n % 4 = 0) ∧ ∀ i : Int, 0 ≤ i → i < n / 4 → RK pl tb i
theorem t_feel_151 {Q : Int → zF → Prop} (hR : zall rf zRK = true) {r : Int} (hr : 1 ≤ r ∧ r ≤ 16) (hrk : ∀ i : Int, 0 ≤ i → i < r → RK pl tb i) (hcr : (0 ≤ pl 0 1 ∧ pl 0 1 ≤ 7) ∧ (0 ≤ pl 0 2 ∧ pl 0 2 ≤ 7)) (hb : ∀ j : Nat, (j : Int) < 4 * r → 0 ≤ tb j ∧ tb j ≤ 255) : ∀ (m : Nat) {k : Int} {mem : zF}, mem 261 70 = r → (∀ j : Nat, (j : Int) < 4 * r → mem 262 j = tb j) → 0 ≤ k → k + m = r → (∀ i : Int, 0 ≤ i → i < k → mem 308 i.toNat = tb (4 * i.toNat) ∧ mem 309 i.toNat = tb (4 * i.toNat + 1) ∧ mem 310 i.toNat = zcellAt (pl 0 1) (pl 0 2) (tb (4 * i.toNat + 2)) (tb (4 * i.toNat + 3))) → (∀ mem', (∀ a, a ≠ 308 → a ≠ 309 → a ≠ 310 → mem' a = mem a) → (∀ i : Int, 0 ≤ i → i < r → mem' 308 i.toNat = tb (4 * i.toNat) ∧ mem' 309 i.toNat = tb (4 * i.toNat + 1) ∧ mem' 310 i.toNat = zcellAt (pl 0 1) (pl 0 2) (tb (4 * i.toNat + 2)) (tb (4 * i.toNat + 3))) → Q r mem') → L_m_feel_151 X d rf Q mem k
  | 0, k, mem, h7, h2, h0, hk, hd, kk => by
    refine s_m_feel_151 hR ?_
    rw [h7]
    exact ⟨by omega, fun _ => kk mem (fun _ _ _ _ => rfl) (fun i i1 i2 => hd i i1 (by omega)), fun q => absurd q (by omega)⟩
  | m + 1, k, mem, h7, h2, h0, hk, hd, kk => by
    have c0 := h2 (4 * k).toNat (by omega)
    have c1 := h2 (4 * k + 1).toNat (by omega)
    have c2 := h2 (4 * k + 2).toNat (by omega)
    have c3 := h2 (4 * k + 3).toNat (by omega)
    have b2 := hb (4 * k + 2).toNat (by omega)
    have b3 := hb (4 * k + 3).toNat (by omega)
    have hRK := hrk k h0 (by omega)
    unfold RK at hRK
    have i0 : (4 * k).toNat = 4 * k.toNat := by omega
    have i1 : (4 * k + 1).toNat = 4 * k.toNat + 1 := by omega
    have i2 : (4 * k + 2).toNat = 4 * k.toNat + 2 := by omega
    have i3 : (4 * k + 3).toNat = 4 * k.toNat + 3 := by omega
    have nxt : ∀ v : Int, v = zcellAt (pl 0 1) (pl 0 2) (tb (4 * k + 2).toNat) (tb (4 * k + 3).toNat) → L_m_feel_151 X d rf Q (zup (zup (zup mem 308 k.toNat (tb (4 * k).toNat)) 309 k.toNat (tb (4 * k + 1).toNat)) 310 k.toNat v) (k + 1) := by
      intro v hv
      refine t_feel_151 hR hr hrk hcr hb m (by rw [zup_row _ _ _ (by decide), zup_row _ _ _ (by decide), zup_row _ _ _ (by decide)]; exact h7) (fun j hj => by rw [zup_row _ _ _ (by decide), zup_row _ _ _ (by decide), zup_row _ _ _ (by decide)]; exact h2 j hj) (by omega) (by omega) (fun i i1' i2' => ?_) (fun m1 f1 => kk m1 (fun a a1 a2 a3 => by rw [f1 a a1 a2 a3, zup_row _ _ _ a3, zup_row _ _ _ a2, zup_row _ _ _ a1]))
      by_cases e : i = k
      · subst e
        rw [zup_row _ _ _ (show (308 : Nat) ≠ 310 by decide), zup_row _ _ _ (show (308 : Nat) ≠ 309 by decide), zup_at, zup_row _ _ _ (show (309 : Nat) ≠ 310 by decide), zup_at, zup_at, hv, i0, i1, i2, i3]
        exact ⟨rfl, rfl, rfl⟩
      · have hne : i.toNat ≠ k.toNat := by omega
        rw [zup_ne _ _ _ _ hne, zup_ne _ _ _ _ hne, zup_ne _ _ _ _ hne, zup_ne _ _ _ _ hne, zup_ne _ _ _ _ hne, zup_ne _ _ _ _ hne, zup_ne _ _ _ _ hne, zup_ne _ _ _ _ hne, zup_ne _ _ _ _ hne]
        exact hd i i1' (by omega)
    refine s_m_feel_151 hR ?_
    rw [h7, c0, c1, c2, c3]
    refine ⟨by omega, fun q => absurd q (by omega), fun _ => ⟨by omega, by omega, by omega, by omega, by omega, by omega, fun q => ⟨by omega, by omega, by omega, nxt _ ?_⟩, fun q => ⟨by omega, nxt _ ?_⟩⟩⟩
    · rcases hRK.2.2 with h5 | h5
      · unfold zcellAt at h5 ⊢
        split
        · rfl
        · next q2 => rw [if_neg q2] at h5; exact absurd rfl h5
      · omega
    · unfold zcellAt
      rw [if_neg (by omega)]
theorem t_feel_34 {Q : Int → zF → Prop} (hX : RX rf mem pl sc) (hP : PX pl sc) (hd : 1 ≤ d) {n : Int} (hn : 0 ≤ n ∧ n ≤ 64) (hn4 : n % 4 = 0) (hb : ∀ j : Nat, (j : Int) < n → mem 262 j = tb j ∧ 0 ≤ tb j ∧ tb j ≤ 255) (k1 : (∀ i : Int, 0 ≤ i → i < n / 4 → RK pl tb i) → L_m_feel_132 X d rf Q mem n 1) (k0 : ¬ (∀ i : Int, 0 ≤ i → i < n / 4 → RK pl tb i) → L_m_feel_132 X d rf Q mem n 0) : ∀ (m : Nat) {i : Int}, 0 ≤ i → i + m = n / 4 → (∀ j : Int, 0 ≤ j → j < i → RK pl tb j) → L_m_feel_34 X d rf Q mem n 1 (4 * i)
  | 0, i, h0, hi, hall => s_m_feel_34 hX.1 ⟨by omega, fun _ => k1 (fun j j1 j2 => hall j j1 (by omega)), fun q => absurd q (by omega)⟩
  | m + 1, i, h0, hi, hall => by
    have hN := hP.1.n
    have hcr := hP.1.cr
    have c0 := hb (4 * i).toNat (by omega)
    have c1 := hb (4 * i + 1).toNat (by omega)
    have c2 := hb (4 * i + 2).toNat (by omega)
    have c3 := hb (4 * i + 3).toNat (by omega)
    have bad : ¬ RK pl tb i → L_m_feel_34 X d rf Q mem n 0 (4 * i + 4) := by
      intro hno
      have g := k0 (fun h => hno (h i h0 (by omega)))
      exact s_m_feel_34 hX.1 ⟨by omega, fun _ => g, fun _ => ⟨by decide, fun _ => g, fun q => absurd rfl q⟩⟩
    have good : RK pl tb i → L_m_feel_34 X d rf Q mem n 1 (4 * i + 4) := by
      intro hy
      have e : 4 * i + 4 = 4 * (i + 1) := by omega
      rw [e]
      refine t_feel_34 hX hP hd hn hn4 hb k1 k0 m (by omega) (by omega) (fun j j1 j2 => ?_)
      by_cases e : j = i
      · rw [e]; exact hy
      · exact hall j j1 (by omega)
    unfold RK at bad good
    refine s_m_feel_34 hX.1 ?_
    rw [c0.1, c1.1]
    refine ⟨by omega, fun q => absurd q (by omega), fun _ => ⟨by decide, fun q => absurd q (by decide), fun _ => ⟨by omega, by omega, fun q => bad (fun c => by omega), fun q => ⟨by omega, t_isBubble hX hP.1 (by omega) (fun q1 => ?_) (fun q1 => ?_)⟩⟩⟩⟩
    · refine ⟨by decide, fun q => absurd q (by decide), fun _ => ?_⟩
      rw [c2.1, c3.1]
      refine ⟨by omega, by omega, t_cell hX.1 hd hX.2.1 hP.1 (by omega) (by omega) (fun q2 => ?_) (fun q2 => ?_)⟩
      · exact ⟨by decide, fun _ => good ⟨by omega, q1.2, Or.inl q2⟩, fun q => absurd q (by decide)⟩
      · refine ⟨by decide, fun q => absurd rfl q, fun _ => ?_⟩
        rw [c2.1, c3.1]
        refine ⟨by omega, by omega, fun q3 => bad (fun c => ?_), fun q3 => ⟨by omega, by omega, fun q4 => bad (fun c => ?_), fun q4 => good ⟨by omega, q1.2, Or.inr ⟨q3, q4⟩⟩⟩⟩
        · rcases c.2.2 with h5 | h5
          · exact h5 q2
          · exact q3 h5.1
        · rcases c.2.2 with h5 | h5
          · exact h5 q2
          · exact q4 h5.2
    · exact ⟨by decide, fun _ => bad (fun c => q1 ⟨c1.2.1, c.2.1⟩), fun q => absurd rfl q⟩
theorem p_feel (h : G rf mem p pl sc ft hs c f u tb N) (hd : 20 ≤ d) : zPR X rf d mem 169 [(2, 0)] 293 [(2, 261)] (fun m2 => GI rf m2 (N + 1)) := by
  obtain ⟨d, rfl⟩ : ∃ e, d = e + 1 := ⟨d - 1, by omega⟩
  obtain ⟨d, rfl⟩ : ∃ e, d = e + 1 := ⟨d - 1, by omega⟩
  obtain ⟨hX, hP, hR, hH, hS, hO⟩ := id h
  have hT := hO.parts.2.1
  have hl := hT.2.1
  have hp := hX.e
  have hcr := hP.1.cr
  have hN := hP.1.n
  have e4 : (mem 1 1).tdiv 4 = mem 1 1 / 4 := Int.tdiv_eq_ediv_of_nonneg hl.1
  have m4 : (mem 1 1).tmod 4 = mem 1 1 % 4 := Int.tmod_eq_emod_of_nonneg hl.1
  -- both refuse
  have ref : ¬ aFeels pl tb (mem 1 1) → Ci X (d + 1) 185 [(2, 0), (0, 5)] rf (zup mem 1 1 0) (fun r4 mem5 => Ci X (d + 1 + 1) 293 [(2, 261)] rf mem5 (fun r2 m2 => (inI r4 ∧ inI r2) ∧ r4 = r2 ∧ GI rf m2 (N + 1))) := by
    intro hno
    have hX2 : CX rf (zup mem 1 1 0) p pl sc := ⟨hX.1, hX.pc.fr (fun s h1 h2 => zup_row _ _ _ (by omega)), hX.s.fr (fun i i1 i2 => zup_row _ _ _ (by omega))⟩
    refine u_refusedN hX2 (by omega) (by decide) ?_
    have e5 : ((5 : Int)).toNat = 5 := rfl
    rw [e5]
    generalize hm1 : zup (zup mem 1 1 0) 245 5 ((zup mem 1 1 0) 245 5 + 1) = m1
    have f1 : ∀ i, i ≠ 1 → i ≠ 245 → m1 i = mem i := fun i a b => by rw [← hm1, zup_row _ _ _ b, zup_row _ _ _ a]
    have fin : ∀ (m2 : zF), m2 = zup m1 261 1 0 → (inI (-1) ∧ inI (-1)) ∧ (-1 : Int) = -1 ∧ GI rf (zup m2 292 5 (m2 292 5 + 1)) (N + 1) := by
      intro m2 hm2
      have gt := h.taped (mem' := zup (zup mem 1 1 0) 261 1 0) (tb' := tb) (fun i i1 i2 i3 i4 => by rw [zup_row _ _ _ i3, zup_row _ _ _ i1]) (fun j hj => by rw [zup_ne _ _ _ _ hj, zup_row _ _ _ (by decide)]) ⟨by rw [zup_row _ _ _ (by decide), zup_at, zup_at], by rw [zup_row _ _ _ (by decide), zup_at]; decide, fun j hj => by rw [zup_row _ _ _ (by decide), zup_at] at hj; omega⟩
      have gr := gi_refuse gt (k := 5) (by decide)
      refine ⟨⟨by decide, by decide⟩, rfl, ?_⟩
      have eq : zup m2 292 5 (m2 292 5 + 1) = zup (zup (zup (zup mem 1 1 0) 261 1 0) 245 5 ((zup (zup mem 1 1 0) 261 1 0) 245 5 + 1)) 292 5 ((zup (zup (zup mem 1 1 0) 261 1 0) 245 5 ((zup (zup mem 1 1 0) 261 1 0) 245 5 + 1)) 292 5 + 1) := by
        rw [hm2, ← hm1, zup_comm (show (245 : Nat) ≠ 261 by decide), zup_row _ _ _ (show (245 : Nat) ≠ 261 by decide)]
      rw [eq]
      exact gr
    have hR1 : RX rf (zup m1 261 1 0) pl sc := ⟨hR.1, hR.2.1.fr (by rw [zup_ne _ _ _ _ (by decide), f1 261 (by decide) (by decide)]) (by rw [zup_ne _ _ _ _ (by decide), f1 261 (by decide) (by decide)]) (fun a a1 a2 => by rw [zup_row _ _ _ (by omega), f1 a (by omega) (by omega)]), hR.2.2.fr (fun a a1 a2 => by rw [zup_row _ _ _ (by omega), f1 a (by omega) (by omega)])⟩
    have g132 : L_m_feel_132 X (d + 1) rf (fun r2 m2 => (inI (-1) ∧ inI r2) ∧ -1 = r2 ∧ GI rf m2 (N + 1)) (zup m1 261 1 0) (mem 1 1) 0 := s_m_feel_132 hX.r ⟨by decide, fun q => absurd rfl q, fun _ => t_refuses hX.r (k := 5) (by decide) (fin _ rfl)⟩
    have g34 : L_m_feel_34 X (d + 1) rf (fun r2 m2 => (inI (-1) ∧ inI r2) ∧ -1 = r2 ∧ GI rf m2 (N + 1)) (zup m1 261 1 0) (mem 1 1) 0 0 := s_m_feel_34 hX.r ⟨by omega, fun _ => g132, fun _ => ⟨by decide, fun _ => g132, fun q => absurd rfl q⟩⟩
    have el : m1 261 1 = mem 1 1 := by rw [f1 261 (by decide) (by decide)]; exact hT.1.symm
    refine s_m_feel hX.r ?_
    rw [el, m4]
    refine ⟨by omega, fun q => g34, fun q => ⟨by omega, by omega, fun q2 => g34, fun q2 => ⟨by omega, fun q3 => g34, fun q3 => ?_⟩⟩⟩
    have := t_feel_34 (X := X) (d := d + 1) (tb := tb) (Q := fun r2 m2 => (inI (-1) ∧ inI r2) ∧ -1 = r2 ∧ GI rf m2 (N + 1)) hR1 hP (by omega) (n := mem 1 1) (by omega) q2 (fun j hj => by rw [zup_row _ _ _ (by decide), f1 262 (by decide) (by decide)]; exact (hT.2.2 j hj).2) (fun hy => absurd ⟨⟨by omega, by omega, q2⟩, hy⟩ hno) (fun _ => g132) (mem 1 1 / 4).toNat (i := 0) (by omega) (by omega) (fun j j1 j2 => by omega)
    exact this
  refine s_c_feel hX.r hX.p hX.f (s_seer_takeFelt hX.r hX.p ?_)
  rw [e4, m4]
  refine ⟨by omega, by omega, fun q => ⟨by decide, fun _ => ref (fun c => by have := c.1; omega), fun q => absurd rfl q⟩, fun q => ⟨by omega, fun q2 => ⟨by decide, fun _ => ref (fun c => by have := c.1; omega), fun q => absurd rfl q⟩, fun q2 => ⟨by omega, by omega, fun q3 => ?_, fun q3 => ⟨by decide, fun _ => ref (fun c => by have := c.1; omega), fun q => absurd rfl q⟩⟩⟩⟩
  refine u_take_32 hX hP hT (by omega) (r := mem 1 1 / 4) (by omega) (by omega) (fun hall => ?_) (fun hno => ⟨by decide, fun _ => ref (fun c => hno c.2), fun q => absurd rfl q⟩) (mem 1 1 / 4).toNat (by omega) (by omega) (fun j j1 j2 => by omega)
  intro m1 f1 g7 g48
  refine ⟨by decide, fun q => absurd q (by decide), fun _ => ?_⟩
  rw [g7]
  have f2 : ∀ i, i ≠ 1 → i ≠ 35 → i ≠ 48 → (zup m1 1 1 0) i = mem i := fun i a b c => by rw [zup_row _ _ _ a, f1 i b c]
  have hR1 : RX rf (zup (zup m1 1 1 0) 261 1 0) pl sc := ⟨hR.1, hR.2.1.fr (by rw [zup_ne _ _ _ _ (by decide), f2 261 (by decide) (by decide) (by decide)]) (by rw [zup_ne _ _ _ _ (by decide), f2 261 (by decide) (by decide) (by decide)]) (fun a a1 a2 => by rw [zup_row _ _ _ (by omega), f2 a (by omega) (by omega) (by omega)]), hR.2.2.fr (fun a a1 a2 => by rw [zup_row _ _ _ (by omega), f2 a (by omega) (by omega) (by omega)])⟩
  have el : (zup m1 1 1 0) 261 1 = mem 1 1 := by rw [f2 261 (by decide) (by decide) (by decide)]; exact hT.1.symm
  refine s_m_feel hX.r ?_
  rw [el, m4]
  refine ⟨by omega, fun q => absurd q (by omega), fun _ => ⟨by omega, by omega, fun q => absurd q3 q, fun _ => ⟨by omega, fun q => absurd q (by omega), fun _ => ?_⟩⟩⟩
  have := t_feel_34 (X := X) (d := d + 1) (tb := tb) (Q := fun r2 m2 => (inI (mem 1 1 / 4) ∧ inI r2) ∧ mem 1 1 / 4 = r2 ∧ GI rf m2 (N + 1)) hR1 hP (by omega) (n := mem 1 1) (by omega) q3 (fun j hj => by rw [zup_row _ _ _ (by decide), f2 262 (by decide) (by decide) (by decide)]; exact (hT.2.2 j hj).2) (fun _ => ?_) (fun c => absurd hall c) (mem 1 1 / 4).toNat (i := 0) (by omega) (by omega) (fun j j1 j2 => by omega)
  · exact this
  · refine s_m_feel_132 hX.r ⟨by decide, fun _ => ⟨by omega, ?_⟩, fun q => absurd q (by decide)⟩
    rw [e4]
    refine t_feel_151 hX.r (pl := pl) (tb := tb) (r := mem 1 1 / 4) (by omega) hall hcr (fun j hj => (hT.2.2 j (by omega)).2.2) (mem 1 1 / 4).toNat (by rw [zup_at]) (fun j hj => by rw [zup_row _ _ _ (by decide), zup_row _ _ _ (by decide), f2 262 (by decide) (by decide) (by decide)]; exact (hT.2.2 j (by omega)).2.1) (by omega) (by omega) (fun i i1 i2 => by omega) ?_
    intro m5 f5 g5
    have f6 : ∀ a, a ≠ 1 → a ≠ 35 → a ≠ 48 → a ≠ 261 → a ≠ 308 → a ≠ 309 → a ≠ 310 → m5 a = mem a := fun a a1 a2 a3 a4 a5 a6 a7 => by rw [f5 a a5 a6 a7, zup_row _ _ _ a4, zup_row _ _ _ a4, f2 a a1 a2 a3]
    have s6 : ∀ j, j ≠ 1 → j ≠ 70 → m5 261 j = mem 261 j := fun j a b => by rw [f5 261 (by decide) (by decide) (by decide), zup_ne _ _ _ _ b, zup_ne _ _ _ _ a, f2 261 (by decide) (by decide) (by decide)]
    have r35 : m5 35 7 = mem 1 1 / 4 := by rw [f5 35 (by decide) (by decide) (by decide), zup_row _ _ _ (by decide), zup_row _ _ _ (by decide), zup_row _ _ _ (by decide)]; exact g7
    have r48 : m5 48 = m1 48 := by rw [f5 48 (by decide) (by decide) (by decide), zup_row _ _ _ (by decide), zup_row _ _ _ (by decide), zup_row _ _ _ (by decide)]
    have l1 : m5 1 1 = 0 := by rw [f5 1 (by decide) (by decide) (by decide), zup_row _ _ _ (by decide), zup_row _ _ _ (by decide), zup_at]
    have l2 : m5 261 1 = 0 := by rw [f5 261 (by decide) (by decide) (by decide), zup_ne _ _ _ _ (by decide), zup_at]
    have l70 : m5 261 70 = mem 1 1 / 4 := by rw [f5 261 (by decide) (by decide) (by decide), zup_at]
    obtain ⟨o1, o2, o3, o4, o5, o6, o7⟩ := hO.parts
    have go : GO rf m5 p pl (feltOf pl tb (mem 1 1)) tb N := by
      refine ⟨⟨⟨by show 0 ≤ mem 1 1 / 4 ∧ mem 1 1 / 4 ≤ 16; omega, fun k k1 k2 => ?_⟩, ⟨by rw [r35]; rfl, fun k k1 k2 => ?_⟩, ⟨by rw [l70]; rfl, fun k k1 k2 => ?_⟩⟩, ⟨by rw [l1, l2], by rw [l1]; decide, fun j hj => by rw [l1] at hj; omega⟩, ?_, ?_, ?_, ?_, ?_⟩
      · have k2 : k < mem 1 1 / 4 := k2
        have hk := hall k k1 k2
        unfold RK at hk
        have i0 : (4 * k).toNat = 4 * k.toNat := by omega
        have i1 : (4 * k + 1).toNat = 4 * k.toNat + 1 := by omega
        rw [i0, i1] at hk
        have b0 := (hT.2.2 (4 * k.toNat) (by omega)).2.2
        have b1 := (hT.2.2 (4 * k.toNat + 1) (by omega)).2.2
        exact ⟨⟨b0.1, hk.1⟩, ⟨b1.1, hk.2.1⟩, zcellAt_rng (by omega) (by omega)⟩
      · have k2 : k < mem 1 1 / 4 := k2
        have b2 := (hT.2.2 (4 * k + 2).toNat (by omega)).2.2
        have b3 := (hT.2.2 (4 * k + 3).toNat (by omega)).2.2
        rw [r48, g48 (4 * k) (by omega) (by omega), g48 (4 * k + 1) (by omega) (by omega), g48 (4 * k + 2) (by omega) (by omega), g48 (4 * k + 3) (by omega) (by omega)]
        have i0 : (4 * k).toNat = 4 * k.toNat := by omega
        have i1 : (4 * k + 1).toNat = 4 * k.toNat + 1 := by omega
        have i2 : (4 * k + 2).toNat = 4 * k.toNat + 2 := by omega
        have i3 : (4 * k + 3).toNat = 4 * k.toNat + 3 := by omega
        rw [i2] at b2
        rw [i3] at b3
        rw [i0, i1, i2, i3]
        exact ⟨rfl, rfl, rfl, by omega, by omega⟩
      · exact g5 k k1 k2
      · unfold IM
        rw [f6 234 (by decide) (by decide) (by decide) (by decide) (by decide) (by decide) (by decide), f6 235 (by decide) (by decide) (by decide) (by decide) (by decide) (by decide) (by decide), f6 244 (by decide) (by decide) (by decide) (by decide) (by decide) (by decide) (by decide), s6 78 (by decide) (by decide), f6 314 (by decide) (by decide) (by decide) (by decide) (by decide) (by decide) (by decide)]
        exact o3
      · unfold ST
        rw [f6 245 (by decide) (by decide) (by decide) (by decide) (by decide) (by decide) (by decide), f6 292 (by decide) (by decide) (by decide) (by decide) (by decide) (by decide) (by decide)]
        exact o4
      · unfold FL
        rw [f6 3 (by decide) (by decide) (by decide) (by decide) (by decide) (by decide) (by decide), s6 10 (by decide) (by decide), s6 11 (by decide) (by decide)]
        exact o5
      · intro s1 k a b c
        rw [s6 13 (by decide) (by decide), f6 (283 + s1) (by omega) (by omega) (by omega) (by omega) (by omega) (by omega) (by omega)]
        exact o6 s1 k a b c
      · exact ⟨o7.1, fun j hj => by rw [f6 5 (by decide) (by decide) (by decide) (by decide) (by decide) (by decide) (by decide)]; exact o7.2 j hj⟩
    refine ⟨⟨by omega, by omega⟩, rfl, (h.core (mem' := m5) (fun i hi => f6 i (by omega) (by omega) (by omega) (by omega) (by omega) (by omega) (by omega)) (fun j hj => s6 j (by omega) (by omega)) (fun a ha => f6 a (by omega) (by omega) (by omega) (by omega) (by omega) (by omega) (by omega)) go).gi⟩
end FEEL
