/-! seconds, chance, undo, end, seed: the pairs -/
section TIME2
variable {X : zX} {rf mem : zF} {p : Nat} {pl sc ft : zF} {hs : Int → zF} {c f u : Int} {tb : Nat → Int} {N : Int} {d : Nat}
theorem u_refusedN {Q : Int → zF → Prop} (hX : CX rf mem p pl sc) (hd : 1 ≤ d) {k : Int} (hk : 0 ≤ k ∧ k < 6) (kk : Q (-1) (zup mem 245 k.toNat (mem 245 k.toNat + 1))) : Ci X d 185 [(2, 0), (0, k)] rf mem Q := by
  obtain ⟨d, rfl⟩ : ∃ e, d = e + 1 := ⟨d - 1, by omega⟩
  exact s_c_refusedNumber hX.r hX.p hX.f (u_refused hX hk kk)
theorem u_goBy {by1 : Bool} {Q : Int → zF → Prop} (h : G rf mem p pl sc ft hs c f u tb N) (hd : 10 ≤ d) {n : Int} (hn : inI n) (k0 : ¬ (pl 0 1 ≠ 0 ∧ zcan sc n 1 40) → Q (-1) (zup mem 245 2 (mem 245 2 + 1))) (k1 : (pl 0 1 ≠ 0 ∧ zcan sc n 1 40) → ∀ mem' f', mem' 52 2 = min (c + 1) 20 → mem' 52 1 = f' → 0 ≤ f' ∧ f' < 20 → HSc mem' (min (c + 1) 20) f' (hsP hs c sc) → SC mem' 23 (aGoBy pl by1 n.toNat 0 0 (mem 0 9) sc).2.2.2 → mem' 0 9 = (aGoBy pl by1 n.toNat 0 0 (mem 0 9) sc).2.2.1 → (∀ j, j ≠ 9 → mem' 0 j = mem 0 j) → (∀ i, (i < 23 ∨ 34 < i) → (i < 52 ∨ 233 < i) → i ≠ 0 → i ≠ p + 9 → i ≠ p + 13 → i ≠ p + 14 → mem' i = mem i) → Q (if by1 = true then (aGoBy pl by1 n.toNat 0 0 (mem 0 9) sc).1 else (aGoBy pl by1 n.toNat 0 0 (mem 0 9) sc).2.1) mem') : Ci X d 191 [(2, 0), (0, n), (0, if by1 = true then 1 else 0)] rf mem Q := by
  obtain ⟨d, rfl⟩ : ∃ e, d = e + 1 := ⟨d - 1, by omega⟩
  obtain ⟨hX, hP, hR, hH, hS, hO⟩ := id h
  have hcr := hP.1.cr
  have hp := hX.e
  refine s_c_goBy hX.r hX.p hX.f ?_
  rw [hX.pc.r0]
  refine ⟨by omega, fun q => u_refusedN hX (by omega) (by decide) (k0 (fun c => c.1 q)), fun q => u_canPass hX hP hn (by decide) (by decide) (fun hc => ?_) (fun hc => ?_)⟩
  · refine ⟨by decide, fun _ => ?_, fun q => absurd q (by decide)⟩
    have hc2 := hc
    unfold zcan at hc2
    refine u_hpush hX (by omega) hH.1.1 hH.1.2.1 hH.2.1 hH.2.2.1 hH.2.2.2.2.2.1 ?_
    intro m1 f' a1 a2 a3 a4 a5
    have hX1 : CX rf m1 p pl sc := ⟨hX.1, hX.pc.fr (fun s h1 h2 => a5 _ (by omega)), hX.s.fr (fun i i1 i2 => a5 i (by omega))⟩
    refine u_prepare (o := 23) (w := 32) hX.r (zWrk_32 hX.r) hX.p (zScn_23 hX.r) hP.1 (by omega) (by decide) (by omega) hP.2.2.1.opn hX1.pc (hX1.s.z 2 (by decide)) ?_
    intro m2 f2 g2
    have hX2 : CX rf m2 p pl sc := ⟨hX.1, hX1.pc.fr (fun s h1 h2 => f2 _ (by omega)), hX1.s.fr (fun i i1 i2 => f2 i (by omega))⟩
    have e9 : m2 0 9 = mem 0 9 := by rw [f2 0 (by decide), a5 0 (by decide)]
    refine u_goBy_61 (by1 := by1) (op := sc 0 2) (s := mem 0 9) (by omega) hP.1 hP.2.1 hc2.2.1 n.toNat hX2 hP.2.2.1 g2 rfl (by omega) e9 hS.2 (by omega) (by omega) ?_
    intro m3 g3 g4 f3
    refine k1 ⟨q, hc⟩ m3 f' ?_ ?_ a3 (fun k k1 k2 => (a4 k k1 k2).fr (fun i i1 i2 => ?_)) g3 g4 (fun j hj => ?_) (fun i i1 i2 i3 i4 i5 i6 => ?_)
    · rw [f3.1 52 (by decide) (by decide) (by decide) (by omega) (by omega) (by omega), f2 52 (by decide)]; exact a1
    · rw [f3.1 52 (by decide) (by decide) (by decide) (by omega) (by omega) (by omega), f2 52 (by decide)]; exact a2
    · rw [f3.1 i (by omega) (by omega) (by omega) (by omega) (by omega) (by omega), f2 i (by omega)]
    · rw [f3.2 j hj, f2 0 (by decide), a5 0 (by decide)]
    · rw [f3.1 i (by omega) (by omega) i3 i4 i5 i6, f2 i (by omega), a5 i (by omega)]
  · exact ⟨by decide, fun q => absurd rfl q, fun _ => u_refusedN hX (by omega) (by decide) (k0 (fun c => hc c.2))⟩
/-- reference rows that passing seconds may change -/
def RS (mem mem' : zF) : Prop := ∀ a j, ¬ zofv 0 a j → (a < 305 ∨ 307 < a) → ¬ (a = 261 ∧ j = 66) → mem' a j = mem a j
theorem RS.trans {m1 m2 m3 : zF} (h1 : RS m1 m2) (h2 : RS m2 m3) : RS m1 m3 := fun a j p q r => (h2 a j p q r).trans (h1 a j p q r)
theorem RS.rfl {mem : zF} : RS mem mem := fun _ _ _ _ _ => Eq.refl _
theorem R7.rs {m1 m2 : zF} (h : R7 0 m1 m2) : RS m1 m2 := fun a j p q _ => h a j p (by omega) (by omega) (by omega)
theorem RS.row {m1 m2 : zF} (h : RS m1 m2) {a : Nat} (ha : a ≠ 261) (hb : a < 293 ∨ 307 < a) : m2 a = m1 a := by
  funext j
  exact h a j (by unfold zofv; omega) (by omega) (fun q => ha q.1)
theorem RS.rp {m1 m2 : zF} (h : RS m1 m2) (hp : RP m1 pl) : RP m2 pl := hp.fr (h 261 13 (by unfold zofv; omega) (by decide) (by decide)) (h 261 50 (by unfold zofv; omega) (by decide) (by decide)) (fun a a1 a2 => h.row (by omega) (by omega))
theorem RS.rv {m1 m2 s1 : zF} {v : Int} (h : RS m1 m2) (hv : 1 ≤ v) (hn : pl 1 1 ≤ 6 ∧ pl 1 2 ≤ 6) (hk : s1 0 11 ≤ 6) (hr : RV m1 v pl s1) : RV m2 v pl s1 := by
  refine ⟨?_, fun k k1 k2 => ?_, fun s k k1 k2 k3 k4 => ?_, fun j j1 j2 => ?_⟩
  · rw [h 293 _ (by unfold zofv; omega) (by decide) (by omega), h 294 _ (by unfold zofv; omega) (by decide) (by omega), h 295 _ (by unfold zofv; omega) (by decide) (by omega), h 303 _ (by unfold zofv; omega) (by decide) (by omega)]
    exact hr.1
  · rw [h 296 _ (by unfold zofv; omega) (by decide) (by omega)]
    exact hr.2.1 k k1 k2
  · rw [h (295 + s) _ (by unfold zofv; omega) (by omega) (by omega)]
    exact hr.2.2.1 s k k1 k2 k3 k4
  · rw [h 304 _ (by unfold zofv; omega) (by decide) (by omega)]
    exact hr.2.2.2 j j1 j2
theorem t_sec_25 {Q : Int → zF → Prop} (hR : zall rf zRK = true) (hD : 6 ≤ d) (hP : WP pl) (hrk : WR3 pl) {nn : Int} (hnn : nn ≤ 40) {s br : Int} : ∀ (n : Nat) {x bu : Int} {mem sc : zF}, RP mem pl → RV mem 0 pl sc → WS pl sc → sc 0 0 + n ≤ 999 → 0 ≤ x → x + n = nn → (∀ mem', RV mem' 0 pl (aGoBy pl false n br bu s sc).2.2.2 → RS mem mem' → mem' 261 66 = mem 261 66 → Q (aGoBy pl false n br bu s sc).2.1 mem') → L_m_seconds_25 X d rf Q mem nn bu x
  | 0, x, bu, mem, sc, hp, hv, hW, h9, h0, hx, kk => s_m_seconds_25 hR ⟨by omega, fun _ => kk mem hv RS.rfl rfl, fun q => absurd q (by omega)⟩
  | n + 1, x, bu, mem, sc, hp, hv, hW, h9, h0, hx, kk => by
    have ea : aGone pl false s sc = (0, (aPass pl (zwind pl (sc 0 2)) (-1) sc).1, s, (aPass pl (zwind pl (sc 0 2)) (-1) sc).2) := by
      unfold aGone
      rw [if_neg (by simp), if_neg (by decide)]
    unfold aGoBy at kk
    rw [ea] at kk
    have e0 : br + ((0 : Int), (aPass pl (zwind pl (sc 0 2)) (-1) sc).1, s, (aPass pl (zwind pl (sc 0 2)) (-1) sc).2).1 = br := Int.add_zero br
    rw [e0] at kk
    refine s_m_seconds_25 hR ⟨by omega, fun q => absurd q (by omega), fun _ => t_ticks hR hD hP hrk (by decide) (by decide) hp hv hW ?_⟩
    intro m1 g1 f1
    refine t_sec_25 hR hD hP hrk hnn (s := s) (br := br) n (f1.rp hp) g1 (hW.pass hP _ _ (by omega)) (by rw [aPass_sec]; omega) (by omega) (by omega) ?_
    intro m2 g2 f2 f3
    exact kk m2 g2 (f1.rs.trans f2) (f3.trans (by rw [f1.row (by decide)]))
theorem t_chc_25 {Q : Int → zF → Prop} (hR : zall rf zRK = true) (hD : 6 ≤ d) (hP : WP pl) (hrk : WR3 pl) {nn : Int} (hnn : nn ≤ 40) : ∀ (n : Nat) {x br bu s : Int} {mem sc : zF}, RP mem pl → RV mem 0 pl sc → WS pl sc → sc 0 0 + n ≤ 999 → mem 261 66 = s → (0 ≤ s ∧ s < 2147483648) → 0 ≤ x → x + n = nn → (∀ mem', RV mem' 0 pl (aGoBy pl true n br bu s sc).2.2.2 → RS mem mem' → mem' 261 66 = (aGoBy pl true n br bu s sc).2.2.1 → Q (aGoBy pl true n br bu s sc).1 mem') → L_m_chance_25 X d rf Q mem nn br x
  | 0, x, br, bu, s, mem, sc, hp, hv, hW, h9, hs0, hs, h0, hx, kk => s_m_chance_25 hR ⟨by omega, fun _ => kk mem hv RS.rfl hs0, fun q => absurd q (by omega)⟩
  | n + 1, x, br, bu, s, mem, sc, hp, hv, hW, h9, hs0, hs, h0, hx, kk => by
    have hb := hP.breath
    have hz := zsd_rng s
    have hz2 := zsd_rng (zsd s)
    have hgs := aGone_s (pl := pl) (sc := sc) (by1 := true) hs
    have hW1 := WS.gone (by1 := true) (s := s) hP hW (by omega)
    have draw : ∀ (m1 : zF) (v : Int), RP m1 pl → RV m1 0 pl sc → RP (zup m1 261 66 v) pl ∧ RV (zup m1 261 66 v) 0 pl sc ∧ (zup m1 261 66 v) 261 66 = v ∧ RS m1 (zup m1 261 66 v) := by
      intro m1 v hp1 hv1
      have hc : RS m1 (zup m1 261 66 v) := fun a j _ _ q => by rw [zup_get, if_neg q]
      exact ⟨hc.rp hp1, hv1.fr (fun a a1 a2 => zup_row _ _ _ (by omega)), zup_at _ _ _ _, hc⟩
    obtain ⟨dp, dv, d6, dr⟩ := draw mem (zsd s) hp hv
    unfold aGoBy at kk
    have nxt : ∀ (m1 : zF) (w b1 s1 : Int), -1 ≤ w ∧ w < 4 → RP m1 pl → RV m1 0 pl sc → m1 261 66 = s1 → RS mem m1 → aGone pl true s sc = (b1, (aPass pl (zwind pl (sc 0 2)) w sc).1, s1, (aPass pl (zwind pl (sc 0 2)) w sc).2) → Ci X d 268 [(2, 261), (0, 0), (0, w)] rf m1 (fun _ mem14 => L_m_chance_25 X d rf Q mem14 nn (br + b1) (x + 1)) := by
      intro m1 w b1 s1 hw p1 v1 e1 r1 ea
      rw [ea] at kk hgs hW1
      refine t_ticks hR hD hP hrk (by decide) hw p1 v1 hW ?_
      intro m2 g2 f2
      refine t_chc_25 hR hD hP hrk hnn (s := s1) (bu := bu + (aPass pl (zwind pl (sc 0 2)) w sc).1) n (f2.rp p1) g2 hW1.1 (by have := hW1.2.1; dsimp only at this; rw [this]; omega) (by rw [f2.row (by decide)]; exact e1) hgs (by omega) (by omega) ?_
      intro m3 g3 f3 e3
      exact kk m3 g3 ((r1.trans f2.rs).trans f3) e3
    refine s_m_chance_25 hR ⟨by omega, fun q => absurd q (by omega), fun _ => t_draw hR hs0 hs (by decide) ⟨dp.bank, ?_⟩⟩
    rw [dp.n.2.2.2]
    refine ⟨by omega, fun q => ?_, fun q => ?_⟩
    · refine s_m_chance_53 hR ⟨by decide, fun _ => s_m_chance_66 hR ⟨by decide, fun _ => ?_, fun q => absurd rfl q⟩, fun q => absurd rfl q⟩
      refine nxt _ (-1) 0 (zsd s) (by decide) dp dv d6 dr ?_
      unfold aGone
      rw [if_neg (fun c => by omega), if_pos rfl]
    · refine s_m_chance_53 hR ⟨by decide, fun q => absurd q (by decide), fun _ => s_m_chance_66 hR ⟨by decide, fun q => absurd q (by decide), fun _ => t_draw hR d6 hz (by decide) ?_⟩⟩
      obtain ⟨dp2, dv2, d62, dr2⟩ := draw _ (zsd (zsd s)) dp dv
      refine nxt _ _ 1 (zsd (zsd s)) (by omega) dp2 dv2 d62 (dr.trans dr2) ?_
      unfold aGone
      rw [if_pos ⟨rfl, by omega⟩]
/-- all of it together behind seconds gone by -/
theorem G.timed {by1 : Bool} {n : Int} {m3 m4 m5 : zF} {f' u' : Int} (h : G rf mem p pl sc ft hs c f u tb N) (hn : 0 ≤ n ∧ sc 0 0 + n ≤ 999) (a1 : m3 52 2 = min (c + 1) 20) (a2 : m3 52 1 = f') (a3 : 0 ≤ f' ∧ f' < 20) (a4 : HSc m3 (min (c + 1) 20) f' (hsP hs c sc)) (a5 : SC m3 23 (aGoBy pl by1 n.toNat 0 0 (mem 0 9) sc).2.2.2) (a6 : m3 0 9 = (aGoBy pl by1 n.toNat 0 0 (mem 0 9) sc).2.2.1) (a7 : ∀ j, j ≠ 9 → m3 0 j = mem 0 j) (a8 : ∀ i, (i < 23 ∨ 34 < i) → (i < 52 ∨ 233 < i) → i ≠ 0 → i ≠ p + 9 → i ≠ p + 13 → i ≠ p + 14 → m3 i = mem i) (b1 : m4 261 65 = min (c + 1) 20) (b2 : m4 261 64 = u') (b3 : 0 ≤ u' ∧ u' < 20) (b4 : HSr m4 (min (c + 1) 20) u' pl (hsP hs c sc)) (b5 : KF m3 m4) (c1 : RV m5 0 pl (aGoBy pl by1 n.toNat 0 0 (mem 0 9) sc).2.2.2) (c2 : RS m4 m5) (c3 : m5 261 66 = (aGoBy pl by1 n.toNat 0 0 (mem 0 9) sc).2.2.1) : G rf m5 p pl (aGoBy pl by1 n.toNat 0 0 (mem 0 9) sc).2.2.2 ft (hsP hs c sc) (min (c + 1) 20) f' u' tb N := by
  obtain ⟨hX, hP, hR, hH, hS, hO⟩ := h
  have hp := hX.e
  have hN := hP.1.n
  have hc0 := hH.2.1
  have ok := aGoBy_ok (by1 := by1) hP.1 n.toNat (br := 0) (bu := 0) (s := mem 0 9) hP.2.2.1 (by omega) hS.2 (by omega)
  have hw' := hH.2.2.2.2.1.push hP hH.2.1
  have low : ∀ i, i < 261 → m5 i = m3 i := fun i hi => (c2.row (by omega) (by omega)).trans (b5.row (by omega) (by omega))
  have base : ∀ i, i < 261 → (i < 23 ∨ 34 < i) → (i < 52 ∨ 233 < i) → i ≠ 0 → i ≠ p + 9 → i ≠ p + 13 → i ≠ p + 14 → m5 i = mem i := fun i a b c e x y z => (low i a).trans (a8 i b c e x y z)
  have s261 : ∀ j, j ≠ 64 → j ≠ 65 → j ≠ 66 → m5 261 j = mem 261 j := fun j a b c => by rw [c2 261 j (by unfold zofv; omega) (by decide) (fun q => c q.2), b5.1 j a b, a8 261 (by omega) (by omega) (by omega) (by omega) (by omega) (by omega)]
  have hi : ∀ a, 261 < a → (a < 293 ∨ 307 < a) → m5 a = mem a := fun a b c => by rw [c2.row (by omega) c, b5.row (by omega) (by omega), a8 a (by omega) (by omega) (by omega) (by omega) (by omega) (by omega)]
  have hA : AF p mem m5 := ⟨fun i a b c' e x y z => base i c' (by omega) b e x y z, ⟨base 48 (by decide) (by decide) (by decide) (by decide) (by omega) (by omega) (by omega), by rw [base 35 (by decide) (by decide) (by decide) (by decide) (by omega) (by omega) (by omega)]⟩, fun j hj => by rw [low 0 (by decide)]; exact a7 j hj, s261, fun a b c => hi a b (by omega)⟩
  refine ⟨⟨hX.1, hX.pc.fr (fun s h1 h2 => base _ (by omega) (by omega) (by omega) (by omega) (by omega) (by omega) (by omega)), a5.fr (fun i i1 i2 => low i (by omega))⟩, ⟨hP.1, hP.2.1, ok.1, ok.2.1⟩, ⟨hR.1, hR.2.1.fr (s261 13 (by decide) (by decide) (by decide)) (s261 50 (by decide) (by decide) (by decide)) (fun a a1 a2 => hi a (by omega) (by omega)), c1⟩, ⟨⟨by rw [low 52 (by decide)]; exact a1, by rw [low 52 (by decide)]; exact a2, by rw [c2 261 65 (by unfold zofv; omega) (by decide) (by decide)]; exact b1, by rw [c2 261 64 (by unfold zofv; omega) (by decide) (by decide)]; exact b2⟩, by omega, a3, b3, hw', fun k k1 k2 => (a4 k k1 k2).fr (fun i i1 i2 => low i (by omega)), fun k k1 k2 => c2.rv (by omega) (by omega) (hw' k k1 k2).1.k6.2 (b4 k k1 k2)⟩, ⟨by rw [low 0 (by decide), a6, c3], by rw [low 0 (by decide), a6]; exact ok.2.2.1⟩, hO.af hp hA⟩
theorem p_seconds (h : G rf mem p pl sc ft hs c f u tb N) (hd : 20 ≤ d) {x : Int} (hx : inI x) : zPR X rf d mem 172 [(2, 0), (0, x)] 299 [(2, 261), (0, x)] (fun m2 => GI rf m2 (N + 1)) := by
  obtain ⟨d, rfl⟩ : ∃ e, d = e + 1 := ⟨d - 1, by omega⟩
  obtain ⟨hX, hP, hR, hH, hS, hO⟩ := id h
  refine s_c_seconds hX.r hX.p hX.f (u_goBy (by1 := false) h (by omega) hx (fun hno => ?_) (fun hyes => ?_))
  · refine both_refuse (k := 2) h (by decide) (by decide) (fun {Q} {m1} hR1 _ kk => ?_)
    exact s_m_seconds hX.r (t_isAhead hR1 hP (by omega) hx (by decide) (by decide) (fun q => absurd q hno) (fun _ => ⟨by decide, fun q => absurd rfl q, fun _ => t_refuses hX.r (k := 2) (by decide) kk⟩) (by decide))
  · intro m3 f' a1 a2 a3 a4 a5 a6 a7 a8
    have hc2 := hyes.2
    unfold zcan at hc2
    have hp := hX.e
    have cf : ∀ i, 261 ≤ i → m3 i = mem i := fun i hi => a8 i (by omega) (by omega) (by omega) (by omega) (by omega) (by omega)
    have hR3 : RX rf m3 pl sc := ⟨hR.1, hR.2.1.fr (by rw [cf 261 (by decide)]) (by rw [cf 261 (by decide)]) (fun a b1 b2 => cf a (by omega)), hR.2.2.fr (fun a b1 b2 => cf a (by omega))⟩
    have ok := aGoBy_ok (by1 := false) hP.1 x.toNat (br := 0) (bu := 0) (s := mem 0 9) hP.2.2.1 (by omega) hS.2 (by omega)
    refine s_m_seconds hX.r (t_isAhead hR3 hP (by omega) hx (by decide) (by decide) (fun _ => ⟨by decide, fun _ => t_act h (by omega) cf ?_, fun q => absurd q (by decide)⟩) (fun q => absurd hyes q) (by decide))
    intro m4 u' b1 b2 b3 b4 b5 b6
    refine t_sec_25 hX.r (by omega) hP.1 hP.2.1 hc2.2.1 (s := mem 0 9) (br := 0) x.toNat (b5.rp hR3.2.1) b6 hP.2.2.1 (by omega) (by omega) (by omega) ?_
    intro m5 e1 e2 e3
    have es : (aGoBy pl false x.toNat 0 0 (mem 0 9) sc).2.2.1 = mem 0 9 := by
      have : ∀ (n : Nat) (br bu s : Int) (sc : zF), (aGoBy pl false n br bu s sc).2.2.1 = s := by
        intro n
        induction n with
        | zero => intro br bu s sc; rfl
        | succ n ih =>
          intro br bu s sc
          show (aGoBy pl false n _ _ _ _).2.2.1 = s
          rw [ih]
          unfold aGone
          rw [if_neg (by simp), if_neg (by decide)]
      exact this _ _ _ _ _
    refine ⟨⟨by show inI (aGoBy pl false x.toNat 0 0 (mem 0 9) sc).2.1; omega, by omega⟩, rfl, (h.timed (by1 := false) (n := x) (by omega) a1 a2 a3 a4 a5 a6 a7 a8 b1 b2 b3 b4 b5 e1 e2 ?_).gi⟩
    rw [e3, b5.1 66 (by decide) (by decide), cf 261 (by decide), es, hS.1]
theorem p_chance (h : G rf mem p pl sc ft hs c f u tb N) (hd : 20 ≤ d) {x : Int} (hx : inI x) : zPR X rf d mem 173 [(2, 0), (0, x)] 301 [(2, 261), (0, x)] (fun m2 => GI rf m2 (N + 1)) := by
  obtain ⟨d, rfl⟩ : ∃ e, d = e + 1 := ⟨d - 1, by omega⟩
  obtain ⟨hX, hP, hR, hH, hS, hO⟩ := id h
  refine s_c_chance hX.r hX.p hX.f (u_goBy (by1 := true) h (by omega) hx (fun hno => ?_) (fun hyes => ?_))
  · refine both_refuse (k := 2) h (by decide) (by decide) (fun {Q} {m1} hR1 _ kk => ?_)
    exact s_m_chance hX.r (t_isAhead hR1 hP (by omega) hx (by decide) (by decide) (fun q => absurd q hno) (fun _ => ⟨by decide, fun q => absurd rfl q, fun _ => t_refuses hX.r (k := 2) (by decide) kk⟩) (by decide))
  · intro m3 f' a1 a2 a3 a4 a5 a6 a7 a8
    have hc2 := hyes.2
    unfold zcan at hc2
    have hp := hX.e
    have cf : ∀ i, 261 ≤ i → m3 i = mem i := fun i hi => a8 i (by omega) (by omega) (by omega) (by omega) (by omega) (by omega)
    have hR3 : RX rf m3 pl sc := ⟨hR.1, hR.2.1.fr (by rw [cf 261 (by decide)]) (by rw [cf 261 (by decide)]) (fun a b1 b2 => cf a (by omega)), hR.2.2.fr (fun a b1 b2 => cf a (by omega))⟩
    have ok := aGoBy_ok (by1 := true) hP.1 x.toNat (br := 0) (bu := 0) (s := mem 0 9) hP.2.2.1 (by omega) hS.2 (by omega)
    refine s_m_chance hX.r (t_isAhead hR3 hP (by omega) hx (by decide) (by decide) (fun _ => ⟨by decide, fun _ => t_act h (by omega) cf ?_, fun q => absurd q (by decide)⟩) (fun q => absurd hyes q) (by decide))
    intro m4 u' b1 b2 b3 b4 b5 b6
    refine t_chc_25 hX.r (by omega) hP.1 hP.2.1 hc2.2.1 (s := mem 0 9) (bu := 0) x.toNat (b5.rp hR3.2.1) b6 hP.2.2.1 (by omega) (by rw [b5.1 66 (by decide) (by decide), cf 261 (by decide), hS.1]) hS.2 (by omega) (by omega) ?_
    intro m5 e1 e2 e3
    exact ⟨⟨by show inI (aGoBy pl true x.toNat 0 0 (mem 0 9) sc).1; omega, by omega⟩, rfl, (h.timed (by1 := true) (n := x) (by omega) a1 a2 a3 a4 a5 a6 a7 a8 b1 b2 b3 b4 b5 e1 e2 e3).gi⟩
theorem p_undo (h : G rf mem p pl sc ft hs c f u tb N) (hd : 20 ≤ d) : zPR X rf d mem 177 [(2, 0)] 246 [(2, 261)] (fun m2 => GI rf m2 (N + 1)) := by
  obtain ⟨d, rfl⟩ : ∃ e, d = e + 1 := ⟨d - 1, by omega⟩
  obtain ⟨hX, hP, hR, hH, hS, hO⟩ := id h
  have hN := hP.1.n
  have hc0 := hH.2.1
  have hu0 := hH.2.2.2.1
  refine s_c_undo hX.r hX.p hX.f (u_hpop hX (by omega) hH.1.1 hH.1.2.1 hH.2.1 hH.2.2.1 hH.2.2.2.2.2.1 (fun hpos => ?_) (fun hz => ?_))
  · intro m1 a1 a2 a3 a4
    refine ⟨by decide, fun _ => ?_, fun q => absurd q (by decide)⟩
    have hw := hH.2.2.2.2.1 (c - 1) (by omega) (by omega)
    have hP' : PX pl (hs (c - 1)) := ⟨hP.1, hP.2.1, hw.1, hw.2⟩
    have e65 : m1 261 65 = c := by rw [a4 261 (by decide) (by decide)]; exact hH.1.2.2.1
    have e64 : m1 261 64 = u := by rw [a4 261 (by decide) (by decide)]; exact hH.1.2.2.2
    refine s_m_undo hX.r ?_
    rw [e65]
    refine ⟨by omega, fun _ => s_m_slot hX.r ?_, fun q => absurd q (by omega)⟩
    rw [zup_ne _ _ _ _ (show (64 : Nat) ≠ 65 by decide), e64, tmod20 (by omega)]
    have hv : RV (zup m1 261 65 (c - 1)) (2 + (u + (c - 1)) % 20) pl (hs (c - 1)) := (hH.2.2.2.2.2.2 (c - 1) (by omega) (by omega)).fr (fun a b1 b2 => by rw [zup_row _ _ _ (by omega), a4 a (by omega) (by omega)])
    refine ⟨by omega, t_copies hX.r hP.1 hw.1 (by decide) (by omega) (by omega) hv ?_⟩
    intro m2 g2 f2
    refine ⟨⟨by decide, by decide⟩, rfl, (h.acted (m2 := m1) (f' := f) (u' := u) (c' := c - 1) (hs' := hs) hP' (by omega) (fun k k1 k2 => hH.2.2.2.2.1 k k1 (by omega)) a1 a2 hH.2.2.1 (fun k k1 k2 => (hH.2.2.2.2.2.1 k k1 (by omega)).fr (fun i i1 i2 => a4 i (by omega) (by omega))) (fun i i1 i2 => a4 i (by omega) i1) a3 ?_ ?_ hu0 (fun k k1 k2 => ?_) ⟨fun j j1 j2 => ?_, fun a a1 a2 => ?_⟩ g2).gi⟩
    · rw [f2.row (by decide), zup_at]
    · rw [f2.row (by decide), zup_ne _ _ _ _ (by decide)]; exact e64
    · have := f2.rv (v2 := 2 + (u + k) % 20) (pl := pl) (sc := hs k) (by omega) (by decide) (by omega) (by omega) (hH.2.2.2.2.1 k k1 (by omega)).1.k6.2 ((hH.2.2.2.2.2.2 k k1 (by omega)).fr (fun a b1 b2 => by rw [zup_row _ _ _ (by omega), a4 a (by omega) (by omega)]))
      exact this
    · rw [f2.row (by decide), zup_ne _ _ _ _ j2]
    · rw [f2.row (by omega), zup_row _ _ _ a1]
  · refine ⟨by decide, fun q => absurd rfl q, fun _ => u_refused hX (by decide) ⟨by decide, fun _ => both_refuse (k := 4) h (by decide) (by decide) (fun {Q} {m1} hR1 hf kk => ?_), fun q => absurd rfl q⟩⟩
    refine s_m_undo hX.r ?_
    rw [hf 261 (by decide), hH.1.2.2.1]
    exact ⟨by omega, fun q => absurd hz q, fun _ => t_refuses hX.r (k := 4) (by decide) ⟨by decide, fun _ => kk, fun q => absurd q (by decide)⟩⟩
theorem p_seed (h : G rf mem p pl sc ft hs c f u tb N) (hd : 20 ≤ d) {x : Int} (hx : inI x) : zPR X rf d mem 178 [(2, 0), (0, x)] 305 [(2, 261), (0, x)] (fun m2 => GI rf m2 (N + 1)) := by
  obtain ⟨d, rfl⟩ : ∃ e, d = e + 1 := ⟨d - 1, by omega⟩
  obtain ⟨hX, hP, hR, hH, hS, hO⟩ := id h
  have hp := hX.e
  refine s_c_seed hX.r hX.p hX.f ⟨hx, fun q => ?_, fun q => u_refused hX (by decide) ⟨Or.inl rfl, both_refuse (k := 5) h (by decide) (by decide) (fun {Q} {m1} _ _ kk => s_m_seed hX.r ⟨hx, fun q2 => absurd q2 q, fun _ => t_refuses hX.r (k := 5) (by decide) ⟨by decide, fun _ => kk, fun q => absurd q (by decide)⟩⟩)⟩⟩
  refine s_m_seed hX.r ⟨hx, fun _ => ⟨hx, ⟨by decide, by decide⟩, rfl, ?_⟩, fun q2 => absurd q q2⟩
  have r : ∀ i, i ≠ 0 → i ≠ 261 → (zup (zup mem 0 9 x) 261 66 x) i = mem i := fun i a b => by rw [zup_row _ _ _ b, zup_row _ _ _ a]
  have s261 : ∀ j, j ≠ 66 → (zup (zup mem 0 9 x) 261 66 x) 261 j = mem 261 j := fun j hj => by rw [zup_ne _ _ _ _ hj, zup_row _ _ _ (by decide)]
  have hA : AF p mem (zup (zup mem 0 9 x) 261 66 x) := ⟨fun i _ _ a b _ _ _ => r i b (by omega), ⟨r 48 (by decide) (by decide), by rw [r 35 (by decide) (by decide)]⟩, fun j hj => by rw [zup_row _ _ _ (by decide), zup_ne _ _ _ _ hj], fun j _ _ hj => s261 j hj, fun a ha _ => r a (by omega) (by omega)⟩
  refine G.gi (p := p) (pl := pl) (sc := sc) (ft := ft) (hs := hs) (c := c) (f := f) (u := u) (tb := tb) ⟨⟨hX.1, hX.pc.fr (fun s h1 h2 => r _ (by omega) (by omega)), hX.s.fr (fun i i1 i2 => r i (by omega) (by omega))⟩, hP, ⟨hR.1, hR.2.1.fr (s261 13 (by decide)) (s261 50 (by decide)) (fun a a1 a2 => r a (by omega) (by omega)), hR.2.2.fr (fun a a1 a2 => r a (by omega) (by omega))⟩, ?_, ⟨by rw [zup_row _ _ _ (by decide), zup_at, zup_at], by rw [zup_row _ _ _ (by decide), zup_at]; omega⟩, hO.af hp hA⟩
  obtain ⟨h1, h2, h3, h4, h5, h6, h7⟩ := hH
  refine ⟨?_, h2, h3, h4, h5, fun k k1 k2 => (h6 k k1 k2).fr (fun i i1 i2 => r i (by omega) (by omega)), fun k k1 k2 => (h7 k k1 k2).fr (fun i i1 i2 => r i (by omega) (by omega))⟩
  rw [r 52 (by decide) (by decide), s261 65 (by decide), s261 64 (by decide)]
  exact h1
/-- the tape changes, nothing else -/
theorem G.taped {mem' : zF} {tb' : Nat → Int} (h : G rf mem p pl sc ft hs c f u tb N) (a : ∀ i, i ≠ 1 → i ≠ 2 → i ≠ 261 → i ≠ 262 → mem' i = mem i) (b : ∀ j, j ≠ 1 → mem' 261 j = mem 261 j) (ht : TP mem' tb') : G rf mem' p pl sc ft hs c f u tb' N := by
  have hp := h.1.e
  refine h.core (fun i hi => a i (by omega) (by omega) (by omega) (by omega)) (fun j hj => b j (by omega)) (fun i hi => a i (by omega) (by omega) (by omega) (by omega)) ?_
  obtain ⟨h1, h2, h3, h4, h5, h6, h7⟩ := h.2.2.2.2.2.parts
  refine ⟨⟨h1.1, ?_, ?_⟩, ht, ?_, ?_, ?_, ?_, ?_⟩
  · unfold FEc
    rw [a 35 (by decide) (by decide) (by decide) (by decide), a 48 (by decide) (by decide) (by decide) (by decide)]
    exact h1.2.1
  · unfold FEr
    rw [b 70 (by decide), a 308 (by decide) (by decide) (by decide) (by decide), a 309 (by decide) (by decide) (by decide) (by decide), a 310 (by decide) (by decide) (by decide) (by decide)]
    exact h1.2.2
  · unfold IM
    rw [a 234 (by decide) (by decide) (by decide) (by decide), a 235 (by decide) (by decide) (by decide) (by decide), a 244 (by decide) (by decide) (by decide) (by decide), b 78 (by decide), a 314 (by decide) (by decide) (by decide) (by decide)]
    exact h3
  · unfold ST
    rw [a 245 (by decide) (by decide) (by decide) (by decide), a 292 (by decide) (by decide) (by decide) (by decide)]
    exact h4
  · unfold FL
    rw [a 3 (by decide) (by decide) (by decide) (by decide), b 10 (by decide), b 11 (by decide)]
    exact h5
  · intro s1 k x y z
    rw [b 13 (by decide), a (283 + s1) (by omega) (by omega) (by omega) (by omega)]
    exact h6 s1 k x y z
  · exact ⟨h7.1, fun j hj => by rw [a 5 (by decide) (by decide) (by decide) (by decide)]; exact h7.2 j hj⟩
theorem p_end (h : G rf mem p pl sc ft hs c f u tb N) (hd : 20 ≤ d) {x : Int} (hx : inI x) : zPR X rf d mem 150 [(2, 0), (0, x)] 197 [(2, 261), (0, x)] (fun m2 => GI rf m2 (N + 1)) := by
  obtain ⟨d, rfl⟩ : ∃ e, d = e + 1 := ⟨d - 1, by omega⟩
  obtain ⟨hX, hP, hR, hH, hS, hO⟩ := id h
  have hT := hO.parts.2.1
  have hl := hT.2.1
  have t12 : ∀ {Q : Int → zF → Prop} {m1 : zF}, Q 0 (zup m1 292 0 (m1 292 0 + 1)) → L_m_end_12 X d rf Q m1 := fun {Q} {m1} kk => s_m_end_12 hX.r (t_refuses hX.r (k := 0) (by decide) ⟨by decide, fun _ => kk, fun q => absurd q (by decide)⟩)
  have ref : ¬ (0 ≤ x ∧ x ≤ mem 1 1) → Ci X d 184 [(2, 0), (0, 0)] rf mem (fun r m => (r = 0 ∨ r = 1) ∧ Ci X (d + 1) 197 [(2, 261), (0, x)] rf m (fun r2 m2 => (inI r ∧ inI r2) ∧ r = r2 ∧ GI rf m2 (N + 1))) := by
    intro hno
    refine u_refused hX (by decide) ⟨Or.inl rfl, both_refuse (k := 0) h (by decide) (by decide) (fun {Q} {m1} _ hf kk => ?_)⟩
    refine s_m_end hX.r ?_
    rw [hf 261 (by decide), ← hT.1]
    exact ⟨hx, fun _ => t12 kk, fun _ => ⟨⟨hx, by omega⟩, fun q => absurd q (by omega), fun _ => t12 kk⟩⟩
  refine s_c_end hX.r hX.p hX.f ⟨hx, fun q => ref (by omega), fun q => ⟨⟨hx, by omega⟩, fun q2 => ?_, fun q2 => ref (by omega)⟩⟩
  refine s_m_end hX.r ?_
  rw [zup_row _ _ _ (show (261 : Nat) ≠ 1 by decide), ← hT.1]
  refine ⟨hx, fun q3 => absurd q3 q, fun _ => ⟨⟨hx, by omega⟩, fun _ => ⟨⟨by decide, by decide⟩, rfl, (h.taped (tb' := tb) (fun i i1 i2 i3 i4 => by rw [zup_row _ _ _ i3, zup_row _ _ _ i1]) (fun j hj => by rw [zup_ne _ _ _ _ hj, zup_row _ _ _ (by decide)]) ?_).gi⟩, fun q3 => absurd q2 q3⟩⟩
  have e1 : (zup (zup mem 1 1 x) 261 1 x) 1 1 = x := by rw [zup_row _ _ _ (by decide), zup_at]
  refine ⟨by rw [e1, zup_at], by rw [e1]; omega, fun j hj => ?_⟩
  rw [e1] at hj
  rw [zup_row _ _ _ (show (2 : Nat) ≠ 261 by decide), zup_row _ _ _ (show (2 : Nat) ≠ 1 by decide), zup_row _ _ _ (show (262 : Nat) ≠ 261 by decide), zup_row _ _ _ (show (262 : Nat) ≠ 1 by decide)]
  exact hT.2.2 j (by omega)
end TIME2
