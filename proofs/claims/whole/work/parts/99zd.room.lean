/-! room: both, and all is as it must be -/
theorem zW.det {X : zX} {d M pc : Nat} {ls st : List zV} {S : zS} {Q1 Q2 : Option zV → zS → Prop} (h1 : zW X d M pc ls st S Q1) (h2 : zW X d M pc ls st S Q2) : ∃ r S', Q1 r S' ∧ Q2 r S' := by
  obtain ⟨n, r, S', e1, q1⟩ := h1
  obtain ⟨m, r2, S2, e2, q2⟩ := h2
  have a := zexec_more e1 m
  have b := zexec_more e2 n
  rw [Nat.add_comm, a] at b
  cases b
  exact ⟨r, S', q1, q2⟩
theorem L29.det {X : zX} {D : Nat} {rf mem : zF} {p : Nat} (h1 : L_parser_read_29 X D rf (fun r _ => r = 1) mem p 1 0) (h2 : L_parser_read_29 X D rf (fun r _ => r = 0) mem p 1 0) : False := by
  obtain ⟨r, S', ⟨x, m, e1, e2, q1⟩, ⟨y, m2, e3, e4, q2⟩⟩ := zW.det (h1 (0, 0) (by decide)) (h2 (0, 0) (by decide))
  rw [e1] at e3
  cases e3
  rw [q1] at q2
  exact absurd q2 (by decide)
theorem TP.zero {mem : zF} {tb : Nat → Int} (h1 : mem 1 1 = 0) (h2 : mem 261 1 = 0) : TP mem tb := ⟨by rw [h1, h2], by rw [h1]; decide, fun j hj => by rw [h1] at hj; omega⟩
theorem zPln_of {rf : zF} {q : Nat} (h : zall rf zRK = true) (hq : q = 8 ∨ q = 246) : zPln rf q := by
  rcases hq with rfl | rfl
  · exact zPln_8 h
  · exact zPln_246 h
theorem zRul_of {rf : zF} {q : Nat} (h : zall rf zRK = true) (hq : q = 8 ∨ q = 246) : zRul rf (q + 9) := by
  rcases hq with rfl | rfl
  · exact zRul_17 h
  · exact zRul_255 h
section PROOM
variable {X : zX} {rf mem : zF} {p : Nat} {pl sc ft : zF} {hs : Int → zF} {c f u : Int} {tb : Nat → Int} {N : Int}
/-- a refused text: all stays -/
theorem g_fail {mC m7 : zF} {b k pc : Int} {p2 : Nat} (h : G rf mem p pl sc ft hs c f u tb N) (hp2 : p2 = 254 - p) (hb : 0 ≤ b ∧ b < 2) (hbk : mem 261 13 = 1 - b) (hk : 1 ≤ k ∧ k ≤ 6) (hpc : inI pc) (fC : ∀ i, i ≠ 1 → i ≠ 3 → i ≠ 4 → i ≠ 6 → i ≠ 7 → i ≠ 245 → (i < p2 ∨ p2 + 12 < i) → mC i = mem i) (c1 : mC 1 1 = 0) (c3 : mC 3 3 = k) (c4 : mC 3 4 = pc) (c245 : mC 245 = (zup mem 245 1 (mem 245 1 + 1)) 245) (fR : RFc mC m7 b) : GI rf (zup (zup (zup m7 261 10 k) 261 11 pc) 292 1 (m7 292 1 + 1)) (N + 1) := by
  obtain ⟨hX, hP, hR, hH, hS, hO⟩ := h
  obtain ⟨h1, h2, h3, h4, h5, h6, h7⟩ := hO.parts
  have hp := hX.e
  generalize hmE : zup (zup (zup m7 261 10 k) 261 11 pc) 292 1 (m7 292 1 + 1) = mE
  have r : ∀ i, i ≠ 261 → i ≠ 292 → mE i = m7 i := fun i x y => by rw [← hmE, zup_row _ _ _ y, zup_row _ _ _ x, zup_row _ _ _ x]
  have rj : ∀ j, j ≠ 10 → j ≠ 11 → mE 261 j = m7 261 j := fun j x y => by rw [← hmE, zup_row _ _ _ (by decide), zup_ne _ _ _ _ y, zup_ne _ _ _ _ x]
  have low : ∀ i, i < 261 → i ≠ 1 → i ≠ 3 → i ≠ 4 → i ≠ 6 → i ≠ 7 → i ≠ 245 → (i < p2 ∨ p2 + 12 < i) → mE i = mem i := fun i a b c d e f g hh => by rw [r i (by omega) (by omega), fR.1 i (by omega), fC i b c d e f g hh]
  have high : ∀ i, (i = 262 ∨ 292 < i) → mE i = mem i := fun i hi => by rw [r i (by omega) (by omega), fR.1 i (by omega), fC i (by omega) (by omega) (by omega) (by omega) (by omega) (by omega) (by omega)]
  have c261 : mC 261 = mem 261 := fC 261 (by decide) (by decide) (by decide) (by decide) (by decide) (by decide) (by omega)
  have m261 : ∀ j, (j = 13 ∨ j = 50 ∨ j = 64 ∨ j = 65 ∨ j = 66 ∨ j = 70 ∨ j = 78) → mE 261 j = mem 261 j := fun j hj => by rw [rj j (by omega) (by omega), fR.2.1 j (by omega) (by omega) (by omega) (by omega) (by omega) (by omega) (by omega) (by omega) (by omega) (by omega) (by omega) (by omega) (by omega) (by omega) (by omega) (by omega) (by omega), c261]
  have bank : ∀ a j : Nat, 263 ≤ a → a ≤ 285 → ((j : Int) < wd a * b ∨ wd a * b + wd a ≤ (j : Int)) → mE a j = mem a j := fun a j x y z => by rw [r a (by omega) (by omega), fR.2.2.1 a j x y z, fC a (by omega) (by omega) (by omega) (by omega) (by omega) (by omega) (by omega)]
  have m292 : ∀ j, mE 292 j = (zup mem 292 1 (mem 292 1 + 1)) 292 j := by
    intro j
    have e7 : m7 292 = mem 292 := by rw [fR.1 292 (by decide), fC 292 (by decide) (by decide) (by decide) (by decide) (by decide) (by decide) (by omega)]
    rw [← hmE, e7]
    by_cases e : j = 1
    · rw [e, zup_at, zup_at]
    · rw [zup_ne _ _ _ _ e, zup_ne _ _ _ _ e, zup_row _ _ _ (show (292 : Nat) ≠ 261 by decide), zup_row _ _ _ (show (292 : Nat) ≠ 261 by decide), e7]
  have m245 : mE 245 = (zup mem 245 1 (mem 245 1 + 1)) 245 := by rw [r 245 (by decide) (by decide), fR.1 245 (by decide)]; exact c245
  refine ⟨p, pl, sc, ft, hs, c, f, u, tb, ⟨hX.1, hX.pc.fr (fun s h1 h2 => low _ (by omega) (by omega) (by omega) (by omega) (by omega) (by omega) (by omega) (by omega)), hX.s.fr (fun i i1 i2 => low i (by omega) (by omega) (by omega) (by omega) (by omega) (by omega) (by omega) (by omega))⟩, hP, ⟨hR.1, hR.2.1.other hP.1 hbk (m261 13 (by decide)) (m261 50 (by decide)) bank, hR.2.2.fr (fun i i1 i2 => high i (by omega))⟩, ?_, ?_, ⟨h1.1, ?_, ?_⟩, TP.zero ?_ ?_, ?_, ?_, ?_, h6.other hP.1 hb hbk (m261 13 (by decide)) bank, h7.1, fun j hj => ?_⟩
  · obtain ⟨y1, y2, y3, y4, y5, y6, y7⟩ := hH
    refine ⟨?_, y2, y3, y4, y5, fun k k1 k2 => (y6 k k1 k2).fr (fun i i1 i2 => low i (by omega) (by omega) (by omega) (by omega) (by omega) (by omega) (by omega) (by omega)), fun k k1 k2 => (y7 k k1 k2).fr (fun i i1 i2 => high i (by omega))⟩
    rw [low 52 (by decide) (by decide) (by decide) (by decide) (by decide) (by decide) (by decide) (by omega), m261 65 (by decide), m261 64 (by decide)]
    exact y1
  · unfold SD
    rw [low 0 (by decide) (by decide) (by decide) (by decide) (by decide) (by decide) (by decide) (by omega), m261 66 (by decide)]
    exact hS
  · unfold FEc
    rw [low 35 (by decide) (by decide) (by decide) (by decide) (by decide) (by decide) (by decide) (by omega), low 48 (by decide) (by decide) (by decide) (by decide) (by decide) (by decide) (by decide) (by omega)]
    exact h1.2.1
  · unfold FEr
    rw [m261 70 (by decide), high 308 (by decide), high 309 (by decide), high 310 (by decide)]
    exact h1.2.2
  · rw [r 1 (by decide) (by decide), fR.1 1 (by decide)]; exact c1
  · rw [rj 1 (by decide) (by decide)]; exact fR.2.2.2
  · unfold IM
    rw [low 234 (by decide) (by decide) (by decide) (by decide) (by decide) (by decide) (by decide) (by omega), low 235 (by decide) (by decide) (by decide) (by decide) (by decide) (by decide) (by decide) (by omega), low 244 (by decide) (by decide) (by decide) (by decide) (by decide) (by decide) (by decide) (by omega), high 314 (by decide), m261 78 (by decide)]
    exact h3
  · intro j hj
    have h8 := h4 j hj
    rw [m245, m292, zup_get, zup_get]
    by_cases e : j = 1
    · rw [if_pos ⟨rfl, e⟩, if_pos ⟨rfl, e⟩, ← e]
      omega
    · rw [if_neg (fun q => e q.2), if_neg (fun q => e q.2)]
      omega
  · have e10 : mE 261 10 = k := by rw [← hmE, zup_row _ _ _ (by decide), zup_ne _ _ _ _ (by decide), zup_at]
    have e11 : mE 261 11 = pc := by rw [← hmE, zup_row _ _ _ (by decide), zup_at]
    have e3 : mE 3 = mC 3 := by rw [r 3 (by decide) (by decide), fR.1 3 (by decide)]
    unfold FL
    rw [e10, e11, e3, c3, c4]
    exact ⟨rfl, rfl, by omega, hpc⟩
  · rw [low 5 (by decide) (by decide) (by decide) (by decide) (by decide) (by decide) (by decide) (by omega)]
    exact h7.2 j hj
/-- a room: the plans have changed places, all begins anew -/
theorem g_good {mB mC m7 m9 pl' : zF} {L' : zC} {b n : Int} {p2 : Nat} (h : G rf mem p pl sc ft hs c f u tb N) (hp2 : p2 = 254 - p) (hb : 0 ≤ b ∧ b < 2) (hn : n ≤ 1600) (hW : WX pl' L') (hL : (L'.length : Int) ≤ n) (rows : ∀ i, i ≤ 12 → i ≠ 9 → i ≠ 10 → mB (p2 + i) = pl' i) (codes : ∀ i : Nat, i < L'.length → mB (p2 + 10) i = zkc (L'.getD i (0, 0))) (fB : ∀ i, i ≠ 1 → i ≠ 3 → i ≠ 4 → i ≠ 6 → i ≠ 7 → (i < p2 ∨ p2 + 12 < i) → mB i = mem i) (b1 : mB 1 1 = 0) (b3 : mB 3 3 = 0) (b4 : mB 3 4 = -1) (fC : ∀ i, (i < 23 ∨ 31 < i) → i ≠ 52 → i ≠ 35 → mC i = mB i) (cS : SC mC 23 (aBeg (fun i => mB (p2 + i)) (mem 31))) (c52 : mC 52 1 = 0 ∧ mC 52 2 = 0) (c35 : mC 35 7 = 0) (fR : RFc mC m7 b) (r7 : RQ m7 b pl') (rc : RCo m7 b L') (f9 : ∀ i, i ≠ 261 → (i < 293 ∨ 303 < i) → m9 i = m7 i) (g9 : ∀ j, j ≠ 10 → j ≠ 11 → j ≠ 13 → j ≠ 50 → j ≠ 65 → j ≠ 70 → m9 261 j = m7 261 j) (e10 : m9 261 10 = 0) (e11 : m9 261 11 = -1) (e13 : m9 261 13 = b) (e50 : m9 261 50 = 1) (e65 : m9 261 65 = 0) (e70 : m9 261 70 = 0) (hV : ∀ r8 : Nat → Int, RV m9 0 pl' (aBeg pl' r8)) : GI (zsw rf p p2) m9 (N + 1) := by
  obtain ⟨hX, hP, hR, hH, hS, hO⟩ := h
  obtain ⟨h1, h2, h3, h4, h5, h6, h7⟩ := hO.parts
  have hp := hX.e
  have hRK := zsw_ok (p := p) (p2 := p2) hX.r
  obtain ⟨hWQ, hru⟩ := hW
  have hWP' := hWQ.1
  -- the plan, with the reference's codes
  generalize hplF : (fun (s k : Nat) => if s = 13 then m9 281 (1600 * b + (k : Int)).toNat else if s = 14 then m9 282 (1600 * b + (k : Int)).toNat else mB (p2 + s) k) = plF
  have F : ∀ s, s ≠ 13 → s ≠ 14 → plF s = mB (p2 + s) := fun s x y => by rw [← hplF]; funext k; show (if s = 13 then _ else if s = 14 then _ else mB (p2 + s) k) = _; rw [if_neg x, if_neg y]
  have F13 : ∀ k : Nat, plF 13 k = m9 281 (1600 * b + (k : Int)).toNat := fun k => by rw [← hplF]; rfl
  have F14 : ∀ k : Nat, plF 14 k = m9 282 (1600 * b + (k : Int)).toNat := fun k => by rw [← hplF]; rfl
  have Fp : ∀ s, s ≤ 12 → s ≠ 9 → s ≠ 10 → plF s = pl' s := fun s x y z => by rw [F s (by omega) (by omega)]; exact rows s x y z
  have hWP : WP plF := hWP'.congr (fun i hi => Fp i (by omega) (by omega) (by omega))
  have low : ∀ i, i < 261 → (i < 23 ∨ 31 < i) → i ≠ 52 → i ≠ 35 → m9 i = mB i := fun i x y z w => by rw [f9 i (by omega) (by omega), fR.1 i (by omega), fC i y z w]
  have lowm : ∀ i, i < 261 → (i < 23 ∨ 31 < i) → i ≠ 52 → i ≠ 35 → i ≠ 1 → i ≠ 3 → i ≠ 4 → i ≠ 6 → i ≠ 7 → (i < p2 ∨ p2 + 12 < i) → m9 i = mem i := fun i x y z w a1 a3 a4 a6 a7 hh => by rw [low i x y z w]; exact fB i a1 a3 a4 a6 a7 hh
  have hC : ∀ i, 261 ≤ i → mC i = mem i := fun i x => by rw [fC i (by omega) (by omega) (by omega)]; exact fB i (by omega) (by omega) (by omega) (by omega) (by omega) (by omega)
  have mj : ∀ j, (j = 64 ∨ j = 66 ∨ j = 78) → m9 261 j = mem 261 j := fun j hj => by rw [g9 j (by omega) (by omega) (by omega) (by omega) (by omega) (by omega), fR.2.1 j (by omega) (by omega) (by omega) (by omega) (by omega) (by omega) (by omega) (by omega) (by omega) (by omega) (by omega) (by omega) (by omega) (by omega) (by omega) (by omega) (by omega), hC 261 (by decide)]
  have h9 : ∀ i, (i = 292 ∨ 303 < i) → m9 i = mem i := fun i hi => by rw [f9 i (by omega) (by omega), fR.1 i (by omega), hC i (by omega)]
  have R9 : ∀ i, 263 ≤ i → i ≤ 285 → m9 i = m7 i := fun i x y => f9 i (by omega) (by omega)
  have rq : RQ m9 b pl' := r7.fr (fun a x y _ _ => R9 a x y)
  have abF : ∀ r8 : Nat → Int, aBeg plF r8 = aBeg pl' r8 := by
    intro r8
    unfold aBeg zcel
    rw [Fp 0 (by decide) (by decide) (by decide), Fp 1 (by decide) (by decide) (by decide), Fp 3 (by decide) (by decide) (by decide), Fp 7 (by decide) (by decide) (by decide), Fp 8 (by decide) (by decide) (by decide)]
  have abA : ∀ r8 : Nat → Int, aBeg (fun i => mB (p2 + i)) r8 = aBeg pl' r8 := by
    intro r8
    have q : ∀ s, s ≤ 12 → s ≠ 9 → s ≠ 10 → (fun i => mB (p2 + i)) s = pl' s := rows
    unfold aBeg zcel
    rw [q 0 (by decide) (by decide) (by decide), q 1 (by decide) (by decide) (by decide), q 3 (by decide) (by decide) (by decide), q 7 (by decide) (by decide) (by decide), q 8 (by decide) (by decide) (by decide)]
  have h31 : ∀ j : Nat, j < 24 → inI (mem 31 j) := fun j hj => by
    have := hX.s.e j hj
    show inI (mem (23 + 8) j)
    rw [this]
    exact hP.2.2.1.rows hj
  have hWS : WS plF (aBeg plF (mem 31)) := WS_beg hWP h31
  have hcols : plF 0 1 = pl' 0 1 := by rw [Fp 0 (by decide) (by decide) (by decide)]
  have rok : ∀ r : Nat, r < 3 → ROK plF r := by
    intro r hr
    unfold ROK
    rw [Fp 11 (by decide) (by decide) (by decide), Fp 12 (by decide) (by decide) (by decide)]
    rcases hru r hr with x | ⟨A, C, B, q1, q2, q3, q4, q5⟩
    · exact Or.inl x
    · right
      have hc : 0 < C.length := List.length_pos_iff.mpr q2
      have hlen : L'.length = A.length + C.length + B.length := by rw [q1, List.length_append, List.length_append]
      have cod : ∀ i : Nat, i < C.length → plF 13 (A.length + i) = (C.getD i (0, 0)).1 ∧ plF 14 (A.length + i) = (C.getD i (0, 0)).2 := by
        intro i hi
        have hh := rc.2 (A.length + i) (by omega)
        rw [F13, F14, R9 281 (by decide) (by decide), R9 282 (by decide) (by decide), hh.1, hh.2, q1, getD_mid hi]
        exact ⟨rfl, rfl⟩
      rw [q3, q4]
      refine ⟨by omega, by omega, by omega, fun k k0 k1 => ?_, ?_⟩
      · have ek : k = A.length + (k - A.length) := by omega
        have hh := cod (k - A.length) (by omega)
        rw [← ek] at hh
        have hcd := codes k (by omega)
        rw [F 10 (by decide) (by decide), hcd, hh.1, hh.2]
        have : L'.getD k (0, 0) = C.getD (k - A.length) (0, 0) := by
          rw [q1]
          have := getD_mid (A := A) (B := B) (C := C) (i := k - A.length) (by omega)
          rw [← ek] at this
          exact this
        rw [this]
        rfl
      · have e1 : ((A.length : Int)).toNat = A.length := by omega
        have e2 : ((A.length : Int) + C.length - A.length).toNat = C.length := by omega
        rw [e1, e2, zcks_tck C A.length [] cod]
        exact q5
  have hN := hWP.n
  have p2e : p2 = 8 ∨ p2 = 246 := by omega
  refine ⟨p2, plF, aBeg plF (mem 31), fun _ _ => 0, fun _ => sc, 0, 0, u, tb, ⟨⟨hRK, ?_, zsw_0, p2e, ?_⟩, fun s x y => ?_, ?_⟩, ⟨hWP, ⟨rok 0 (by decide), rok 1 (by decide), rok 2 (by decide)⟩, hWS, by show (0 : Int) ≤ 999; decide⟩, ⟨hRK, ⟨by rw [e13]; exact hb, ?_, ?_, ?_, ?_, ?_, ?_⟩, ?_⟩, ?_, ?_, ⟨⟨by decide, fun k x y => ?_⟩, ⟨?_, fun k x y => ?_⟩, ⟨e70, fun k x y => ?_⟩⟩, TP.zero ?_ ?_, ?_, ?_, ?_, ?_, ?_, fun j hj => ?_⟩
  · exact zPln_of hRK p2e
  · exact zRul_of hRK p2e
  · rw [low (p2 + s) (by omega) (by omega) (by omega) (by omega), F s (by omega) (by omega)]
  · rw [abF, ← abA]
    exact cS.fr (fun i i1 i2 => by rw [f9 i (by omega) (by omega), fR.1 i (by omega)])
  · rw [e50, hcols, if_neg (by have := hWQ.2.1; omega)]
  · rw [e13, Fp 0 (by decide) (by decide) (by decide)]; exact rq.1
  · rw [e13, Fp 0 (by decide) (by decide) (by decide), Fp 1 (by decide) (by decide) (by decide)]
    exact ⟨rq.2.2.1.1, rq.2.2.1.2.1, rq.2.2.1.2.2, rq.2.1.2.1⟩
  · rw [e13, Fp 1 (by decide) (by decide) (by decide), Fp 3 (by decide) (by decide) (by decide), Fp 4 (by decide) (by decide) (by decide), Fp 5 (by decide) (by decide) (by decide)]
    exact rq.2.2.2.1
  · rw [e13, Fp 1 (by decide) (by decide) (by decide), Fp 6 (by decide) (by decide) (by decide)]
    exact fun k x y => (rq.2.2.2.2.1 k x y).2
  · unfold RC
    rw [e13, Fp 11 (by decide) (by decide) (by decide), Fp 12 (by decide) (by decide) (by decide)]
    exact ⟨hb, rq.2.2.2.2.2.2.2, fun j hj => ⟨(F13 j).symm, (F14 j).symm⟩⟩
  · have hv := hV (mem 31)
    rw [abF]
    unfold RV at hv ⊢
    rw [Fp 1 (by decide) (by decide) (by decide)]
    exact hv
  · obtain ⟨y1, y2, y3, y4, y5, y6, y7⟩ := hH
    have e52 : m9 52 = mC 52 := by rw [f9 52 (by decide) (by decide), fR.1 52 (by decide)]
    refine ⟨⟨by rw [e52]; exact c52.2, by rw [e52]; exact c52.1, e65, ?_⟩, by decide, by decide, y4, fun k x y => by omega, fun k x y => by omega, fun k x y => by omega⟩
    rw [mj 64 (by decide)]
    exact y1.2.2.2
  · unfold SD
    rw [lowm 0 (by decide) (by decide) (by decide) (by decide) (by decide) (by decide) (by decide) (by decide) (by decide) (by omega), mj 66 (by decide)]
    exact hS
  · exact absurd y (by show ¬ k < 0; omega)
  · rw [f9 35 (by decide) (by decide), fR.1 35 (by decide)]; exact c35
  · exact absurd y (by show ¬ k < 0; omega)
  · exact absurd y (by show ¬ k < 0; omega)
  · rw [low 1 (by decide) (by decide) (by decide) (by decide)]; exact b1
  · rw [g9 1 (by decide) (by decide) (by decide) (by decide) (by decide) (by decide)]; exact fR.2.2.2
  · unfold IM
    rw [lowm 234 (by decide) (by decide) (by decide) (by decide) (by decide) (by decide) (by decide) (by decide) (by decide) (by omega), lowm 235 (by decide) (by decide) (by decide) (by decide) (by decide) (by decide) (by decide) (by decide) (by decide) (by omega), lowm 244 (by decide) (by decide) (by decide) (by decide) (by decide) (by decide) (by decide) (by decide) (by decide) (by omega), h9 314 (by decide), mj 78 (by decide)]
    exact h3
  · intro j hj
    have h8 := h4 j hj
    rw [lowm 245 (by decide) (by decide) (by decide) (by decide) (by decide) (by decide) (by decide) (by decide) (by decide) (by omega), h9 292 (by decide)]
    omega
  · unfold FL
    rw [e10, e11, low 3 (by decide) (by decide) (by decide) (by decide), b3, b4]
    exact ⟨rfl, rfl, by decide, by decide⟩
  · intro so k h0 k0 k1
    rw [Fp 1 (by decide) (by decide) (by decide)] at k1
    rw [e13, Fp 2 (by decide) (by decide) (by decide)]
    exact rq.2.2.2.2.2.2.1 so k h0 k0 k1
  · rw [zsw_3]
    have : p = 254 - p2 := by omega
    rw [← this]
  · rw [lowm 5 (by decide) (by decide) (by decide) (by decide) (by decide) (by decide) (by decide) (by decide) (by decide) (by omega)]
    exact h7.2 j hj
end PROOM
