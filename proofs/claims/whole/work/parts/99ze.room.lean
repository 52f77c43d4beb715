/-! room: program and reference answer alike, and are alike after -/
section CROOM
variable {X : zX} {rf mem : zF} {p : Nat} {pl sc ft : zF} {hs : Int → zF} {c f u : Int} {tb : Nat → Int} {N : Int}
theorem c_room (hG : G rf mem p pl sc ft hs c f u tb N) : Cg X 112 151 [(2, 0)] rf mem (fun r1 rf1 m1 => Ci X 112 238 [(2, 261)] rf1 m1 (fun r2 m2 => (inI r1 ∧ inI r2) ∧ r1 = r2 ∧ GI rf1 m2 (N + 1))) := by
  have hG' := hG
  obtain ⟨hX, hP, hR, hH, hS, hO⟩ := hG'
  obtain ⟨h1, h2, h3, h4, h5, h6, h7⟩ := hO.parts
  have hp := hX.e
  have hRK := hX.r
  obtain ⟨p2, hp2⟩ : ∃ p2, p2 = 254 - p := ⟨_, rfl⟩
  have p2e : p2 = 8 ∨ p2 = 246 := by omega
  have h31 : rf 3 1 = ((p2 : Nat) : Int) := by rw [hp2]; exact h7.1
  obtain ⟨b, hb⟩ : ∃ b, b = 1 - mem 261 13 := ⟨_, rfl⟩
  have hB := hR.2.1.bank
  have hbb : 0 ≤ b ∧ b < 2 := by omega
  have h13 : mem 261 13 = 1 - b := by omega
  obtain ⟨n, hn⟩ : ∃ n, mem 1 1 = n := ⟨_, rfl⟩
  have hn0 : 0 ≤ n ∧ n ≤ 1600 := by rw [← hn]; exact h2.2.1
  have hTB : TBy tb n := fun k k0 k1 => (h2.2.2 k.toNat (by omega)).2.2
  have hz : ZX rf p2 tb n := ⟨hRK, zPln_of hRK p2e, h31, zRul_of hRK p2e, p2e, hn0, hTB⟩
  have hsk : 0 ≤ tskp tb n 0 ∧ tskp tb n 0 ≤ n := tskp_rng hn0.1
  refine s_c_room (d := 111) hRK hX.f (zPln_of hRK p2e) h31 (c_read hz hX hp2 h2 hn h7.2 (by decide) (fun m2 f2 e33 e34 z2 cs2 => ⟨110, rfl, ?_⟩))
  rcases r_text (X := X) (rg := rf) (D := 110) (D2 := 111) (b := b) hz hRK (by decide) (by decide) hsk z2 with ⟨k, pc, hk, hpc, hc, hr⟩ | ⟨pl1, L1, hW1, hl1, hv1, hc1, hr1⟩
  · refine hc m2 m2 _ cs2 (fun m3 cf => ⟨by decide, fun _ => ?_, fun q => absurd rfl q⟩)
    generalize hmB : zup m3 1 1 0 = mB
    have fB : ∀ i, i ≠ 1 → i ≠ 3 → i ≠ 4 → i ≠ 6 → i ≠ 7 → (i < p2 ∨ p2 + 12 < i) → mB i = mem i := fun i x1 x3 x4 x6 x7 y => by rw [← hmB, zup_row _ _ _ x1, cf.1 i x3 x4 y, f2 i x3 x4 x6 x7 y]
    have hXB : CX rf mB p pl sc := ⟨hX.1, hX.pc.fr (fun s h1 h2 => fB _ (by omega) (by omega) (by omega) (by omega) (by omega) (by omega)), hX.s.fr (fun i i1 i2 => fB i (by omega) (by omega) (by omega) (by omega) (by omega) (by omega))⟩
    refine u_refusedN hXB (by decide) (by decide) ?_
    show Ci X 112 238 [(2, 261)] rf (zup mB 245 1 (mB 245 1 + 1)) _
    have eB : mB 245 = mem 245 := fB 245 (by decide) (by decide) (by decide) (by decide) (by decide) (by omega)
    have c245 : (zup mB 245 1 (mB 245 1 + 1)) 245 = (zup mem 245 1 (mem 245 1 + 1)) 245 := by
      funext j
      rw [zup_get, zup_get, eB]
    have c1 : (zup mB 245 1 (mB 245 1 + 1)) 1 1 = 0 := by rw [zup_row _ _ _ (by decide), ← hmB, zup_at]
    have c3 : (zup mB 245 1 (mB 245 1 + 1)) 3 3 = k := by rw [zup_row _ _ _ (by decide), ← hmB, zup_row _ _ _ (by decide)]; exact cf.2.1
    have c4 : (zup mB 245 1 (mB 245 1 + 1)) 3 4 = pc := by rw [zup_row _ _ _ (by decide), ← hmB, zup_row _ _ _ (by decide)]; exact cf.2.2
    have fC : ∀ i, i ≠ 1 → i ≠ 3 → i ≠ 4 → i ≠ 6 → i ≠ 7 → i ≠ 245 → (i < p2 ∨ p2 + 12 < i) → (zup mB 245 1 (mB 245 1 + 1)) i = mem i := fun i x1 x3 x4 x6 x7 x y => by rw [zup_row _ _ _ x]; exact fB i x1 x3 x4 x6 x7 y
    revert c245 c1 c3 c4 fC
    generalize zup mB 245 1 (mB 245 1 + 1) = mC
    intro c245 c1 c3 c4 fC
    have c261 : mC 261 = mem 261 := fC 261 (by decide) (by decide) (by decide) (by decide) (by decide) (by decide) (by omega)
    have c262 : mC 262 = mem 262 := fC 262 (by decide) (by decide) (by decide) (by decide) (by decide) (by decide) (by omega)
    refine t_room0 (b := b) (tb := tb) (n := n) hRK hTB hn0 hbb (by rw [c261]; exact h13) (by rw [c261, ← h2.1]; exact hn) (fun j hj => by rw [c262]; exact (h2.2.2 j (by rw [hn]; exact hj)).2.1) z2 (by decide) (fun m4 m5 c0 r0 r4 s5 => ⟨111, rfl, hr m4 m5 _ c0 r0 s5 (fun m6 x1 sf => ?_)⟩)
    obtain ⟨sf1, sf8, sf9, sf12, sf38⟩ := sf
    refine s_m_room_179 hRK ?_
    rw [sf8, sf9]
    refine ⟨by omega, fun q => absurd q (by omega), fun _ => ?_⟩
    refine t_refuses hRK (by decide) ⟨⟨by decide, by decide⟩, rfl, ?_⟩
    have hg := g_fail hG hp2 hbb h13 hk hpc fC c1 c3 c4 c245 (r4.b sf1)
    have e : (zup (zup m6 261 10 k) 261 11 pc) 292 (1 : Int).toNat = m6 292 1 := by
      rw [zup_row _ _ _ (by decide), zup_row _ _ _ (by decide)]
      rfl
    rw [e]
    exact hg
  · rcases r_text (X := X) (rg := zsw rf p p2) (D := 110) (D2 := 111) (b := b) hz (zsw_ok hRK) (by decide) (by decide) hsk z2 with ⟨k, pc, hk, hpc, hc, hr⟩ | ⟨pl', L', hW, hl, hv, hc, hr⟩
    · exact (L29.det (hc1 m2 m2 (fun r _ => r = 1) cs2 (fun _ _ => rfl)) (hc m2 m2 (fun r _ => r = 0) cs2 (fun _ _ => rfl))).elim
    · refine hc m2 m2 _ cs2 (fun m3 cs3 => ⟨by decide, fun q => absurd q (by decide), fun _ => ?_⟩)
      obtain ⟨c3t, ⟨c3f, c3a, c3b⟩, c3r, c3n, c3c⟩ := cs3
      have hG2 := zsw_ok (p := p) (p2 := p2) hRK
      generalize hmB : zup m3 1 1 0 = mB
      have fB : ∀ i, i ≠ 1 → i ≠ 3 → i ≠ 4 → i ≠ 6 → i ≠ 7 → (i < p2 ∨ p2 + 12 < i) → mB i = mem i := fun i x1 x3 x4 x6 x7 y => by rw [← hmB, zup_row _ _ _ x1, c3f i x3 x4 y, f2 i x3 x4 x6 x7 y]
      have rows : ∀ i, i ≤ 12 → i ≠ 9 → i ≠ 10 → mB (p2 + i) = pl' i := fun i x y z => by rw [← hmB, zup_row _ _ _ (by omega)]; exact c3r i x y z
      have codes : ∀ i : Nat, i < L'.length → mB (p2 + 10) i = zkc (L'.getD i (0, 0)) := fun i hi => by rw [← hmB, zup_row _ _ _ (by omega)]; exact c3c i hi
      have b1 : mB 1 1 = 0 := by rw [← hmB, zup_at]
      have b3 : mB 3 3 = 0 := by rw [← hmB, zup_row _ _ _ (by decide), c3a]; exact e33
      have b4 : mB 3 4 = -1 := by rw [← hmB, zup_row _ _ _ (by decide), c3b]; exact e34
      have hWPA : WP (fun i => mB (p2 + i)) := hW.1.1.congr (fun i hi => rows i (by omega) (by omega) (by omega))
      refine u_begin (o := 23) (p := p2) (pl := fun i => mB (p2 + i)) hG2 (zScn_23 hG2) (zPln_of hG2 p2e) hWPA (by decide) (by omega) (fun s _ _ => rfl) (fun mS cS fS e8 => ?_)
      refine s_history_clear hG2 (s_seer_forget hG2 ?_)
      generalize hmC : zup (zup (zup mS 52 1 0) 52 2 0) 35 7 0 = mC
      have rC : ∀ i, i ≠ 52 → i ≠ 35 → mC i = mS i := fun i x y => by rw [← hmC, zup_row _ _ _ y, zup_row _ _ _ x, zup_row _ _ _ x]
      have fC : ∀ i, (i < 23 ∨ 31 < i) → i ≠ 52 → i ≠ 35 → mC i = mB i := fun i x y z => by rw [rC i y z]; exact fS i (by omega)
      have c52 : mC 52 1 = 0 ∧ mC 52 2 = 0 := by
        constructor
        · rw [← hmC, zup_row _ _ _ (by decide), zup_ne _ _ _ _ (by decide), zup_at]
        · rw [← hmC, zup_row _ _ _ (by decide), zup_at]
      have c35 : mC 35 7 = 0 := by rw [← hmC, zup_at]
      have cS2 : SC mC 23 (aBeg (fun i => mB (p2 + i)) (mem 31)) := by
        have e31 : mB (23 + 8) = mem 31 := fB 31 (by decide) (by decide) (by decide) (by decide) (by decide) (by omega)
        rw [e31] at cS
        exact cS.fr (fun i i1 i2 => rC i (by omega) (by omega))
      have ans : mC p2 0 = pl' 0 0 := by
        rw [fC p2 (by omega) (by omega) (by omega)]
        have := rows 0 (by decide) (by decide) (by decide)
        rw [Nat.add_zero] at this
        rw [this]
      rw [ans]
      have hC : ∀ i, 261 ≤ i → mC i = mem i := fun i x => by rw [fC i (by omega) (by omega) (by omega)]; exact fB i (by omega) (by omega) (by omega) (by omega) (by omega) (by omega)
      refine t_room0 (b := b) (tb := tb) (n := n) hG2 hTB hn0 hbb (by rw [hC 261 (by decide)]; exact h13) (by rw [hC 261 (by decide), ← h2.1]; exact hn) (fun j hj => by rw [hC 262 (by decide)]; exact (h2.2.2 j (by rw [hn]; exact hj)).2.1) z2 (by decide) (fun m4 m5 c0 r0 r4 s5 => ⟨111, rfl, hr m4 m5 _ c0 r0 s5 (fun m7 s7 => ?_)⟩)
      obtain ⟨⟨t7, e2, ⟨e262, e9⟩, e8'⟩, rf7, ⟨e38, _⟩, rc7, rq7⟩ := s7
      refine s_m_room_179 hG2 ?_
      rw [e8', e9, e38]
      refine ⟨by decide, fun _ => ?_, fun q => absurd (by decide) q⟩
      generalize hm8 : zup (zup (zup (zup m7 261 10 0) 261 11 (-1)) 261 13 b) 261 50 1 = m8
      have r8 : ∀ i, i ≠ 261 → m8 i = m7 i := fun i x => by rw [← hm8, zup_row _ _ _ x, zup_row _ _ _ x, zup_row _ _ _ x, zup_row _ _ _ x]
      have j8 : ∀ j, j ≠ 10 → j ≠ 11 → j ≠ 13 → j ≠ 50 → m8 261 j = m7 261 j := fun j x y z w => by rw [← hm8, zup_ne _ _ _ _ w, zup_ne _ _ _ _ z, zup_ne _ _ _ _ y, zup_ne _ _ _ _ x]
      have v10 : m8 261 10 = 0 := by rw [← hm8, zup_ne _ _ _ _ (by decide), zup_ne _ _ _ _ (by decide), zup_ne _ _ _ _ (by decide), zup_at]
      have v11 : m8 261 11 = -1 := by rw [← hm8, zup_ne _ _ _ _ (by decide), zup_ne _ _ _ _ (by decide), zup_at]
      have v13 : m8 261 13 = b := by rw [← hm8, zup_ne _ _ _ _ (by decide), zup_at]
      have v50 : m8 261 50 = 1 := by rw [← hm8, zup_at]
      refine t_begin (b := b) (pl := pl') hG2 hbb v13 (rq7.fr (fun a x y _ _ => r8 a (by omega))) hW.1.1 (fun m9 f9 g9 e65 e70 hV => ⟨⟨by omega, by omega⟩, rfl, ?_⟩)
      exact g_good hG hp2 hbb hn0.2 hW hl rows codes fB b1 b3 b4 fC cS2 c52 c35 (r4.b rf7) rq7 rc7 (fun i x y => (f9 i x y).trans (r8 i x)) (fun j x10 x11 x13 x50 x65 x70 => (g9 j x65 x70).trans (j8 j x10 x11 x13 x50)) ((g9 10 (by decide) (by decide)).trans v10) ((g9 11 (by decide) (by decide)).trans v11) ((g9 13 (by decide) (by decide)).trans v13) ((g9 50 (by decide) (by decide)).trans v50) e65 e70 hV
end CROOM
theorem p_room {X : zX} : RoomOK X 112 := by
  intro rf mem i N Q hGI hN hi0 hi6 next
  obtain ⟨p, pl, sc, ft, hs, c, f, u, tb, hG⟩ := hGI
  exact lc_2 (Z := fun rf1 m2 => GI rf1 m2 (N + 1)) (c_room hG) next
