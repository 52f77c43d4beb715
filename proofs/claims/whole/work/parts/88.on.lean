/-! on, both -/
section ONP
variable {X : zX} {rf mem : zF} {p : Nat} {pl sc ft : zF} {hs : Int → zF} {c f u : Int} {tb : Nat → Int} {N : Int} {d : Nat}
/-- the told scene and a scratch word changed, nothing else -/
theorem GO.scr {mem' : zF} (h : GO rf mem p pl ft tb N) (a : ∀ i, i ≠ 234 → (i < 236 ∨ 243 < i) → (i < 261 ∨ (261 < i ∧ i < 293) ∨ 307 ≤ i) → i ≠ 23 → i ≠ 24 → i ≠ 25 → i ≠ 26 → i ≠ 27 → i ≠ 28 → i ≠ 29 → i ≠ 30 → i ≠ 31 → i ≠ 52 → mem' i = mem i) (b : ∀ j, j ≠ 3 → mem' 234 j = mem 234 j) (e : ∀ j, j ≠ 79 → j ≠ 65 → mem' 261 j = mem 261 j) : GO rf mem' p pl ft tb N := by
  obtain ⟨h1, h2, h3, h4, h5, h6, h7⟩ := h.parts
  have r : ∀ i, (i < 23 ∨ (31 < i ∧ i < 52) ∨ (52 < i ∧ i < 234) ∨ (243 < i ∧ i < 261) ∨ (261 < i ∧ i < 293) ∨ 307 ≤ i) → mem' i = mem i := fun i hi => a i (by omega) (by omega) (by omega) (by omega) (by omega) (by omega) (by omega) (by omega) (by omega) (by omega) (by omega) (by omega) (by omega)
  refine ⟨⟨h1.1, ?_, ?_⟩, ?_, ?_, ?_, ?_, ?_, ?_⟩
  · unfold FEc
    rw [r 35 (by decide), r 48 (by decide)]
    exact h1.2.1
  · unfold FEr
    rw [e 70 (by decide) (by decide), r 308 (by decide), r 309 (by decide), r 310 (by decide)]
    exact h1.2.2
  · unfold TP
    rw [r 1 (by decide), r 2 (by decide), e 1 (by decide) (by decide), r 262 (by decide)]
    exact h2
  · unfold IM
    rw [b 1 (by decide), a 235 (by decide) (by decide) (by decide) (by decide) (by decide) (by decide) (by decide) (by decide) (by decide) (by decide) (by decide) (by decide) (by decide), r 244 (by decide), e 78 (by decide) (by decide), r 314 (by decide)]
    exact h3
  · unfold ST
    rw [r 245 (by decide), r 292 (by decide)]
    exact h4
  · unfold FL
    rw [r 3 (by decide), e 10 (by decide) (by decide), e 11 (by decide) (by decide)]
    exact h5
  · intro s1 k x y z
    rw [e 13 (by decide) (by decide), r (283 + s1) (by omega)]
    exact h6 s1 k x y z
  · exact ⟨h7.1, fun j hj => by rw [r 5 (by decide)]; exact h7.2 j hj⟩
theorem G.scr {mem' : zF} (h : G rf mem p pl sc ft hs c f u tb N) (a : ∀ i, i ≠ 234 → (i < 236 ∨ 243 < i) → i ≠ 261 → mem' i = mem i) (b : ∀ j, j ≠ 3 → mem' 234 j = mem 234 j) (e : ∀ j, j ≠ 79 → mem' 261 j = mem 261 j) : G rf mem' p pl sc ft hs c f u tb N := by
  have hp := h.1.e
  exact h.core (fun i hi => a i (by omega) (by omega) (by omega)) (fun j hj => e j (by omega)) (fun i hi => a i (by omega) (by omega) (by omega)) (h.2.2.2.2.2.scr (fun i i1 i2 i3 _ _ _ _ _ _ _ _ _ _ => a i i1 i2 (by omega)) b (fun j j1 _ => e j j1))
/-- both refuse the picture -/
theorem on_refused {m1 m5 : zF} (h : G rf mem p pl sc ft hs c f u tb N) (f1 : zFT mem m1) (f5 : zFV (zup (zup (zup m1 1 1 0) 245 5 ((zup m1 1 1 0) 245 5 + 1)) 261 1 0) m5) : GI rf (zup m5 292 5 (m5 292 5 + 1)) (N + 1) := by
  have hp := h.1.e
  have g1 : G rf m1 p pl sc ft hs c f u tb N := h.scr (fun i i1 i2 _ => f1.1 i i1 i2) f1.2 (fun j _ => by rw [f1.1 261 (by decide) (by decide)])
  have g2 : G rf (zup (zup m1 1 1 0) 261 1 0) p pl sc ft hs c f u tb N := g1.taped (tb' := tb) (fun i i1 i2 i3 i4 => by rw [zup_row _ _ _ i3, zup_row _ _ _ i1]) (fun j hj => by rw [zup_ne _ _ _ _ hj, zup_row _ _ _ (by decide)]) ⟨by rw [zup_row _ _ _ (by decide), zup_at, zup_at], by rw [zup_row _ _ _ (by decide), zup_at]; decide, fun j hj => by rw [zup_row _ _ _ (by decide), zup_at] at hj; omega⟩
  have g3 : G rf (zup (zup (zup m1 1 1 0) 261 1 0) 261 79 (m5 261 79)) p pl sc ft hs c f u tb N := g2.scr (fun i _ _ i3 => zup_row _ _ _ i3) (fun j _ => by rw [zup_row _ _ _ (by decide)]) (fun j hj => zup_ne _ _ _ _ hj)
  have g4 := g3.refuse (k := 5) (by decide)
  have t5 : (5 : Int).toNat = 5 := rfl
  rw [t5] at g4
  refine ⟨p, pl, sc, ft, hs, c, f, u, tb, g4.rl ?_⟩
  have low : ∀ i, i < 261 → m5 i = (zup (zup m1 1 1 0) 245 5 ((zup m1 1 1 0) 245 5 + 1)) i := fun i hi => by rw [f5.row (by omega), zup_row _ _ _ (by omega)]
  refine ⟨fun i i1 _ _ _ _ => ?_, ?_, fun a j a1 a2 a3 a4 => ?_⟩
  · rw [zup_row _ _ _ (show i ≠ 292 by omega), low i i1, zup_row _ _ _ (show i ≠ 292 by omega)]
    by_cases e : i = 245
    · rw [e]
      funext k
      have eB : (zup (zup (zup m1 1 1 0) 261 1 0) 261 79 (m5 261 79)) 245 = (zup m1 1 1 0) 245 := by rw [zup_row _ _ _ (by decide), zup_row _ _ _ (by decide)]
      by_cases ek : k = 5
      · rw [ek, zup_at, zup_at, eB]
      · rw [zup_ne _ _ _ _ ek, zup_ne _ _ _ _ ek, eB]
    · rw [zup_row _ _ _ e, zup_row _ _ _ e, zup_row _ _ _ (show i ≠ 261 by omega), zup_row _ _ _ (show i ≠ 261 by omega)]
  · rw [zup_row _ _ _ (by decide), low 35 (by decide), zup_row _ _ _ (by decide), zup_row _ _ _ (by decide), zup_row _ _ _ (by decide), zup_row _ _ _ (by decide), zup_row _ _ _ (by decide), zup_row _ _ _ (by decide), zup_row _ _ _ (by decide)]
  · have e92 : m5 292 = m1 292 := by rw [f5.row (by decide), zup_row _ _ _ (by decide), zup_row _ _ _ (by decide), zup_row _ _ _ (by decide)]
    by_cases e : a = 292
    · rw [e, zup_get, zup_get, zup_row _ _ _ (show (292 : Nat) ≠ 245 by decide), zup_row _ _ _ (show (292 : Nat) ≠ 261 by decide), zup_row _ _ _ (show (292 : Nat) ≠ 261 by decide), zup_row _ _ _ (show (292 : Nat) ≠ 1 by decide), e92]
    · rw [zup_row _ _ _ e, zup_row _ _ _ e, zup_row _ _ _ (show a ≠ 245 by omega)]
      by_cases e2 : a = 261
      · rw [e2]
        by_cases e3 : j = 79
        · rw [e3, zup_at]
        · rw [zup_ne _ _ _ _ e3, f5.s e3]
          by_cases e4 : j = 1
          · rw [e4, zup_at, zup_at]
          · rw [zup_ne _ _ _ _ e4, zup_ne _ _ _ _ e4, zup_row _ _ _ (by decide)]
      · rw [zup_row _ _ _ e2, zup_row _ _ _ e2, f5 a j a2 (by omega) (by omega) (by omega), zup_row _ _ _ e2, zup_row _ _ _ (show a ≠ 245 by omega)]
theorem p_on (h : G rf mem p pl sc ft hs c f u tb N) (hd : 20 ≤ d) : zPR X rf d mem 182 [(2, 0)] 316 [(2, 261)] (fun m2 => GI rf m2 (N + 1)) := by
  obtain ⟨d, rfl⟩ : ∃ e, d = e + 1 := ⟨d - 1, by omega⟩
  obtain ⟨hX, hP, hR, hH, hS, hO⟩ := id h
  have hT := hO.parts.2.1
  have hI := hO.parts.2.2.1
  have hl := hT.2.1
  have hp := hX.e
  have hN := hP.1.n
  have hcr := hP.1.cr
  have ep1 : mem p 1 = pl 0 1 := by have := hX.pc 0 (by decide) (by decide); rw [← this]; rfl
  -- the reference in a state that the program left
  have rx : ∀ m3 : zF, (∀ i, 261 ≤ i → m3 i = mem i) → RX rf (zup m3 261 1 0) pl sc := fun m3 hm => ⟨hR.1, hR.2.1.fr (by rw [zup_ne _ _ _ _ (by decide), hm 261 (by decide)]) (by rw [zup_ne _ _ _ _ (by decide), hm 261 (by decide)]) (fun a a1 a2 => by rw [zup_row _ _ _ (by omega), hm a (by omega)]), hR.2.2.fr (fun a a1 a2 => by rw [zup_row _ _ _ (by omega), hm a (by omega)])⟩
  have tp : ∀ m3 : zF, (∀ i, 261 ≤ i → m3 i = mem i) → ∀ j : Nat, (j : Int) < mem 1 1 → (zup m3 261 1 0) 262 j = tb j ∧ 0 ≤ tb j ∧ tb j ≤ 255 := fun m3 hm j hj => by rw [zup_row _ _ _ (by decide), hm 262 (by decide)]; exact (hT.2.2 j hj).2
  have ln : ∀ m3 : zF, (∀ i, 261 ≤ i → m3 i = mem i) → m3 261 1 = mem 1 1 := fun m3 hm => by rw [hm 261 (by decide)]; exact hT.1.symm
  -- both refuse
  have ref : ¬ (pl 0 1 ≠ 0 ∧ oOK pl tb (mem 1 1)) → ∀ m1, zFT mem m1 → L_c_on_33 X d rf (fun r1 m1 => Ci X (d + 1) 316 [(2, 261)] rf m1 (fun r2 m2 => (inI r1 ∧ inI r2) ∧ r1 = r2 ∧ GI rf m2 (N + 1))) m1 p 0 := by
    intro hno m1 f1
    refine s_c_on_33 hX.r hX.p hX.f ⟨by decide, fun q => absurd rfl q, fun _ => ?_⟩
    have hX1 := hX.ft f1
    have hX2 : CX rf (zup m1 1 1 0) p pl sc := ⟨hX1.1, hX1.pc.fr (fun s h1 h2 => zup_row _ _ _ (by omega)), hX1.s.fr (fun i i1 i2 => zup_row _ _ _ (by omega))⟩
    refine u_refused hX2 (by decide) ⟨Or.inl rfl, ?_⟩
    have t5 : (5 : Int).toNat = 5 := rfl
    rw [t5]
    have hm : ∀ i, 261 ≤ i → (zup (zup m1 1 1 0) 245 5 ((zup m1 1 1 0) 245 5 + 1)) i = mem i := fun i hi => by rw [zup_row _ _ _ (by omega), zup_row _ _ _ (by omega), f1.1 i (by omega) (by omega)]
    refine s_m_on hX.r ?_
    rw [ln _ hm]
    refine w_comes (r8 := mem 244) (tb := tb) (rx _ hm) hP (by omega) hl (tp _ hm) (fun q1 q2 => absurd ⟨q1, q2⟩ hno) (fun _ m5 f5 => ⟨by decide, fun q => absurd rfl q, fun _ => ?_⟩)
    refine t_refuses hX.r (k := 5) (by decide) ⟨by decide, fun _ => ?_, fun q => absurd q (by decide)⟩
    exact ⟨⟨by decide, by decide⟩, rfl, on_refused h f1 f5⟩
  refine s_c_on hX.r hX.p hX.f ?_
  rw [ep1]
  refine ⟨by omega, fun q => ref (fun c => c.1 (by omega)) mem zFT.rfl, fun q => ?_⟩
  refine v_read hX hT hP.1 (by omega) (fun ok m1 s1 f1 => ⟨by decide, fun q => absurd q (by decide), fun _ => ?_⟩) (fun hno m1 f1 => ⟨by decide, fun _ => ref (fun c => hno c.2) m1 f1, fun q => absurd rfl q⟩)
  -- both take it up
  have hW := WS.told (r8 := mem 244) hP.1 (fun j hj => (hT.2.2 j (by rw [ok.1.1]; omega)).2.2) hI.2.2.2 ok
  have hP2 : PX pl (oS pl tb (mem 244)) := ⟨hP.1, hP.2.1, hW.1, hW.2⟩
  have hX1 := hX.ft f1
  refine s_c_on_33 hX.r hX.p hX.f ⟨by decide, fun _ => ?_, fun q => absurd q (by decide)⟩
  refine u_copy (o := 23) (o2 := 236) hX.r (zScn_23 hX.r) (zScn_236 hX.r) (by omega) (s1.fr (fun i i1 i2 => zup_row _ _ _ (by omega))) (fun m2 s2 f2 => s_history_clear hX.r ?_)
  generalize hm3 : zup (zup m2 52 1 0) 52 2 0 = m3
  have r3 : ∀ i, i ≠ 52 → m3 i = m2 i := fun i hi => by rw [← hm3, zup_row _ _ _ hi, zup_row _ _ _ hi]
  have low : ∀ i, i ≠ 1 → i ≠ 234 → (i < 236 ∨ 243 < i) → (i < 23 ∨ 31 < i) → i ≠ 52 → m3 i = mem i := fun i a b c d e => by rw [r3 i e, f2 i (by omega), zup_row _ _ _ a, f1.1 i b c]
  have hm : ∀ i, 261 ≤ i → m3 i = mem i := fun i hi => low i (by omega) (by omega) (by omega) (by omega) (by omega)
  have e11 : m3 1 1 = 0 := by rw [r3 1 (by decide), f2 1 (by decide), zup_at]
  have e234 : ∀ j, j ≠ 3 → m3 234 j = mem 234 j := fun j hj => by rw [r3 234 (by decide), f2 234 (by decide), zup_row _ _ _ (by decide), f1.2 j hj]
  refine s_m_on hX.r ?_
  rw [ln _ hm]
  refine w_comes (r8 := mem 244) (tb := tb) (rx _ hm) hP (by omega) hl (tp _ hm) (fun _ _ m5 r5 f5 => ⟨by decide, fun _ => ?_, fun q => absurd q (by decide)⟩) (fun hno => absurd ⟨by omega, ok⟩ hno)
  refine t_copies (v := 0) (w := 1) hX.r hP.1 hW.1 (by decide) (by decide) (by decide) r5 (fun m6 r6 f6 => ?_)
  refine ⟨⟨by decide, by decide⟩, rfl, ?_⟩
  -- the state after
  generalize hm7 : zup m6 261 65 0 = m7
  have q6 : ∀ i, i < 261 → m7 i = m3 i := fun i hi => by rw [← hm7, zup_row _ _ _ (by omega), f6.row (by omega), f5.row (by omega), zup_row _ _ _ (by omega)]
  have s7 : ∀ j, j ≠ 1 → j ≠ 65 → j ≠ 79 → m7 261 j = mem 261 j := fun j a b c => by rw [← hm7, zup_ne _ _ _ _ b, f6.row (by decide), f5.s c, zup_ne _ _ _ _ a, hm 261 (by decide)]
  have e61 : m7 261 1 = 0 := by rw [← hm7, zup_ne _ _ _ _ (by decide), f6.row (by decide), f5.s (by decide), zup_at]
  have e65 : m7 261 65 = 0 := by rw [← hm7, zup_at]
  have h7 : ∀ i, (261 < i ∧ i < 293 ∨ 307 ≤ i) → m7 i = mem i := fun i hi => by rw [← hm7, zup_row _ _ _ (by omega), f6.row (by omega), f5.row (by omega), zup_row _ _ _ (by omega), hm i (by omega)]
  have bot : ∀ i, i < 261 → i ≠ 1 → i ≠ 234 → (i < 236 ∨ 243 < i) → (i < 23 ∨ 31 < i) → i ≠ 52 → m7 i = mem i := fun i a b c d e f => by rw [q6 i a, low i b c d e f]
  have t0 : G rf (zup (zup mem 1 1 0) 261 1 0) p pl sc ft hs c f u tb N := h.taped (tb' := tb) (fun i i1 i2 i3 i4 => by rw [zup_row _ _ _ i3, zup_row _ _ _ i1]) (fun j hj => by rw [zup_ne _ _ _ _ hj, zup_row _ _ _ (by decide)]) ⟨by rw [zup_row _ _ _ (by decide), zup_at, zup_at], by rw [zup_row _ _ _ (by decide), zup_at]; decide, fun j hj => by rw [zup_row _ _ _ (by decide), zup_at] at hj; omega⟩
  have go : GO rf m7 p pl ft tb N := by
    refine t0.2.2.2.2.2.scr (fun i i1 i2 i3 a b c d e f g h k l => ?_) (fun j hj => by rw [q6 234 (by decide), e234 j hj, zup_row _ _ _ (by decide), zup_row _ _ _ (by decide)]) (fun j a b => ?_)
    · by_cases e1 : i = 1
      · rw [e1, q6 1 (by decide), r3 1 (by decide), f2 1 (by decide), zup_row _ _ _ (show (1 : Nat) ≠ 261 by decide)]
        funext k
        rw [zup_get, zup_get, f1.1 1 (by decide) (by decide)]
      · rw [zup_row _ _ _ (show i ≠ 261 by omega), zup_row _ _ _ e1]
        by_cases e2 : i < 261
        · exact bot i e2 e1 i1 i2 (by omega) l
        · exact h7 i (by omega)
    · by_cases e1 : j = 1
      · rw [e1, zup_at]; exact e61
      · rw [zup_ne _ _ _ _ e1, zup_row _ _ _ (by decide)]
        exact s7 j e1 b a
  refine G.gi (p := p) (pl := pl) (sc := oS pl tb (mem 244)) (ft := ft) (hs := hs) (c := 0) (f := 0) (u := u) (tb := tb) ⟨⟨hX.1, hX.pc.fr (fun s h1 h2 => bot _ (by omega) (by omega) (by omega) (by omega) (by omega) (by omega)), s2.fr (fun i i1 i2 => by rw [q6 i (by omega), r3 i (by omega)])⟩, hP2, ⟨hR.1, hR.2.1.fr (s7 13 (by decide) (by decide) (by decide)) (s7 50 (by decide) (by decide) (by decide)) (fun a a1 a2 => h7 a (by omega)), r6.fr (fun a a1 a2 => by rw [← hm7, zup_row _ _ _ (by omega)])⟩, ?_, ?_, go⟩
  · obtain ⟨h1, h2, h3, h4, h5, h6, h8⟩ := hH
    refine ⟨⟨?_, ?_, e65, ?_⟩, by decide, by decide, h4, fun k a b => by omega, fun k a b => by omega, fun k a b => by omega⟩
    · rw [q6 52 (by decide), ← hm3, zup_at]
    · rw [q6 52 (by decide), ← hm3, zup_ne _ _ _ _ (by decide), zup_at]
    · rw [s7 64 (by decide) (by decide) (by decide)]; exact h1.2.2.2
  · unfold SD
    rw [bot 0 (by decide) (by decide) (by decide) (by decide) (by decide) (by decide), s7 66 (by decide) (by decide) (by decide)]
    exact hS
end ONP
