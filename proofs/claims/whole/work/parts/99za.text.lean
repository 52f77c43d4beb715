/-! a text, from its first STATEMENT on -/
def pR (tb : Nat → Int) (n s : Int) : zPS (Int × Int) := pB (pW tb n 20000 s) (fun s1 _ => pB (pN tb n 3 7 s1) (fun s2 c => pB (pW tb n 20001 s2) (fun s3 _ => pB (pN tb n 3 7 s3) (fun s4 r => .inr (s4, (c, r))))))
theorem pR_ok {tb : Nat → Int} {n s : Int} (hb : TBy tb n) (hn : n ≤ 1600) (hs : 0 ≤ s ∧ s ≤ n) : pOK n s (pR tb n s) := by
  unfold pR
  refine pB_ok (pW_ok hb hn hs (by decide)) (fun s1 z1 e1 a1 b1 => pB_ok (pN_ok hb hn (by omega)) (fun s2 c e2 a2 b2 => pB_ok (pW_ok hb hn (by omega) (by decide)) (fun s3 z3 e3 a3 b3 => ?_)))
  have h9 := pN_ok (tb := tb) (lo := 3) (hi := 7) hb hn (s := s3) (by omega)
  cases e9 : pN tb n 3 7 s3 with
  | inl e => rw [e9] at h9; exact h9
  | inr z => rw [e9] at h9; exact h9
def bR (pl : zF) (c r : Int) : zF := zup (zup pl 0 1 c) 0 2 r
theorem bR_bR {pl : zF} {c0 r0 c r : Int} : bR (bR pl c0 r0) c r = bR pl c r := by
  unfold bR
  funext i j
  rw [zup_get, zup_get, zup_get, zup_get, zup_get, zup_get]
  by_cases q2 : i = 0 ∧ j = 2
  · simp only [if_pos q2]
  · by_cases q1 : i = 0 ∧ j = 1
    · simp only [if_neg q2, if_pos q1]
    · simp only [if_neg q2, if_neg q1]
section WALLS
variable {X : zX} {rf rg m0 mem : zF} {p D : Nat} {tb : Nat → Int} {n b s : Int} {pl : zF} {L : zC}
theorem u_walls {Q : Int → zF → Prop} (hz : ZX rf p tb n) (h : CS m0 mem p tb n s pl L) (hl : L.length ≤ 1600) (hD : 4 ≤ D) (e0 : tCod tb n s = 20000) (kf : ∀ k pc, pR tb n s = .inl (k, pc) → ∀ mem', CSF m0 mem' p k pc → Q 0 mem') (kk : ∀ s' c r, pR tb n s = .inr (s', (c, r)) → ∀ mem', CS m0 mem' p tb n s' (bR pl c r) L → Q 1 mem') : Ci X D 28 [(2, 3)] rf mem Q := by
  obtain ⟨d, rfl⟩ : ∃ d, D = d + 1 := ⟨D - 1, by omega⟩
  have hp := hz.2.2.2.2.1
  have hs := h.sr hz
  have hsn : s < n := by
    have := tCod_rng hz.2.2.2.2.2.2 hs.1
    omega
  have e1 : pW tb n 20000 s = .inr (tNxt tb n s, 0) := by unfold pW; rw [if_pos e0]
  have F57 : ∀ (m : zF) (k pc : Int), CSF m0 m p k pc → (∀ mem', CSF m0 mem' p k pc → Q 0 mem') → L_parser_readWalls_57 X d rf Q m p (-1) := by
    intro m k pc hF kq
    refine s_parser_readWalls_57 hz.1 hz.2.1 hz.2.2.1 ?_
    rw [zup_at]
    exact ⟨by decide, fun _ => kq _ (hF.up0 hp), fun q => absurd rfl q⟩
  refine s_parser_readWalls hz.1 hz.2.1 hz.2.2.1 (h.ce.next hz hsn (by omega) (fun m1 h1 => ?_))
  have g1 := h1.cs hp h
  refine g1.ce.num hz hl (by omega) (by decide) (by decide) (fun s2 c e2 m2 h2 => ?_) (fun k pc e2 m2 h2 => ?_)
  · have g2 := (h2.cs hp g1).up0 (j := 1) (v := c) hp
    have r2 := pN_inr e2
    rw [zup_at]
    refine ⟨by omega, fun q => absurd q (by omega), fun _ => ?_⟩
    refine g2.ce.word hz hl (by omega) (by decide) (fun s3 z3 e3 m3 h3 => ⟨by decide, fun _ => ?_, fun q => absurd q (by decide)⟩) (fun k pc e3 m3 h3 => ⟨by decide, fun q => absurd rfl q, fun _ => F57 m3 k pc (h3.cs hp g2) (kf k pc (by simp only [pR, e1, pB_inr, e2, e3, pB_inl]))⟩)
    have g3 := h3.cs hp g2
    refine g3.ce.num hz hl (by omega) (by decide) (by decide) (fun s4 r e4 m4 h4 => ?_) (fun k pc e4 m4 h4 => F57 m4 k pc (h4.cs hp g3) (kf k pc (by simp only [pR, e1, pB_inr, e2, e3, e4, pB_inl])))
    have g4 := h4.cs hp g3
    have r4 := pN_inr e4
    refine s_parser_readWalls_57 hz.1 hz.2.1 hz.2.2.1 ?_
    rw [zup_at]
    exact ⟨by omega, fun q => absurd q (by omega), fun _ => kk s4 c r (by simp only [pR, e1, pB_inr, e2, e3, e4]) _ (g4.up0 hp)⟩
  · rw [zup_at]
    exact ⟨by decide, fun _ => F57 _ k pc ((h2.cs hp g1).up0 hp) (kf k pc (by simp only [pR, e1, pB_inr, e2, pB_inl])), fun q => absurd rfl q⟩
theorem RSs.up2 {a j : Nat} {v : Int} (h : RSs m0 mem b tb n s pl L) (ha : (a = 263 ∧ j = 1) ∨ (a = 264 ∧ j = 2)) : RSs m0 (zup mem a b.toNat v) b tb n s (zup pl 0 j v) L := by
  obtain ⟨a1, a2, a3, a4, a5⟩ := h
  have r1 : ∀ i, i ≠ a → (zup mem a b.toNat v) i = mem i := fun i x => zup_row _ _ _ x
  have p1 : ∀ i, i ≠ 0 → (zup pl 0 j v) i = pl i := fun i x => zup_row _ _ _ x
  have p0 : ∀ k, k ≠ j → (zup pl 0 j v) 0 k = pl 0 k := fun k x => zup_ne _ _ _ _ x
  refine ⟨a1.fr (fun k hj => by rw [r1 261 (by omega)]) (r1 262 (by omega)), a2.up (by omega) (by rw [wd1 (by omega)]; omega), by rw [r1 261 (by omega)]; exact a3, ?_, ?_⟩
  · unfold RCo
    rw [r1 261 (by omega), r1 281 (by omega), r1 282 (by omega)]
    exact a4
  · obtain ⟨q1, q2, q3, q4, q5, q6, q7, q8⟩ := a5
    refine ⟨?_, by rw [r1 265 (by omega), r1 278 (by omega), r1 270 (by omega), p0 3 (by omega), p0 4 (by omega), p0 5 (by omega)]; exact q2, by rw [r1 266 (by omega), r1 271 (by omega), r1 274 (by omega), p1 1 (by decide)]; exact q3, by rw [r1 267 (by omega), r1 268 (by omega), r1 269 (by omega), p1 1 (by decide), p1 3 (by decide), p1 4 (by decide), p1 5 (by decide)]; exact q4, by rw [r1 272 (by omega), r1 273 (by omega), p1 1 (by decide), p1 3 (by decide), p1 6 (by decide)]; exact q5, by rw [r1 275 (by omega), r1 276 (by omega), r1 277 (by omega), p1 1 (by decide), p1 3 (by decide), p1 7 (by decide), p1 8 (by decide)]; exact q6, ?_, by rw [r1 279 (by omega), r1 280 (by omega), p1 11 (by decide), p1 12 (by decide)]; exact q8⟩
    · rcases ha with ⟨rfl, rfl⟩ | ⟨rfl, rfl⟩
      · rw [zup_at, zup_at, r1 264 (by decide), p0 2 (by decide)]
        exact ⟨rfl, q1.2⟩
      · rw [zup_at, zup_at, r1 263 (by decide), p0 1 (by decide)]
        exact ⟨q1.1, rfl⟩
    · intro so k hs k0 k1
      rw [p1 1 (by decide)] at k1
      rw [r1 (283 + so) (by omega), p1 2 (by decide)]
      exact q7 so k hs k0 k1
theorem t_walls {Q : zF → Prop} (hR : zall rg zRK = true) (hb : TBy tb n) (hn : 0 ≤ n ∧ n ≤ 1600) (h : RSs m0 mem b tb n s pl L) (hD : 4 ≤ D) (hs : 0 ≤ s ∧ s ≤ n) (kf : ∀ k pc, pR tb n s = .inl (k, pc) → ∀ mem', RSF m0 mem' b k pc → Q mem') (kk : ∀ s' c r, pR tb n s = .inr (s', (c, r)) → ∀ mem', RSs m0 mem' b tb n s' (bR pl c r) L → Q mem') : Cv X D 228 [(2, 261)] rg mem Q := by
  obtain ⟨d, rfl⟩ : ∃ d, D = d + 1 := ⟨D - 1, by omega⟩
  have hb2 := h.2.2.1.2
  have up1 : ∀ {m : zF} {k pc v : Int} {a : Nat}, RSF m0 m b k pc → (a = 263 ∨ a = 264) → RSF m0 (zup m a b.toNat v) b k pc := fun {m k pc v a} hF ha => hF.up (by omega) (by rw [wd1 (by omega)]; omega)
  refine s_m_rooming hR (t_mustw 0 hR (by omega) hb hn hs h.1 (by decide) rfl (fun e1' m1 f1 t1 => ?_) (fun e1' => ?_))
  · have e1 : pW tb n 20000 s = .inr (tNxt tb n s, 0) := by unfold pW; rw [if_pos (by omega)]
    have g1 := h.fa f1 t1
    have o1 := pW_ok (tb := tb) (c := 20000) hb hn.2 hs (by decide)
    rw [e1] at o1
    have o1 : s < tNxt tb n s ∧ tNxt tb n s ≤ n := o1
    have hs1 : 0 ≤ tNxt tb n s ∧ tNxt tb n s ≤ n := by omega
    refine t_number hR (by omega) hb hn hs1 g1.1 (by decide) (by decide) (fun s2 c e2 m3 f3 t3 => ?_) (fun k pc e2 v => ?_)
    · have g3 := (g1.fa f3 t3).up2 (a := 263) (j := 1) (v := c) (by decide)
      have o2 := pN_ok (tb := tb) (lo := 3) (hi := 7) hb hn.2 hs1
      rw [e2] at o2
      have o2 : tNxt tb n s < s2 ∧ s2 ≤ n := o2
      have hs2 : 0 ≤ s2 ∧ s2 ≤ n := by omega
      rw [g1.2.2.1.1]
      refine ⟨by omega, t_mustw 1 hR (by omega) hb hn hs2 g3.1 (by decide) rfl (fun e3' m4 f4 t4 => ?_) (fun e3' => ?_)⟩
      · have e3 : pW tb n 20001 s2 = .inr (tNxt tb n s2, 0) := by unfold pW; rw [if_pos (by omega)]
        have g4 := g3.fa f4 t4
        have o3 := pW_ok (tb := tb) (c := 20001) hb hn.2 hs2 (by decide)
        rw [e3] at o3
        have o3 : s2 < tNxt tb n s2 ∧ tNxt tb n s2 ≤ n := o3
        have hs3 : 0 ≤ tNxt tb n s2 ∧ tNxt tb n s2 ≤ n := by omega
        refine t_number hR (by omega) hb hn hs3 g4.1 (by decide) (by decide) (fun s4 r e4 m6 f6 t6 => ?_) (fun k pc e4 v => ?_)
        · rw [g4.2.2.1.1]
          exact ⟨by omega, kk s4 c r (by simp only [pR, e1, pB_inr, e2, e3, e4]) _ ((g4.fa f6 t6).up2 (a := 264) (j := 2) (v := r) (by decide))⟩
        · rw [g4.2.2.1.1]
          exact ⟨by omega, kf k pc (by simp only [pR, e1, pB_inr, e2, e3, e4, pB_inl]) _ (up1 (g4.flt hs3 hn.2) (Or.inr rfl))⟩
      · have e3 : pW tb n 20001 s2 = .inl (1, tPlc tb n s2) := by unfold pW; rw [if_neg (by omega)]
        have hF := g3.flt (k := 1) (pc := tPlc tb n s2) hs2 hn.2
        refine t_numberF hR (by omega) hF.2.1 (by decide) hF.2.2.2.1 ?_
        rw [hF.2.2.2.2.1]
        exact ⟨by omega, kf 1 _ (by simp only [pR, e1, pB_inr, e2, e3, pB_inl]) _ (up1 hF (Or.inr rfl))⟩
    · have hk : 1 ≤ k ∧ k ≤ 6 := by
        have := pN_ok (tb := tb) (lo := 3) (hi := 7) hb hn.2 hs1
        rw [e2] at this
        exact this.1
      have hF := up1 (v := v) (g1.flt (k := k) (pc := pc) hs1 hn.2) (Or.inl rfl)
      rw [g1.2.2.1.1]
      refine ⟨by omega, t_mustF hR (by omega) hF.2.1 hk hF.2.2.2.1 (t_numberF hR (by omega) hF.2.1 hk hF.2.2.2.1 ?_)⟩
      rw [hF.2.2.2.2.1]
      exact ⟨by omega, kf k pc (by simp only [pR, e1, pB_inr, e2, pB_inl]) _ (up1 hF (Or.inr rfl))⟩
  · have e1 : pW tb n 20000 s = .inl (1, tPlc tb n s) := by unfold pW; rw [if_neg (by omega)]
    have hF := h.flt (k := 1) (pc := tPlc tb n s) hs hn.2
    refine t_numberF hR (by omega) hF.2.1 (by decide) hF.2.2.2.1 ?_
    rw [hF.2.2.2.2.1]
    have hF2 := up1 (v := 0) hF (Or.inl rfl)
    refine ⟨by omega, t_mustF hR (by omega) hF2.2.1 (by decide) hF2.2.2.2.1 (t_numberF hR (by omega) hF2.2.1 (by decide) hF2.2.2.2.1 ?_)⟩
    rw [hF2.2.2.2.2.1]
    exact ⟨by omega, kf 1 _ (by simp only [pR, e1, pB_inl]) _ (up1 hF2 (Or.inr rfl))⟩
end WALLS
/-- a plan with nothing in it -/
def Z0 (pl : zF) : Prop := pl 0 0 = 0 ∧ pl 0 3 = -1 ∧ pl 0 4 = 0 ∧ pl 0 5 = 0 ∧ (pl 1 0 = 0 ∧ pl 1 1 = 0 ∧ pl 1 2 = 0) ∧ ∀ r : Nat, r < 3 → pl 11 r = -1 ∧ pl 12 r = -1
theorem Z0.wx {pl : zF} {c r : Int} (h : Z0 pl) (hc : 3 ≤ c ∧ c ≤ 7) (hr : 3 ≤ r ∧ r ≤ 7) : WX (zup (bR pl c r) 0 0 1) [] := by
  obtain ⟨h0, h3, h4, h5, ⟨k0, k1, k2⟩, hru⟩ := h
  unfold bR
  have p1 : ∀ i, i ≠ 0 → (zup (zup (zup pl 0 1 c) 0 2 r) 0 0 1) i = pl i := fun i x => by rw [zup_row _ _ _ x, zup_row _ _ _ x, zup_row _ _ _ x]
  have p0 : ∀ k, k ≠ 0 → k ≠ 1 → k ≠ 2 → (zup (zup (zup pl 0 1 c) 0 2 r) 0 0 1) 0 k = pl 0 k := fun k x y z => by rw [zup_ne _ _ _ _ x, zup_ne _ _ _ _ z, zup_ne _ _ _ _ y]
  have e1 : (zup (zup (zup pl 0 1 c) 0 2 r) 0 0 1) 0 1 = c := by rw [zup_ne _ _ _ _ (by decide), zup_ne _ _ _ _ (by decide), zup_at]
  have e2 : (zup (zup (zup pl 0 1 c) 0 2 r) 0 0 1) 0 2 = r := by rw [zup_ne _ _ _ _ (by decide), zup_at]
  have e0 : (zup (zup (zup pl 0 1 c) 0 2 r) 0 0 1) 0 0 = 1 := zup_at _ _ _ _
  refine ⟨⟨?_, by rw [e1]; exact hc.1, fun so k s0 s1 k0' k1' => ?_⟩, fun q hq => Or.inl ?_⟩
  · unfold WP
    rw [e0, e1, e2, p0 3 (by decide) (by decide) (by decide), p0 4 (by decide) (by decide) (by decide), p0 5 (by decide) (by decide) (by decide), p1 1 (by decide), h3, h4, h5, k0, k1, k2]
    exact ⟨by decide, Or.inr (by omega), Or.inl rfl, by decide, by decide, fun k x y => by omega, fun k x y => by omega, fun k x y => by omega, trivial, by decide⟩
  · rw [p1 1 (by decide)] at k1'
    have : so = 0 ∨ so = 1 ∨ so = 2 := by omega
    rcases this with rfl | rfl | rfl
    · have k1' : k < pl 1 0 := k1'
      omega
    · have k1' : k < pl 1 1 := k1'
      omega
    · have k1' : k < pl 1 2 := k1'
      omega
  · rw [p1 11 (by decide), p1 12 (by decide)]
    exact hru q hq
section TEXT
variable {X : zX} {rf rg : zF} {p D D2 : Nat} {tb : Nat → Int} {n b : Int}
theorem r_text (hz : ZX rf p tb n) (hg : zall rg zRK = true) (hD : 71 ≤ D) (hD2 : 11 ≤ D2) {s : Int} (hs : 0 ≤ s ∧ s ≤ n) {pl : zF} (h0 : Z0 pl) :
    (∃ k pc : Int, (1 ≤ k ∧ k ≤ 6) ∧ inI pc ∧ (∀ (m0 mem : zF) (Q : Int → zF → Prop), CS m0 mem p tb n s pl [] → (∀ mem', CSF m0 mem' p k pc → Q 0 mem') → L_parser_read_29 X D rf Q mem p 1 0) ∧ ∀ (m0 mem : zF) (Q : Int → zF → Prop) (c0 r0 : Int), RSs m0 mem b tb n s (bR pl c0 r0) [] → (∀ mem' x1, RSF m0 mem' b k pc → L_m_room_179 X D2 rg Q mem' x1) → Cv X D2 228 [(2, 261)] rg mem (fun m3 => Cv X D2 237 [(2, 261), (0, 1)] rg m3 (fun m4 => L_m_room_150 X D2 rg Q m4 1))) ∨
    (∃ (pl' : zF) (L' : zC), WX pl' L' ∧ (L'.length : Int) ≤ n ∧ (1 ≤ pl' 0 0 ∧ pl' 0 0 ≤ 80) ∧ (∀ (m0 mem : zF) (Q : Int → zF → Prop), CS m0 mem p tb n s pl [] → (∀ mem', CS m0 mem' p tb n n pl' L' → Q 1 mem') → L_parser_read_29 X D rf Q mem p 1 0) ∧ ∀ (m0 mem : zF) (Q : Int → zF → Prop) (c0 r0 : Int), RSs m0 mem b tb n s (bR pl c0 r0) [] → (∀ mem', RSs m0 mem' b tb n n pl' L' → L_m_room_179 X D2 rg Q mem' (pl' 0 0)) → Cv X D2 228 [(2, 261)] rg mem (fun m3 => Cv X D2 237 [(2, 261), (0, 1)] rg m3 (fun m4 => L_m_room_150 X D2 rg Q m4 1))) := by
  have hb := hz.2.2.2.2.2.2
  have hn := hz.2.2.2.2.2.1
  have hp := hz.2.2.2.2.1
  have ok := pR_ok (tb := tb) hb hn.2 hs
  have len0 : ((([] : zC).length : Nat) : Int) = 0 := rfl
  have hrg := tCod_rng hb hs.1
  -- the program comes to its first STATEMENT
  have cgo : ∀ (m0 mem : zF) (Q : Int → zF → Prop), CS m0 mem p tb n s pl [] → (tCod tb n s ≠ 20000 → ∀ mem', CSF m0 mem' p 1 (tPlc tb n s) → Q 0 mem') → (tCod tb n s = 20000 → ∃ d, D = d + 1 ∧ Ci X d 28 [(2, 3)] rf mem (fun v m => L_parser_readStatement_253 X d rf (fun r6 mem7 => L_parser_read_29 X D rf Q mem7 p r6 (0 + 1)) m p v)) → L_parser_read_29 X D rf Q mem p 1 0 := by
    intro m0 mem Q h kf kk
    obtain ⟨d, rfl⟩ : ∃ d, D = d + 1 := ⟨D - 1, by omega⟩
    refine s_parser_read_29 hz.1 hz.2.1 hz.2.2.1 ⟨by decide, fun q => absurd q (by decide), fun _ => ⟨by decide, fun q => absurd q (by decide), fun _ => ?_⟩⟩
    rw [h.1.c]
    refine ⟨tCod_I hb hs.1, fun q => ?_, fun q => ?_⟩
    · refine s_parser_read_63 hz.1 hz.2.1 hz.2.2.1 ?_
      rw [h.pl0, h0.1]
      exact ⟨by decide, fun c => absurd c (by decide), fun _ => ⟨by decide, fun c => absurd c (by decide), fun _ => h.ce.refuse hz (by decide) (fun m2 h2 => ⟨by decide, fun _ => kf (by omega) m2 (h2.cs hp h), fun c => absurd rfl c⟩)⟩⟩
    · refine s_parser_readStatement hz.1 hz.2.1 hz.2.2.1 ?_
      rw [h.pl0, h0.1]
      refine ⟨by decide, fun c => absurd rfl c, fun _ => ?_⟩
      refine s_parser_readStatement_15 hz.1 hz.2.1 hz.2.2.1 ?_
      rw [h.pl0, h0.1, h.1.c]
      refine ⟨by decide, fun _ => ⟨tCod_I hb hs.1, fun q0 => ?_, fun q0 => ?_⟩, fun c => absurd (by decide) c⟩
      · exact s_parser_readStatement_67 hz.1 hz.2.1 hz.2.2.1 ⟨by decide, fun c => absurd c (by decide), fun _ => h.ce.refuse hz (by decide) (fun m2 h2 => ⟨Or.inl rfl, c_loopF hz (h2.cs hp h) (kf q0)⟩)⟩
      · obtain ⟨d2, e2, hq⟩ := kk q0
        have : d2 = d := by omega
        subst this
        refine s_parser_readStatement_67 hz.1 hz.2.1 hz.2.2.1 ⟨by decide, fun _ => ?_, fun c => absurd rfl c⟩
        rw [h.1.c, q0]
        exact ⟨by decide, fun _ => hq, fun c => absurd c (by decide), fun c => absurd c (by decide), fun c => absurd c (by decide), fun c => absurd c (by decide), fun c => absurd c (by decide), fun c => absurd c (by decide), fun c => absurd c (by decide), fun c => absurd c (by decide), fun c => absurd c (by decide), fun c => absurd c (by decide), fun c => absurd c (by decide), fun c => absurd c (by decide), fun c => absurd c (by decide), fun c => absurd c (by decide), fun c => absurd c (by decide), fun c => absurd c (by decide), fun c => absurd rfl c.1⟩
  cases e : pR tb n s with
  | inl x =>
    obtain ⟨k, pc⟩ := x
    rw [e] at ok
    have ok : (1 ≤ k ∧ k ≤ 6) ∧ inI pc := ok
    refine Or.inl ⟨k, pc, ok.1, ok.2, fun m0 mem Q h kk => cgo m0 mem Q h (fun q => ?_) (fun q => ?_), fun m0 mem Q c0 r0 h kk => t_walls hg hb hn h (by omega) hs (fun k2 pc2 e2 m2 h2 => ?_) (fun s2 c2 r2 e2 => ?_)⟩
    · have : pR tb n s = .inl (1, tPlc tb n s) := by
        have e1 : pW tb n 20000 s = .inl (1, tPlc tb n s) := by unfold pW; rw [if_neg q]
        simp only [pR, e1, pB_inl]
      rw [e] at this
      cases this
      exact kk
    · obtain ⟨d, hd⟩ : ∃ d, D = d + 1 := ⟨D - 1, by omega⟩
      refine ⟨d, hd, u_walls hz h (by decide) (by omega) q (fun k2 pc2 e2 m2 h2 => ?_) (fun s2 c2 r2 e2 => ?_)⟩
      · rw [e] at e2
        cases e2
        exact c_finF hz h2 (fun m3 h3 => c_loopF hz h3 kk)
      · rw [e] at e2; cases e2
    · rw [e] at e2
      cases e2
      exact t_finF hg (by omega) h2 ok.1 (t_loopF hg h2 ok.1 (kk m2 _ h2))
    · rw [e] at e2; cases e2
  | inr x =>
    obtain ⟨s1, c, r⟩ := x
    rw [e] at ok
    have ok : s < s1 ∧ s1 ≤ n := ok
    have hs1 : 0 ≤ s1 ∧ s1 ≤ n := by omega
    have hcr : tCod tb n s = 20000 ∧ (3 ≤ c ∧ c ≤ 7) ∧ (3 ≤ r ∧ r ≤ 7) := by
      have e' := e
      unfold pR at e'
      cases e1 : pW tb n 20000 s with
      | inl z => rw [e1, pB_inl] at e'; cases e'
      | inr z =>
        obtain ⟨t1, z1⟩ := z
        rw [e1, pB_inr] at e'
        have q1 := pW_inr e1
        cases e2 : pN tb n 3 7 t1 with
        | inl z => rw [e2, pB_inl] at e'; cases e'
        | inr z =>
          obtain ⟨t2, c2⟩ := z
          rw [e2, pB_inr] at e'
          have q2 := pN_inr e2
          cases e3 : pW tb n 20001 t2 with
          | inl z => rw [e3, pB_inl] at e'; cases e'
          | inr z =>
            obtain ⟨t3, z3⟩ := z
            rw [e3, pB_inr] at e'
            cases e4 : pN tb n 3 7 t3 with
            | inl z => rw [e4, pB_inl] at e'; cases e'
            | inr z =>
              obtain ⟨t4, r2⟩ := z
              rw [e4, pB_inr] at e'
              have q4 := pN_inr e4
              cases e'
              exact ⟨q1.1, q2.2.1, q4.2.1⟩
    have e00 : (bR pl c r) 0 0 = 0 := by unfold bR; rw [zup_ne _ _ _ _ (by decide), zup_ne _ _ _ _ (by decide)]; exact h0.1
    have cmid : ∀ (m0 mem : zF) (Q : Int → zF → Prop), CS m0 mem p tb n s pl [] → (tCod tb n s1 ≠ 10059 → ∀ mem', CSF m0 mem' p 1 (tPlc tb n s1) → Q 0 mem') → (tCod tb n s1 = 10059 → ∀ mem', CS m0 mem' p tb n (tNxt tb n s1) (zup (bR pl c r) 0 0 1) [] → L_parser_read_29 X D rf Q mem' p 1 (0 + 1)) → L_parser_read_29 X D rf Q mem p 1 0 := by
      intro m0 mem Q h kf kk
      refine cgo m0 mem Q h (fun q => absurd hcr.1 q) (fun q => ?_)
      obtain ⟨d, hd⟩ : ∃ d, D = d + 1 := ⟨D - 1, by omega⟩
      refine ⟨d, hd, u_walls hz h (by decide) (by omega) q (fun k2 pc2 e2 => ?_) (fun s2 c2 r2 e2 m2 h2 => ?_)⟩
      · rw [e] at e2; cases e2
      · rw [e] at e2
        cases e2
        refine c_fin hz h2 (by decide) (by omega) (fun q2 m3 h3 => kk q2 m3 ?_) (fun q2 m3 h3 => c_loopF hz h3 (kf q2))
        rw [e00] at h3
        exact h3
    have rmid : ∀ (m0 mem : zF) (Q : Int → zF → Prop) (c0 r0 : Int), RSs m0 mem b tb n s (bR pl c0 r0) [] → (tCod tb n s1 ≠ 10059 → ∀ mem', RSF m0 mem' b 1 (tPlc tb n s1) → L_m_room_150 X D2 rg Q mem' 1) → (tCod tb n s1 = 10059 → ∀ mem', RSs m0 mem' b tb n (tNxt tb n s1) (zup (bR pl c r) 0 0 1) [] → L_m_room_150 X D2 rg Q mem' 1) → Cv X D2 228 [(2, 261)] rg mem (fun m3 => Cv X D2 237 [(2, 261), (0, 1)] rg m3 (fun m4 => L_m_room_150 X D2 rg Q m4 1)) := by
      intro m0 mem Q c0 r0 h kf kk
      refine t_walls hg hb hn h (by omega) hs (fun k2 pc2 e2 => ?_) (fun s2 c2 r2 e2 m2 h2 => ?_)
      · rw [e] at e2; cases e2
      · rw [e] at e2
        cases e2
        rw [bR_bR] at h2
        exact t_finishes hg hb hn h2 (by omega) hs1 (by decide) kf (fun _ q => absurd q (by decide)) (fun q _ m3 h3 => kk q m3 h3.p00)
    by_cases e5 : tCod tb n s1 = 10059
    · have hsn : s1 < n := by
        have := tCod_rng hb hs1.1
        omega
      have hnx := tNxt_rng (tb := tb) hsn
      have hW := h0.wx hcr.2.1 hcr.2.2
      have e11 : (zup (bR pl c r) 0 0 1) 0 0 = 1 := zup_at _ _ _ _
      rcases r_loop (X := X) (D := D) (D2 := D2) (b := b) hz hg hD hD2 (n - tNxt tb n s1).toNat (tNxt tb n s1) (zup (bR pl c r) 0 0 1) [] (by omega) (by omega) hnx.2 hW (by rw [len0]; omega) (by rw [e11]; decide) (Or.inl (by rw [e11]; decide)) with ⟨k, pc, hk, hpc, h3, h4⟩ | ⟨pl3, L3, b1, b2, b3, h3, h4⟩
      · rw [e11] at h4
        exact Or.inl ⟨k, pc, hk, hpc, fun m0 mem Q h kk => cmid m0 mem Q h (fun q => absurd e5 q) (fun _ m2 h2 => h3 m0 m2 Q (0 + 1) (by decide) (by omega) h2 kk), fun m0 mem Q c0 r0 h kk => rmid m0 mem Q c0 r0 h (fun q => absurd e5 q) (fun _ m2 h2 => h4 m0 m2 Q h2 kk)⟩
      · rw [e11] at h4
        exact Or.inr ⟨pl3, L3, b1, b2, b3, fun m0 mem Q h kk => cmid m0 mem Q h (fun q => absurd e5 q) (fun _ m2 h2 => h3 m0 m2 Q (0 + 1) (by decide) (by omega) h2 kk), fun m0 mem Q c0 r0 h kk => rmid m0 mem Q c0 r0 h (fun q => absurd e5 q) (fun _ m2 h2 => h4 m0 m2 Q h2 kk)⟩
    · exact Or.inl ⟨1, tPlc tb n s1, by decide, tPlc_I hs1 hn.2, fun m0 mem Q h kk => cmid m0 mem Q h (fun _ => kk) (fun q => absurd q e5), fun m0 mem Q c0 r0 h kk => rmid m0 mem Q c0 r0 h (fun _ m2 h2 => t_loopF hg h2 (by decide) (kk m2 _ h2)) (fun q => absurd q e5)⟩
end TEXT
