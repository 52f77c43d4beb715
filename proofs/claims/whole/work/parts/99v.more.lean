/-! lamp, breath, open: both -/
def pO (tb : Nat → Int) (n : Int) (pl : zF) (s : Int) : zPS Int := if 1073741824 ≤ tCod tb n s then (if zfn pl 0 (tCod tb n s - 1073741824) = -1 ∨ zand (zshr (pl 0 5) (zfn pl 0 (tCod tb n s - 1073741824))) 1 = 1 then .inl (3, tPlc tb n s) else .inr (tNxt tb n s, zfn pl 0 (tCod tb n s - 1073741824))) else .inl (1, tPlc tb n s)
theorem pO_ok {tb : Nat → Int} {n : Int} {pl : zF} {s : Int} (hb : TBy tb n) (hn : n ≤ 1600) (hs : 0 ≤ s ∧ s ≤ n) : pOK n s (pO tb n pl s) := by
  have hr := tCod_rng hb hs.1
  unfold pO
  split
  · split
    · exact ⟨by decide, tPlc_I hs hn⟩
    · have := tNxt_rng (tb := tb) (show s < n by omega)
      exact ⟨by omega, this.2⟩
  · exact ⟨by decide, tPlc_I hs hn⟩
theorem zshl1_tab : ∀ k : Fin 6, 0 ≤ zshl 1 (k.val : Int) ∧ zshl 1 (k.val : Int) < 64 := by decide +kernel
theorem zshl1_rng {k : Int} (hk : 0 ≤ k ∧ k < 6) : 0 ≤ zshl 1 k ∧ zshl 1 k < 64 := by
  have h := zshl1_tab ⟨k.toNat, by omega⟩
  simp only at h
  rw [Int.toNat_of_nonneg hk.1] at h
  exact h
section MORE
variable {X : zX} {rf m0 mem : zF} {p D : Nat} {tb : Nat → Int} {n b s : Int} {pl : zF} {L : zC}
theorem u_stLamp {Q : Int → zF → Prop} (hz : ZX rf p tb n) (hW : WQ pl) (h : CS m0 mem p tb n s pl L) (hl : L.length ≤ 1600) (hD : 6 ≤ D) (hsn : s < n) (hcd : tCod tb n s ≠ -1) (kf : ∀ k pc, pC tb n pl (tNxt tb n s) = .inl (k, pc) → ∀ mem', CSF m0 mem' p k pc → Q 0 mem') (kk : ∀ s' v, pC tb n pl (tNxt tb n s) = .inr (s', v) → ∀ mem', CS m0 mem' p tb n s' (zup pl 0 3 v) L → Q 1 mem') : Ci X D 29 [(2, 3)] rf mem Q := by
  obtain ⟨d, rfl⟩ : ∃ d, D = d + 1 := ⟨D - 1, by omega⟩
  have hp := hz.2.2.2.2.1
  have hcr := hW.1.cr
  refine s_parser_readLamp hz.1 hz.2.1 hz.2.2.1 (h.ce.next hz hsn hcd (fun m1 h1 => ?_))
  have g1 := h1.cs hp h
  refine g1.cell hz hW hl (by omega) (so := -1) (Or.inl rfl) (fun s3 c e3 c0 m3 g3 => ?_) (fun k pc e3 m3 hF => ?_)
  · rw [if_pos rfl] at e3
    have r3 := pC_inr (by omega) e3
    unfold zic at r3
    rw [zup_at]
    exact ⟨by omega, fun q => absurd q (by omega), fun _ => kk s3 c e3 _ (g3.up0 hp)⟩
  · rw [if_pos rfl] at e3
    rw [zup_at]
    exact ⟨by decide, fun _ => kf k pc e3 _ (hF.up0 hp), fun q => absurd rfl q⟩
theorem u_stBreath {Q : Int → zF → Prop} (hz : ZX rf p tb n) (h : CS m0 mem p tb n s pl L) (hl : L.length ≤ 1600) (hD : 6 ≤ D) (hsn : s < n) (hcd : tCod tb n s ≠ -1) (kf : ∀ k pc, pN tb n 0 100 (tNxt tb n s) = .inl (k, pc) → ∀ mem', CSF m0 mem' p k pc → Q 0 mem') (kk : ∀ s' v, pN tb n 0 100 (tNxt tb n s) = .inr (s', v) → ∀ mem', CS m0 mem' p tb n s' (zup pl 0 4 v) L → Q 1 mem') : Ci X D 30 [(2, 3)] rf mem Q := by
  obtain ⟨d, rfl⟩ : ∃ d, D = d + 1 := ⟨D - 1, by omega⟩
  have hp := hz.2.2.2.2.1
  refine s_parser_readBreath hz.1 hz.2.1 hz.2.2.1 (h.ce.next hz hsn hcd (fun m1 h1 => ?_))
  have g1 := h1.cs hp h
  refine g1.ce.num hz hl (by omega) (by decide) (by decide) (fun s3 v e3 m3 h3 => ?_) (fun k pc e3 m3 h3 => ?_)
  · have r3 := pN_inr e3
    rw [zup_at]
    exact ⟨by omega, fun q => absurd q (by omega), fun _ => kk s3 v e3 _ ((h3.cs hp g1).up0 hp)⟩
  · rw [zup_at]
    exact ⟨by decide, fun _ => kf k pc e3 _ ((h3.cs hp g1).up0 hp), fun q => absurd rfl q⟩
theorem u_stOpen {Q : Int → zF → Prop} (hz : ZX rf p tb n) (hW : WQ pl) (h : CS m0 mem p tb n s pl L) (hl : L.length ≤ 1600) (hD : 6 ≤ D) (hsn : s < n) (hcd : tCod tb n s ≠ -1) (kf : ∀ k pc, pO tb n pl (tNxt tb n s) = .inl (k, pc) → ∀ mem', CSF m0 mem' p k pc → Q 0 mem') (kk : ∀ s' v, pO tb n pl (tNxt tb n s) = .inr (s', v) → ∀ mem', CS m0 mem' p tb n s' (zup pl 0 5 (zor (pl 0 5) (zshl 1 v))) L → Q 1 mem') : Ci X D 32 [(2, 3)] rf mem Q := by
  obtain ⟨d, rfl⟩ : ∃ d, D = d + 1 := ⟨D - 1, by omega⟩
  have hp := hz.2.2.2.2.1
  have hb := hz.2.2.2.2.2.2
  have hcn := hW.cnt (so := 0) (by decide)
  have hopn := hW.1.opn
  refine s_parser_readOpen hz.1 hz.2.1 hz.2.2.1 (h.ce.next hz hsn hcd (fun m1 h1 => ?_))
  have g1 := h1.cs hp h
  have hs1 := g1.sr hz
  have hI := tCod_I hb hs1.1
  have hrg := tCod_rng hb hs1.1
  refine s_tokens_isName hz.1 ?_
  rw [g1.1.c]
  refine ⟨hI, fun q => ⟨by decide, fun c => absurd rfl c, fun _ => ?_⟩, fun q => ⟨by decide, fun _ => s_tokens_letters hz.1 ?_, fun c => absurd c (by decide)⟩⟩
  · exact g1.ce.refuse hz hl (fun m2 h2 => ⟨Or.inl rfl, kf 1 _ (by unfold pO; rw [if_neg (by omega)]) m2 (h2.cs hp g1)⟩)
  · rw [g1.1.c]
    have hi := zfn_I hW (so := 0) (v := tCod tb n (tNxt tb n s) - 1073741824) (by decide)
    refine g1.wname hz hW (by omega) (by decide) (by omega) ⟨by omega, fun q2 => ?_, fun q2 => ?_⟩
    · exact g1.ce.refuse hz hl (fun m2 h2 => ⟨Or.inl rfl, kf 3 _ (by unfold pO; rw [if_pos (by omega), if_pos (Or.inl q2)]) m2 (h2.cs hp g1)⟩)
    · rw [g1.pl0]
      refine ⟨zbit_inI hopn (by omega), fun q3 => ?_, fun q3 => ?_⟩
      · have g2 := g1.up0 (j := 5) (v := zor (pl 0 5) (zshl 1 (zfn pl 0 (tCod tb n (tNxt tb n s) - 1073741824)))) hp
        exact g2.ce.next hz (by omega) (by omega) (fun m3 h3 => kk _ _ (by unfold pO; rw [if_pos (by omega), if_neg (fun c => by rcases c with c | c; exact q2 c; exact q3 c)]) m3 (h3.cs hp g2))
      · exact g1.ce.refuse hz hl (fun m2 h2 => ⟨Or.inl rfl, kf 3 _ (by unfold pO; rw [if_pos (by omega), if_pos (Or.inr q3)]) m2 (h2.cs hp g1)⟩)
/-- a number of the plan of the reference -/
theorem RSs.up1 {a j : Nat} {v : Int} (h : RSs m0 mem b tb n s pl L) (ha : (a = 265 ∧ j = 3) ∨ (a = 278 ∧ j = 4) ∨ (a = 270 ∧ j = 5)) : RSs m0 (zup mem a b.toNat v) b tb n s (zup pl 0 j v) L := by
  obtain ⟨a1, a2, a3, a4, a5⟩ := h
  have r1 : ∀ i, i ≠ a → (zup mem a b.toNat v) i = mem i := fun i x => zup_row _ _ _ x
  have p1 : ∀ i, i ≠ 0 → (zup pl 0 j v) i = pl i := fun i x => zup_row _ _ _ x
  have p0 : ∀ k, k ≠ j → (zup pl 0 j v) 0 k = pl 0 k := fun k x => zup_ne _ _ _ _ x
  refine ⟨a1.fr (fun k hj => by rw [r1 261 (by omega)]) (r1 262 (by omega)), a2.up (by omega) (by rw [wd1 (by omega)]; omega), by rw [r1 261 (by omega)]; exact a3, ?_, ?_⟩
  · unfold RCo
    rw [r1 261 (by omega), r1 281 (by omega), r1 282 (by omega)]
    exact a4
  · obtain ⟨q1, q2, q3, q4, q5, q6, q7, q8⟩ := a5
    refine ⟨by rw [r1 263 (by omega), r1 264 (by omega), p0 1 (by omega), p0 2 (by omega)]; exact q1, ?_, by rw [r1 266 (by omega), r1 271 (by omega), r1 274 (by omega), p1 1 (by decide)]; exact q3, by rw [r1 267 (by omega), r1 268 (by omega), r1 269 (by omega), p1 1 (by decide), p1 3 (by decide), p1 4 (by decide), p1 5 (by decide)]; exact q4, by rw [r1 272 (by omega), r1 273 (by omega), p1 1 (by decide), p1 3 (by decide), p1 6 (by decide)]; exact q5, by rw [r1 275 (by omega), r1 276 (by omega), r1 277 (by omega), p1 1 (by decide), p1 3 (by decide), p1 7 (by decide), p1 8 (by decide)]; exact q6, ?_, by rw [r1 279 (by omega), r1 280 (by omega), p1 11 (by decide), p1 12 (by decide)]; exact q8⟩
    · rcases ha with ⟨rfl, rfl⟩ | ⟨rfl, rfl⟩ | ⟨rfl, rfl⟩
      · rw [zup_at, zup_at, r1 278 (by decide), r1 270 (by decide), p0 4 (by decide), p0 5 (by decide)]
        exact ⟨rfl, q2.2⟩
      · rw [zup_at, zup_at, r1 265 (by decide), r1 270 (by decide), p0 3 (by decide), p0 5 (by decide)]
        exact ⟨q2.1, rfl, q2.2.2⟩
      · rw [zup_at, zup_at, r1 265 (by decide), r1 278 (by decide), p0 3 (by decide), p0 4 (by decide)]
        exact ⟨q2.1, q2.2.1, rfl⟩
    · intro so k hs k0 k1
      rw [p1 1 (by decide)] at k1
      rw [r1 (283 + so) (by omega), p1 2 (by decide)]
      exact q7 so k hs k0 k1
theorem t_stLamp {Q : zF → Prop} (hR : zall rf zRK = true) (hb : TBy tb n) (hn : 0 ≤ n ∧ n ≤ 1600) (hW : WQ pl) (h : RSs m0 mem b tb n s pl L) (hD : 6 ≤ D) (hs : 0 ≤ s ∧ s < n) (kf : ∀ k pc, pC tb n pl (tNxt tb n s) = .inl (k, pc) → ∀ mem', RSF m0 mem' b k pc → Q mem') (kk : ∀ s' v, pC tb n pl (tNxt tb n s) = .inr (s', v) → ∀ mem', RSs m0 mem' b tb n s' (zup pl 0 3 v) L → Q mem') : Cv X D 229 [(2, 261)] rf mem Q := by
  obtain ⟨d, rfl⟩ : ∃ d, D = d + 1 := ⟨D - 1, by omega⟩
  have hb2 := h.2.2.1.2
  have hnx := tNxt_rng (tb := tb) hs.2
  refine s_m_lamping hR (t_counts hR (by omega) hb hn (by omega) h.1 (Or.inl rfl) (fun _ m2 f2 t2 => ⟨by decide, fun _ => ?_, fun c => absurd c (by decide)⟩) (fun c => absurd c (by decide)))
  have g2 := h.fa f2 t2
  refine t_cellTold hR (by omega) hb hn (by omega) hW g2 (fun s3 c e3 m3 f3 t3 => ?_) (fun k pc e3 v m3 hF => ?_)
  · have g3 := g2.fa f3 t3
    rw [g3.1.2.2.2, g3.2.2.1.1]
    exact ⟨by decide, fun q => absurd rfl q, fun _ => ⟨by omega, kk s3 c e3 _ (g3.up1 (by decide))⟩⟩
  · have hk : 1 ≤ k ∧ k ≤ 6 := by
      have := pC_ok (tb := tb) (pl := pl) (s := tNxt tb n s) hb hn.2 (by omega)
      rw [e3] at this
      exact this.1
    rw [hF.2.1]
    exact ⟨by omega, fun _ => kf k pc e3 _ hF, fun q => absurd q (by omega)⟩
theorem t_stBreath {Q : zF → Prop} (hR : zall rf zRK = true) (hb : TBy tb n) (hn : 0 ≤ n ∧ n ≤ 1600) (h : RSs m0 mem b tb n s pl L) (hD : 6 ≤ D) (hs : 0 ≤ s ∧ s < n) (kf : ∀ k pc, pN tb n 0 100 (tNxt tb n s) = .inl (k, pc) → ∀ mem', RSF m0 mem' b k pc → Q mem') (kk : ∀ s' v, pN tb n 0 100 (tNxt tb n s) = .inr (s', v) → ∀ mem', RSs m0 mem' b tb n s' (zup pl 0 4 v) L → Q mem') : Cv X D 235 [(2, 261)] rf mem Q := by
  obtain ⟨d, rfl⟩ : ∃ d, D = d + 1 := ⟨D - 1, by omega⟩
  have hb2 := h.2.2.1.2
  have hnx := tNxt_rng (tb := tb) hs.2
  have hs1 : 0 ≤ tNxt tb n s ∧ tNxt tb n s ≤ n := by omega
  refine s_m_breathing hR (t_counts hR (by omega) hb hn (by omega) h.1 (Or.inl rfl) (fun _ m2 f2 t2 => ⟨by decide, fun _ => ?_, fun c => absurd c (by decide)⟩) (fun c => absurd c (by decide)))
  have g2 := h.fa f2 t2
  refine t_number hR (by omega) hb hn hs1 g2.1 (by decide) (by decide) (fun s3 v e3 m3 f3 t3 => ?_) (fun k pc e3 v => ?_)
  · have g3 := g2.fa f3 t3
    rw [g3.1.2.2.2, g3.2.2.1.1]
    exact ⟨by decide, fun q => absurd rfl q, fun _ => ⟨by omega, kk s3 v e3 _ (g3.up1 (by decide))⟩⟩
  · have hk : 1 ≤ k ∧ k ≤ 6 := by
      have := pN_ok (tb := tb) (lo := 0) (hi := 100) hb hn.2 hs1
      rw [e3] at this
      exact this.1
    rw [zflt_8]
    exact ⟨by omega, fun _ => kf k pc e3 _ (g2.flt hs1 hn.2), fun q => absurd q (by omega)⟩
theorem t_stOpen {Q : zF → Prop} (hR : zall rf zRK = true) (hb : TBy tb n) (hn : 0 ≤ n ∧ n ≤ 1600) (hW : WQ pl) (h : RSs m0 mem b tb n s pl L) (hD : 6 ≤ D) (hs : 0 ≤ s ∧ s < n) (kf : ∀ k pc, pO tb n pl (tNxt tb n s) = .inl (k, pc) → ∀ mem', RSF m0 mem' b k pc → Q mem') (kk : ∀ s' v, pO tb n pl (tNxt tb n s) = .inr (s', v) → ∀ mem', RSs m0 mem' b tb n s' (zup pl 0 5 (zor (pl 0 5) (zshl 1 v))) L → Q mem') : Cv X D 231 [(2, 261)] rf mem Q := by
  obtain ⟨d, rfl⟩ : ∃ d, D = d + 1 := ⟨D - 1, by omega⟩
  have hb2 := h.2.2.1.2
  have hnx := tNxt_rng (tb := tb) hs.2
  have hs1 : 0 ≤ tNxt tb n s ∧ tNxt tb n s ≤ n := by omega
  have hcn := hW.cnt (so := 0) (by decide)
  have hopn := hW.1.opn
  refine s_m_opening hR (t_counts hR (by omega) hb hn (by omega) h.1 (Or.inl rfl) (fun _ m2 f2 t2 => ⟨by decide, fun _ => ?_, fun c => absurd c (by decide)⟩) (fun c => absurd c (by decide)))
  have g2 := h.fa f2 t2
  have hf := g2.1.1.f hs1
  have h8 := g2.1.2.2.2
  generalize tNxt tb n s = s1 at *
  have S107F : ∀ (k pc x : Int), (1 ≤ k ∧ k ≤ 6) → (∀ mem', RSF m0 mem' b k pc → Q mem') → L_m_opening_107 X d rf Q (zflt m2 k pc) x := by
    intro k pc x hk hq
    refine s_m_opening_107 hR ?_
    rw [zflt_8]
    exact ⟨by omega, fun q => absurd q (by omega), fun _ => hq _ (g2.flt hs1 hn.2)⟩
  have S69F : ∀ (k pc x : Int), (1 ≤ k ∧ k ≤ 6) → (∀ mem', RSF m0 mem' b k pc → Q mem') → L_m_opening_69 X d rf Q (zflt m2 k pc) x := by
    intro k pc x hk hq
    refine s_m_opening_69 hR ?_
    rw [zflt_8]
    exact ⟨by omega, fun _ => S107F k pc x hk hq, fun q => absurd q (by omega)⟩
  have S49F : ∀ (k pc : Int), (1 ≤ k ∧ k ≤ 6) → (∀ mem', RSF m0 mem' b k pc → Q mem') → L_m_opening_49 X d rf Q (zflt m2 k pc) := by
    intro k pc hk hq
    refine s_m_opening_49 hR ?_
    rw [zflt_8]
    exact ⟨by omega, fun q => absurd q (by omega), fun _ => S69F k pc 0 hk hq⟩
  have wrong : tCod tb n s1 ≠ -1 → ¬ 1073741824 ≤ tCod tb n s1 → Cv X d 198 [(2, 261), (0, 1), (0, m2 261 4)] rf m2 (fun m3 => L_m_opening_49 X d rf Q m3) := by
    intro hc q
    refine t_blame hR h8 ?_
    rw [hf.1]
    refine S49F 1 s1 (by decide) ?_
    have := kf 1 _ (by unfold pO; rw [if_neg q])
    rw [tPlc_s hc] at this
    exact this
  refine t_lex hR (by omega) hb hn.2 hs1 g2.1 (fun hc => ?_) (fun hc => ?_)
  · rw [h8]
    refine ⟨by decide, fun _ => ⟨by omega, fun q => wrong hc ?_, fun q => ?_⟩, fun q => absurd (by decide) q⟩
    · rcases g2.1.1.cl hb hs1 hc with ⟨e, e3⟩ | ⟨hsn, e, e3, e6⟩ | ⟨_, e, e3, e6⟩ | ⟨_, e3, _⟩
      · omega
      · omega
      · omega
      · exact absurd e3 q
    · rcases g2.1.1.cl hb hs1 hc with ⟨e, e3⟩ | ⟨hsn, e, e3, e6⟩ | ⟨_, e, e3, e6⟩ | ⟨hsn, e3, e6, ls, hl, hx, e, e7⟩
      · omega
      · omega
      · omega
      · have hzr := zn5_rng ls hx
        have hor := tOwn_rng (v := zn5 ls)
        rw [e7]
        refine t_isOwn hR (zn8_in hl.2 hx) (fun ⟨k, hk, ek⟩ => ⟨by decide, fun c => absurd c (by decide), fun _ => wrong hc ?_⟩) (fun hno => ⟨by decide, fun _ => ?_, fun c => absurd rfl c⟩)
        · have := (tWc_iff hl hx hk).mpr ek
          omega
        · have hown : tOwn (zn5 ls) = -1 := by
            rcases hor with x | x
            · exact x
            · exfalso
              have hk : (tOwn (zn5 ls)).toNat < 27 := by omega
              refine hno _ hk ((tWc_iff hl hx hk).mp ?_)
              unfold tWc
              rw [if_neg (by omega)]
              omega
          have ec : tCod tb n s1 = 1073741824 + zn5 ls := by
            rw [e]
            unfold tWc
            rw [if_pos hown]
          have ev : tCod tb n s1 - 1073741824 = zn5 ls := by omega
          have hNR : NR (zn5 ls) (zn8 0 ls) := ⟨ls, hl.1, hl.2, hx, rfl, rfl⟩
          have hi := zfn_I hW (so := 0) (v := zn5 ls) (by decide)
          have e270 : m2 270 b.toNat = pl 0 5 := g2.2.2.2.2.2.1.2.2
          refine s_m_opening_49 hR ?_
          rw [h8, e7]
          refine ⟨by decide, fun _ => g2.named hR hW (by omega) (by decide) hNR ?_, fun q => absurd (by decide) q⟩
          have bad : (zfn pl 0 (zn5 ls) = -1 ∨ zand (zshr (pl 0 5) (zfn pl 0 (zn5 ls))) 1 = 1) → Cv X d 198 [(2, 261), (0, 3), (0, m2 261 4)] rf m2 (fun m3 => L_m_opening_107 X d rf Q m3 (zfn pl 0 (zn5 ls))) := by
            intro q
            refine t_blame hR h8 ?_
            rw [hf.1]
            refine S107F 3 s1 _ (by decide) ?_
            have := kf 3 _ (by unfold pO; rw [if_pos (by omega), ev, if_pos q])
            rw [tPlc_s hc] at this
            exact this
          refine s_m_opening_69 hR ?_
          rw [h8, g2.2.2.1.1, e270]
          refine ⟨by decide, fun c => absurd rfl c, fun _ => ⟨by omega, fun q2 => bad (Or.inl q2), fun q2 => ⟨by omega, s_m_has2 hR ⟨zbit_inI hopn (by omega), fun q3 => ⟨by decide, fun _ => ?_, fun c => absurd rfl c⟩, fun q3 => ⟨by decide, fun c => absurd c (by decide), fun _ => bad (Or.inr q3)⟩⟩⟩⟩⟩
          refine s_m_opening_107 hR ?_
          rw [h8]
          refine ⟨by decide, fun _ => t_ahd hR (by omega) hb hn hs1 g2.1 (fun m3 f3 t3 => ?_), fun q => absurd (by decide) q⟩
          have g3 := g2.fa f3 t3
          have e270' : m3 270 b.toNat = pl 0 5 := g3.2.2.2.2.2.1.2.2
          rw [g3.2.2.1.1, e270']
          exact ⟨by omega, by omega, kk _ (zfn pl 0 (zn5 ls)) (by unfold pO; rw [if_pos (by omega), ev, if_neg (fun c => by rcases c with c | c; exact q2 c; exact q3 c)]) _ (g3.up1 (by decide))⟩
  · rw [zflt_8]
    exact ⟨by decide, fun q => absurd q (by decide), fun _ => kf 1 _ (by unfold pO; rw [if_neg (by omega)]) _ (g2.flt hs1 hn.2)⟩
end MORE
