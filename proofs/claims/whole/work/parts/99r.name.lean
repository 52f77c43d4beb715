/-! names, cells, numbers: both -/
section PURE3
def pC (tb : Nat → Int) (n : Int) (pl : zF) (s : Int) : zPS Int := pB (pN tb n 0 (pl 0 1 - 1) s) (fun s1 x => pB (pN tb n 0 (pl 0 2 - 1) s1) (fun s2 y => .inr (s2, 8 * y + x)))
def pF (tb : Nat → Int) (n : Int) (pl : zF) (so s : Int) : zPS Int := pB (pN tb n 0 (pl 0 1 - 1) s) (fun s1 x => pB (pN tb n 0 (pl 0 2 - 1) s1) (fun s2 y => if ztk pl so (8 * y + x) = -1 then .inr (s2, 8 * y + x) else .inl (4, tPlc tb n s1)))
def pM (tb : Nat → Int) (n : Int) (pl : zF) (s : Int) : zPS Int := if 1073741824 ≤ tCod tb n s then (if zfn pl 0 (tCod tb n s - 1073741824) = -1 ∧ zfn pl 1 (tCod tb n s - 1073741824) = -1 ∧ zfn pl 2 (tCod tb n s - 1073741824) = -1 then .inr (tNxt tb n s, tCod tb n s - 1073741824) else .inl (2, tPlc tb n s)) else .inl (1, tPlc tb n s)
end PURE3
section CNAME
variable {X : zX} {rf m0 mem : zF} {p D : Nat} {tb : Nat → Int} {n s : Int} {pl : zF} {L : zC}
theorem CS.sr (hz : ZX rf p tb n) (h : CS m0 mem p tb n s pl L) : 0 ≤ s ∧ s ≤ n := h.1.r hz.2.2.2.2.2.1.1
theorem CS.newName {Q : Int → zF → Prop} (hz : ZX rf p tb n) (hW : WQ pl) (h : CS m0 mem p tb n s pl L) (hl : L.length ≤ 1600) (hD : 3 ≤ D) (kk : ∀ s' v, pM tb n pl s = .inr (s', v) → 0 ≤ v → ∀ mem', CS m0 mem' p tb n s' pl L → Q v mem') (kf : ∀ k pc, pM tb n pl s = .inl (k, pc) → ∀ mem', CSF m0 mem' p k pc → Q (-1) mem') : Ci X D 38 [(2, 3)] rf mem Q := by
  obtain ⟨d, rfl⟩ : ∃ d, D = d + 1 := ⟨D - 1, by omega⟩
  have hp := hz.2.2.2.2.1
  have hs := h.sr hz
  have hI := tCod_I hz.2.2.2.2.2.2 hs.1
  have hrg := tCod_rng hz.2.2.2.2.2.2 hs.1
  refine s_parser_readNewName hz.1 hz.2.1 hz.2.2.1 (s_tokens_isName hz.1 ?_)
  rw [h.1.c]
  refine ⟨hI, fun q => s_tokens_letters hz.1 ?_, fun q => s_tokens_letters hz.1 ?_⟩
  · refine ⟨by decide, fun _ => ?_, fun c => absurd rfl c⟩
    refine s_parser_readNewName_36 hz.1 hz.2.1 hz.2.2.1 ⟨by decide, fun _ => ?_, fun c => absurd rfl c⟩
    exact s_parser_readNewName_45 hz.1 hz.2.1 hz.2.2.1 ⟨by decide, fun _ => h.ce.refuse hz hl (fun m2 h2 => kf 1 _ (by unfold pM; rw [if_neg (by omega)]) m2 (h2.cs hp h)), fun c => absurd rfl c⟩
  · rw [h.1.c]
    refine ⟨by decide, fun c => absurd c (by decide), fun _ => h.named hz hW (by omega) (by omega) (fun q2 => ⟨by decide, fun c => absurd c (by decide), fun _ => ?_⟩) (fun q2 => ⟨by decide, fun _ => ?_, fun c => absurd rfl c⟩)⟩
    · refine s_parser_readNewName_36 hz.1 hz.2.1 hz.2.2.1 ⟨by decide, fun c => absurd c (by decide), fun _ => ⟨by decide, fun c => absurd c (by decide), fun _ => ?_⟩⟩
      exact s_parser_readNewName_45 hz.1 hz.2.1 hz.2.2.1 ⟨by decide, fun c => absurd c (by decide), fun _ => h.ce.refuse hz hl (fun m2 h2 => kf 2 _ (by unfold pM; rw [if_pos (by omega), if_neg q2]) m2 (h2.cs hp h))⟩
    · refine s_parser_readNewName_36 hz.1 hz.2.1 hz.2.2.1 ⟨by decide, fun c => absurd c (by decide), fun _ => ⟨by decide, fun _ => ?_, fun c => absurd rfl c⟩⟩
      exact h.ce.next hz (by omega) (by omega) (fun m2 h2 => kk _ _ (by unfold pM; rw [if_pos (by omega), if_pos q2]) (by omega) m2 (h2.cs hp h))
theorem CS.cell {Q : Int → zF → Prop} (hz : ZX rf p tb n) (hW : WQ pl) (h : CS m0 mem p tb n s pl L) (hl : L.length ≤ 1600) (hD : 3 ≤ D) {so : Int} (hso : so = -1 ∨ so = 1 ∨ so = 2) (kk : ∀ s' v, (if so = -1 then pC tb n pl s else pF tb n pl so s) = .inr (s', v) → 0 ≤ v → ∀ mem', CS m0 mem' p tb n s' pl L → Q v mem') (kf : ∀ k pc, (if so = -1 then pC tb n pl s else pF tb n pl so s) = .inl (k, pc) → ∀ mem', CSF m0 mem' p k pc → Q (-1) mem') : Ci X D 42 [(2, 3), (0, so)] rf mem Q := by
  obtain ⟨d, rfl⟩ : ∃ d, D = d + 1 := ⟨D - 1, by omega⟩
  have hp := hz.2.2.2.2.1
  have hcr := hW.1.cr
  have hs := h.sr hz
  refine s_parser_readCell hz.1 hz.2.1 hz.2.2.1 ?_
  rw [h.pl0]
  refine h.ce.num hz hl (by omega) (by decide) (by omega) (fun s1 x e1 m2 h2 => ?_) (fun k pc e1 m2 h2 => ?_)
  · have g2 := h2.cs hp h
    have r1 := pN_inr e1
    refine ⟨by omega, fun _ => ?_, fun q => absurd q (by omega)⟩
    rw [g2.pl0]
    refine g2.ce.numHere hz hl (by omega) (by decide) (by omega) (fun e2 => ?_) (fun k pc e2 m3 h3 => ?_)
    · have r2 := pN_inr e2
      have hs1 := g2.sr hz
      have hrg := tCod_rng hz.2.2.2.2.2.2 hs1.1
      refine s_parser_readCell_38 hz.1 hz.2.1 hz.2.2.1 ⟨by omega, fun _ => g2.cellAt hz (by omega) (by omega) (by omega) ?_, fun q => absurd q (by omega)⟩
      rcases hso with rfl | hso
      · refine g2.taken0 hz (by omega) ⟨by decide, fun _ => g2.ce.next hz (by omega) (by omega) (fun m3 h3 => kk _ _ ?_ (by omega) m3 (h3.cs hp g2)), fun q => absurd rfl q⟩
        rw [if_pos rfl]
        unfold pC
        rw [e1]
        show pB (pN tb n 0 (pl 0 2 - 1) s1) _ = _
        rw [e2]
        rfl
      · have hne : ¬ so = -1 := by omega
        refine g2.taken hz hW (by omega) hso (by omega) (fun q => ⟨by decide, fun c => absurd c (by decide), fun _ => ?_⟩) (fun q => ⟨by decide, fun _ => ?_, fun c => absurd rfl c⟩)
        · refine g2.ce.refuse hz hl (fun m3 h3 => kf 4 _ ?_ m3 (h3.cs hp g2))
          rw [if_neg hne]
          unfold pF
          rw [e1]
          show pB (pN tb n 0 (pl 0 2 - 1) s1) _ = _
          rw [e2]
          show (if ztk pl so (8 * tCod tb n s1 + x) = -1 then _ else _) = _
          rw [if_neg q]
        · refine g2.ce.next hz (by omega) (by omega) (fun m3 h3 => kk _ _ ?_ (by omega) m3 (h3.cs hp g2))
          rw [if_neg hne]
          unfold pF
          rw [e1]
          show pB (pN tb n 0 (pl 0 2 - 1) s1) _ = _
          rw [e2]
          show (if ztk pl so (8 * tCod tb n s1 + x) = -1 then _ else _) = _
          rw [if_pos q]
    · refine s_parser_readCell_38 hz.1 hz.2.1 hz.2.2.1 ⟨by decide, fun q => absurd rfl q, fun _ => kf k pc ?_ m3 (h3.cs hp g2)⟩
      split
      · unfold pC
        rw [e1]
        show pB (pN tb n 0 (pl 0 2 - 1) s1) _ = _
        rw [e2]
        rfl
      · unfold pF
        rw [e1]
        show pB (pN tb n 0 (pl 0 2 - 1) s1) _ = _
        rw [e2]
        rfl
  · refine ⟨by decide, fun q => absurd rfl q, fun _ => ?_⟩
    refine s_parser_readCell_38 hz.1 hz.2.1 hz.2.2.1 ⟨by decide, fun q => absurd rfl q, fun _ => kf k pc ?_ m2 (h2.cs hp h)⟩
    split
    · unfold pC
      rw [e1]
      rfl
    · unfold pF
      rw [e1]
      rfl
end CNAME
section RNAME
variable {X : zX} {rf m0 mem : zF} {D : Nat} {tb : Nat → Int} {n b s : Int} {pl : zF} {L : zC}
theorem t_number {Q : Int → zF → Prop} (hR : zall rf zRK = true) (hD : 2 ≤ D) (hb : TBy tb n) (hn : 0 ≤ n ∧ n ≤ 1600) (hs : 0 ≤ s ∧ s ≤ n) (h : RTK mem tb n s) {lo hi : Int} (hlo : inI lo) (hhi : inI hi) (kk : ∀ s' v, pN tb n lo hi s = .inr (s', v) → ∀ mem', zFA mem mem' → RTK mem' tb n s' → Q v mem') (kf : ∀ k pc, pN tb n lo hi s = .inl (k, pc) → ∀ v, Q v (zflt mem k pc)) : Ci X D 210 [(2, 261), (0, lo), (0, hi)] rf mem Q := by
  obtain ⟨d, rfl⟩ : ∃ d, D = d + 1 := ⟨D - 1, by omega⟩
  have hf := h.1.f hs
  have h8 := h.2.2.2
  refine s_m_number hR (t_lex hR (by omega) hb hn.2 hs h (fun hc => ?_) (fun hc => ?_))
  · rw [h8]
    refine ⟨by decide, fun _ => ⟨by omega, fun q => ?_, fun q => ?_⟩, fun q => absurd (by decide) q⟩
    · rcases h.1.cl hb hs hc with ⟨e, e3⟩ | ⟨hsn, e, e3, e6⟩ | ⟨_, e, e3, e6⟩ | ⟨_, e3, _⟩
      · omega
      · refine s_m_number_30 hR ?_
        rw [h8, e6]
        refine ⟨by decide, fun q => absurd rfl q, fun _ => s_m_is hR ⟨⟨by omega, hlo⟩, fun q1 => ⟨by decide, fun q => absurd rfl q, fun _ => ?_⟩, fun q1 => ⟨⟨by omega, hhi⟩, fun q2 => ⟨by decide, fun q => absurd rfl q, fun _ => ?_⟩, fun q2 => ⟨by decide, fun _ => ?_, fun q => absurd q (by decide)⟩⟩⟩⟩
        · refine t_blame hR h8 ?_
          rw [hf.1]
          refine s_m_number_58 hR ?_
          rw [zflt_8]
          have := kf 4 _ (by unfold pN; rw [if_pos e, if_neg (by omega)])
          rw [tPlc_s hc] at this
          exact ⟨by decide, fun _ => this _, fun q => absurd q (by decide)⟩
        · refine t_blame hR h8 ?_
          rw [hf.1]
          refine s_m_number_58 hR ?_
          rw [zflt_8]
          have := kf 4 _ (by unfold pN; rw [if_pos e, if_neg (by omega)])
          rw [tPlc_s hc] at this
          exact ⟨by decide, fun _ => this _, fun q => absurd q (by decide)⟩
        · refine s_m_number_58 hR ?_
          rw [h8, e6]
          exact ⟨by decide, fun q => absurd rfl q, fun _ => t_ahd hR (by omega) hb hn hs h (kk _ _ (by unfold pN; rw [if_pos e, if_pos (by omega)]))⟩
      · omega
      · omega
    · have nn : ¬ (0 ≤ tCod tb n s ∧ tCod tb n s < 10000) := by
        rcases h.1.cl hb hs hc with ⟨e, e3⟩ | ⟨hsn, e, e3, e6⟩ | ⟨_, e, e3, e6⟩ | ⟨_, e3, e6, ls, hl, hx, e, e7⟩
        · omega
        · exact absurd e3 q
        · omega
        · have hz := zn5_rng ls hx
          rw [e]
          unfold tWc
          have := tOwn_rng (v := zn5 ls)
          split <;> omega
      refine t_blame hR h8 ?_
      rw [hf.1]
      refine s_m_number_30 hR ?_
      rw [zflt_8]
      refine ⟨by decide, fun _ => ?_, fun q => absurd q (by decide)⟩
      refine s_m_number_58 hR ?_
      rw [zflt_8]
      have := kf 1 _ (by unfold pN; rw [if_neg nn])
      rw [tPlc_s hc] at this
      exact ⟨by decide, fun _ => this _, fun q => absurd q (by decide)⟩
  · rw [zflt_8]
    exact ⟨by decide, fun q => absurd q (by decide), fun _ => kf 1 _ (by unfold pN; rw [if_neg (by omega)]) 0⟩
theorem t_numberF {Q : Int → zF → Prop} {lo hi k : Int} (hR : zall rf zRK = true) (hD : 2 ≤ D) (h8 : mem 261 8 = k) (hk : 1 ≤ k ∧ k ≤ 6) (h12 : inI (mem 261 12)) (kk : Q 0 mem) : Ci X D 210 [(2, 261), (0, lo), (0, hi)] rf mem Q := by
  obtain ⟨d, rfl⟩ : ∃ d, D = d + 1 := ⟨D - 1, by omega⟩
  refine s_m_number hR (t_lexF hR (by omega) h8 hk h12 ?_)
  rw [h8]
  exact ⟨by omega, fun q => absurd q (by omega), fun _ => kk⟩
theorem zo8_all {w : Int} (q0 : ¬ w = 1919905645) (q1 : ¬ w = 25209) (q2 : ¬ w = 1818324336) (q3 : ¬ w = 1685024626) (q4 : ¬ w = 24948) (q5 : ¬ w = 422726039411) (q6 : ¬ w = 491327153000) (q7 : ¬ w = 1869636974) (q8 : ¬ w = 1751476594) (q9 : ¬ w = 1952541804) (q10 : ¬ w = 108256301313125) (q11 : ¬ w = 1718185069) (q12 : ¬ w = 1936292453) (q13 : ¬ w = 499967946355) (q14 : ¬ w = 108256570864755) (q15 : ¬ w = 6845797) (q16 : ¬ w = 108243466679400) (q17 : ¬ w = 126879297138276) (q18 : ¬ w = 431416239732) (q19 : ¬ w = 431197873267) (q20 : ¬ w = 26982) (q21 : ¬ w = 28530) (q22 : ¬ w = 6385252) (q23 : ¬ w = 7237492) (q24 : ¬ w = 6384748) (q25 : ¬ w = 7170414) (q26 : ¬ w = 7168376) : ∀ k : Nat, k < 27 → w ≠ zo8.getD k 0 := by
  intro k hk
  have : k = 0 ∨ k = 1 ∨ k = 2 ∨ k = 3 ∨ k = 4 ∨ k = 5 ∨ k = 6 ∨ k = 7 ∨ k = 8 ∨ k = 9 ∨ k = 10 ∨ k = 11 ∨ k = 12 ∨ k = 13 ∨ k = 14 ∨ k = 15 ∨ k = 16 ∨ k = 17 ∨ k = 18 ∨ k = 19 ∨ k = 20 ∨ k = 21 ∨ k = 22 ∨ k = 23 ∨ k = 24 ∨ k = 25 ∨ k = 26 := by omega
  rcases this with rfl | rfl | rfl | rfl | rfl | rfl | rfl | rfl | rfl | rfl | rfl | rfl | rfl | rfl | rfl | rfl | rfl | rfl | rfl | rfl | rfl | rfl | rfl | rfl | rfl | rfl | rfl
  · exact q0
  · exact q1
  · exact q2
  · exact q3
  · exact q4
  · exact q5
  · exact q6
  · exact q7
  · exact q8
  · exact q9
  · exact q10
  · exact q11
  · exact q12
  · exact q13
  · exact q14
  · exact q15
  · exact q16
  · exact q17
  · exact q18
  · exact q19
  · exact q20
  · exact q21
  · exact q22
  · exact q23
  · exact q24
  · exact q25
  · exact q26
theorem t_isOwn {Q : Int → zF → Prop} (hR : zall rf zRK = true) {w : Int} (hL : inL w) (k1 : (∃ k : Nat, k < 27 ∧ w = zo8.getD k 0) → Q 1 mem) (k0 : (∀ k : Nat, k < 27 → w ≠ zo8.getD k 0) → Q 0 mem) : Ci X D 206 [(2, 261), (1, w)] rf mem Q := by
  refine s_m_isOwn hR ?_
  refine ⟨⟨hL, by decide⟩, zcmpi _ _, ?_⟩
  rw [zcmp0]
  have p0 : w = 1919905645 → Q 1 mem := fun q => k1 ⟨0, by decide, q⟩
  suffices hs0 : ¬ w = 1919905645 → _ from (by first | exact ⟨p0, hs0⟩ | exact ⟨hs0, p0⟩)
  intro q0
  refine ⟨⟨hL, by decide⟩, zcmpi _ _, ?_⟩
  rw [zcmp0]
  have p1 : w = 25209 → Q 1 mem := fun q => k1 ⟨1, by decide, q⟩
  suffices hs1 : ¬ w = 25209 → _ from (by first | exact ⟨p1, hs1⟩ | exact ⟨hs1, p1⟩)
  intro q1
  refine ⟨⟨hL, by decide⟩, zcmpi _ _, ?_⟩
  rw [zcmp0]
  have p2 : w = 1818324336 → Q 1 mem := fun q => k1 ⟨2, by decide, q⟩
  suffices hs2 : ¬ w = 1818324336 → _ from (by first | exact ⟨p2, hs2⟩ | exact ⟨hs2, p2⟩)
  intro q2
  refine ⟨⟨hL, by decide⟩, zcmpi _ _, ?_⟩
  rw [zcmp0]
  have p3 : w = 1685024626 → Q 1 mem := fun q => k1 ⟨3, by decide, q⟩
  suffices hs3 : ¬ w = 1685024626 → _ from (by first | exact ⟨p3, hs3⟩ | exact ⟨hs3, p3⟩)
  intro q3
  refine ⟨⟨hL, by decide⟩, zcmpi _ _, ?_⟩
  rw [zcmp0]
  have p4 : w = 24948 → Q 1 mem := fun q => k1 ⟨4, by decide, q⟩
  suffices hs4 : ¬ w = 24948 → _ from (by first | exact ⟨p4, hs4⟩ | exact ⟨hs4, p4⟩)
  intro q4
  refine ⟨⟨hL, by decide⟩, zcmpi _ _, ?_⟩
  rw [zcmp0]
  have p5 : w = 422726039411 → Q 1 mem := fun q => k1 ⟨5, by decide, q⟩
  suffices hs5 : ¬ w = 422726039411 → _ from (by first | exact ⟨p5, hs5⟩ | exact ⟨hs5, p5⟩)
  intro q5
  refine ⟨⟨hL, by decide⟩, zcmpi _ _, ?_⟩
  rw [zcmp0]
  have p6 : w = 491327153000 → Q 1 mem := fun q => k1 ⟨6, by decide, q⟩
  suffices hs6 : ¬ w = 491327153000 → _ from (by first | exact ⟨p6, hs6⟩ | exact ⟨hs6, p6⟩)
  intro q6
  refine ⟨⟨hL, by decide⟩, zcmpi _ _, ?_⟩
  rw [zcmp0]
  have p7 : w = 1869636974 → Q 1 mem := fun q => k1 ⟨7, by decide, q⟩
  suffices hs7 : ¬ w = 1869636974 → _ from (by first | exact ⟨p7, hs7⟩ | exact ⟨hs7, p7⟩)
  intro q7
  refine ⟨⟨hL, by decide⟩, zcmpi _ _, ?_⟩
  rw [zcmp0]
  have p8 : w = 1751476594 → Q 1 mem := fun q => k1 ⟨8, by decide, q⟩
  suffices hs8 : ¬ w = 1751476594 → _ from (by first | exact ⟨p8, hs8⟩ | exact ⟨hs8, p8⟩)
  intro q8
  refine ⟨⟨hL, by decide⟩, zcmpi _ _, ?_⟩
  rw [zcmp0]
  have p9 : w = 1952541804 → Q 1 mem := fun q => k1 ⟨9, by decide, q⟩
  suffices hs9 : ¬ w = 1952541804 → _ from (by first | exact ⟨p9, hs9⟩ | exact ⟨hs9, p9⟩)
  intro q9
  refine ⟨⟨hL, by decide⟩, zcmpi _ _, ?_⟩
  rw [zcmp0]
  have p10 : w = 108256301313125 → Q 1 mem := fun q => k1 ⟨10, by decide, q⟩
  suffices hs10 : ¬ w = 108256301313125 → _ from (by first | exact ⟨p10, hs10⟩ | exact ⟨hs10, p10⟩)
  intro q10
  refine ⟨⟨hL, by decide⟩, zcmpi _ _, ?_⟩
  rw [zcmp0]
  have p11 : w = 1718185069 → Q 1 mem := fun q => k1 ⟨11, by decide, q⟩
  suffices hs11 : ¬ w = 1718185069 → _ from (by first | exact ⟨p11, hs11⟩ | exact ⟨hs11, p11⟩)
  intro q11
  refine ⟨⟨hL, by decide⟩, zcmpi _ _, ?_⟩
  rw [zcmp0]
  have p12 : w = 1936292453 → Q 1 mem := fun q => k1 ⟨12, by decide, q⟩
  suffices hs12 : ¬ w = 1936292453 → _ from (by first | exact ⟨p12, hs12⟩ | exact ⟨hs12, p12⟩)
  intro q12
  refine ⟨⟨hL, by decide⟩, zcmpi _ _, ?_⟩
  rw [zcmp0]
  have p13 : w = 499967946355 → Q 1 mem := fun q => k1 ⟨13, by decide, q⟩
  suffices hs13 : ¬ w = 499967946355 → _ from (by first | exact ⟨p13, hs13⟩ | exact ⟨hs13, p13⟩)
  intro q13
  refine ⟨⟨hL, by decide⟩, zcmpi _ _, ?_⟩
  rw [zcmp0]
  have p14 : w = 108256570864755 → Q 1 mem := fun q => k1 ⟨14, by decide, q⟩
  suffices hs14 : ¬ w = 108256570864755 → _ from (by first | exact ⟨p14, hs14⟩ | exact ⟨hs14, p14⟩)
  intro q14
  refine ⟨⟨hL, by decide⟩, zcmpi _ _, ?_⟩
  rw [zcmp0]
  have p15 : w = 6845797 → Q 1 mem := fun q => k1 ⟨15, by decide, q⟩
  suffices hs15 : ¬ w = 6845797 → _ from (by first | exact ⟨p15, hs15⟩ | exact ⟨hs15, p15⟩)
  intro q15
  refine ⟨⟨hL, by decide⟩, zcmpi _ _, ?_⟩
  rw [zcmp0]
  have p16 : w = 108243466679400 → Q 1 mem := fun q => k1 ⟨16, by decide, q⟩
  suffices hs16 : ¬ w = 108243466679400 → _ from (by first | exact ⟨p16, hs16⟩ | exact ⟨hs16, p16⟩)
  intro q16
  refine ⟨⟨hL, by decide⟩, zcmpi _ _, ?_⟩
  rw [zcmp0]
  have p17 : w = 126879297138276 → Q 1 mem := fun q => k1 ⟨17, by decide, q⟩
  suffices hs17 : ¬ w = 126879297138276 → _ from (by first | exact ⟨p17, hs17⟩ | exact ⟨hs17, p17⟩)
  intro q17
  refine ⟨⟨hL, by decide⟩, zcmpi _ _, ?_⟩
  rw [zcmp0]
  have p18 : w = 431416239732 → Q 1 mem := fun q => k1 ⟨18, by decide, q⟩
  suffices hs18 : ¬ w = 431416239732 → _ from (by first | exact ⟨p18, hs18⟩ | exact ⟨hs18, p18⟩)
  intro q18
  refine ⟨⟨hL, by decide⟩, zcmpi _ _, ?_⟩
  rw [zcmp0]
  have p19 : w = 431197873267 → Q 1 mem := fun q => k1 ⟨19, by decide, q⟩
  suffices hs19 : ¬ w = 431197873267 → _ from (by first | exact ⟨p19, hs19⟩ | exact ⟨hs19, p19⟩)
  intro q19
  refine ⟨⟨hL, by decide⟩, zcmpi _ _, ?_⟩
  rw [zcmp0]
  have p20 : w = 26982 → Q 1 mem := fun q => k1 ⟨20, by decide, q⟩
  suffices hs20 : ¬ w = 26982 → _ from (by first | exact ⟨p20, hs20⟩ | exact ⟨hs20, p20⟩)
  intro q20
  refine ⟨⟨hL, by decide⟩, zcmpi _ _, ?_⟩
  rw [zcmp0]
  have p21 : w = 28530 → Q 1 mem := fun q => k1 ⟨21, by decide, q⟩
  suffices hs21 : ¬ w = 28530 → _ from (by first | exact ⟨p21, hs21⟩ | exact ⟨hs21, p21⟩)
  intro q21
  refine ⟨⟨hL, by decide⟩, zcmpi _ _, ?_⟩
  rw [zcmp0]
  have p22 : w = 6385252 → Q 1 mem := fun q => k1 ⟨22, by decide, q⟩
  suffices hs22 : ¬ w = 6385252 → _ from (by first | exact ⟨p22, hs22⟩ | exact ⟨hs22, p22⟩)
  intro q22
  refine ⟨⟨hL, by decide⟩, zcmpi _ _, ?_⟩
  rw [zcmp0]
  have p23 : w = 7237492 → Q 1 mem := fun q => k1 ⟨23, by decide, q⟩
  suffices hs23 : ¬ w = 7237492 → _ from (by first | exact ⟨p23, hs23⟩ | exact ⟨hs23, p23⟩)
  intro q23
  refine ⟨⟨hL, by decide⟩, zcmpi _ _, ?_⟩
  rw [zcmp0]
  have p24 : w = 6384748 → Q 1 mem := fun q => k1 ⟨24, by decide, q⟩
  suffices hs24 : ¬ w = 6384748 → _ from (by first | exact ⟨p24, hs24⟩ | exact ⟨hs24, p24⟩)
  intro q24
  refine ⟨⟨hL, by decide⟩, zcmpi _ _, ?_⟩
  rw [zcmp0]
  have p25 : w = 7170414 → Q 1 mem := fun q => k1 ⟨25, by decide, q⟩
  suffices hs25 : ¬ w = 7170414 → _ from (by first | exact ⟨p25, hs25⟩ | exact ⟨hs25, p25⟩)
  intro q25
  refine ⟨⟨hL, by decide⟩, zcmpi _ _, ?_⟩
  rw [zcmp0]
  have p26 : w = 7168376 → Q 1 mem := fun q => k1 ⟨26, by decide, q⟩
  have z26 : ¬ w = 7168376 → Q 0 mem := fun q26 => k0 (zo8_all q0 q1 q2 q3 q4 q5 q6 q7 q8 q9 q10 q11 q12 q13 q14 q15 q16 q17 q18 q19 q20 q21 q22 q23 q24 q25 q26)
  first | exact ⟨p26, z26⟩ | exact ⟨z26, p26⟩
theorem t_fresh {Q : Int → zF → Prop} (hR : zall rf zRK = true) (hD : 3 ≤ D) (hb : TBy tb n) (hn : 0 ≤ n ∧ n ≤ 1600) (hs : 0 ≤ s ∧ s ≤ n) (hW : WQ pl) (h : RSs m0 mem b tb n s pl L) (kk : ∀ s' v, pM tb n pl s = .inr (s', v) → ∀ mem' w, NR v w → zFA mem mem' → RTK mem' tb n s' → Q w mem') (kf : ∀ k pc, pM tb n pl s = .inl (k, pc) → ∀ w, Q w (zflt mem k pc)) : Cl X D 224 [(2, 261)] rf mem Q := by
  obtain ⟨d, rfl⟩ : ∃ d, D = d + 1 := ⟨D - 1, by omega⟩
  have hf := h.1.1.f hs
  have h8 := h.1.2.2.2
  have S83F : ∀ k pc : Int, (1 ≤ k ∧ k ≤ 6) → (∀ w, Q w (zflt mem k pc)) → L_m_fresh_83 X d rf Q (zflt mem k pc) := by
    intro k pc hk hq
    refine s_m_fresh_83 hR ?_
    rw [zflt_8]
    exact ⟨by omega, fun _ => hq _, fun q => absurd q (by omega)⟩
  have S43F : ∀ k pc x : Int, (1 ≤ k ∧ k ≤ 6) → inI x → (∀ w, Q w (zflt mem k pc)) → L_m_fresh_43 X d rf Q (zflt mem k pc) x := by
    intro k pc x hk hx hq
    refine s_m_fresh_43 hR ?_
    rw [zflt_8]
    exact ⟨hx, fun _ => S83F k pc hk hq, fun _ => ⟨by omega, fun _ => S83F k pc hk hq, fun q => absurd q (by omega)⟩⟩
  have S32 : tCod tb n s ≠ -1 → ¬ 1073741824 ≤ tCod tb n s → L_m_fresh_32 X d rf Q mem := by
    intro hc q
    refine s_m_fresh_32 hR (t_blame hR h8 ?_)
    rw [hf.1]
    refine S43F 1 s 0 (by decide) (by decide) ?_
    have := kf 1 _ (by unfold pM; rw [if_neg q])
    rw [tPlc_s hc] at this
    exact this
  refine s_m_fresh hR (t_lex hR (by omega) hb hn.2 hs h.1 (fun hc => ?_) (fun hc => ?_))
  · rw [h8]
    refine ⟨by decide, fun _ => ⟨by omega, fun q => S32 hc ?_, fun q => ?_⟩, fun q => absurd (by decide) q⟩
    · rcases h.1.1.cl hb hs hc with ⟨e, e3⟩ | ⟨hsn, e, e3, e6⟩ | ⟨_, e, e3, e6⟩ | ⟨_, e3, _⟩
      · omega
      · omega
      · omega
      · exact absurd e3 q
    · rcases h.1.1.cl hb hs hc with ⟨e, e3⟩ | ⟨hsn, e, e3, e6⟩ | ⟨_, e, e3, e6⟩ | ⟨hsn, e3, e6, ls, hl, hx, e, e7⟩
      · omega
      · omega
      · omega
      · have hzr := zn5_rng ls hx
        have hor := tOwn_rng (v := zn5 ls)
        rw [e7]
        refine t_isOwn hR (zn8_in hl.2 hx) (fun ⟨k, hk, ek⟩ => ⟨by decide, fun c => absurd c (by decide), fun _ => S32 hc ?_⟩) (fun hno => ⟨by decide, fun _ => ?_, fun c => absurd rfl c⟩)
        · have := (tWc_iff hl hx hk).mpr ek
          omega
        · -- a name
          have hown : tOwn (zn5 ls) = -1 := by
            rcases hor with x | x
            · exact x
            · exfalso
              have hk : (tOwn (zn5 ls)).toNat < 27 := by omega
              refine hno _ hk ((tWc_iff hl hx hk).mp ?_)
              unfold tWc
              rw [if_neg (by omega)]
              omega
          have ec : tCod tb n s = 1073741824 + zn5 ls := by
            rw [e]
            unfold tWc
            rw [if_pos hown]
          have ev : tCod tb n s - 1073741824 = zn5 ls := by omega
          have hNR : NR (zn5 ls) (zn8 0 ls) := ⟨ls, hl.1, hl.2, hx, rfl, rfl⟩
          have bad : ¬ (zfn pl 0 (zn5 ls) = -1 ∧ zfn pl 1 (zn5 ls) = -1 ∧ zfn pl 2 (zn5 ls) = -1) → ∀ x : Int, inI x → Cv X d 198 [(2, 261), (0, 2), (0, mem 261 4)] rf mem (fun m2 => L_m_fresh_43 X d rf Q m2 x) := by
            intro q x hx
            refine t_blame hR h8 ?_
            rw [hf.1]
            refine S43F 2 s x (by decide) hx ?_
            have := kf 2 _ (by unfold pM; rw [if_pos (by omega), ev, if_neg q])
            rw [tPlc_s hc] at this
            exact this
          have i0 := zfn_I hW (so := 0) (v := zn5 ls) (by decide)
          have i1 := zfn_I hW (so := 1) (v := zn5 ls) (by decide)
          have i2 := zfn_I hW (so := 2) (v := zn5 ls) (by decide)
          have c0 := hW.cnt (so := 0) (by decide)
          have c1 := hW.cnt (so := 1) (by decide)
          have c2 := hW.cnt (so := 2) (by decide)
          refine s_m_fresh_43 hR ?_
          rw [h8, e7]
          refine ⟨by decide, fun c => absurd c (by decide), fun _ => ⟨by decide, fun c => absurd rfl c, fun _ => h.named hR hW (by omega) (by decide) hNR ⟨by omega, fun q0 => ?_, fun q => bad (fun c => q c.1) 1 (by decide)⟩⟩⟩
          show L_m_fresh_43 X d rf Q mem 1
          refine s_m_fresh_43 hR ?_
          rw [h8, e7]
          refine ⟨by decide, fun c => absurd c (by decide), fun _ => ⟨by decide, fun c => absurd rfl c, fun _ => h.named hR hW (by omega) (by decide) hNR ⟨by omega, fun q1 => ?_, fun q => bad (fun c => q c.2.1) 2 (by decide)⟩⟩⟩
          show L_m_fresh_43 X d rf Q mem 2
          refine s_m_fresh_43 hR ?_
          rw [h8, e7]
          refine ⟨by decide, fun c => absurd c (by decide), fun _ => ⟨by decide, fun c => absurd rfl c, fun _ => h.named hR hW (by omega) (by decide) hNR ⟨by omega, fun q2 => ?_, fun q => bad (fun c => q c.2.2) 3 (by decide)⟩⟩⟩
          show L_m_fresh_43 X d rf Q mem 3
          refine s_m_fresh_43 hR ⟨by decide, fun _ => ?_, fun c => absurd (by decide) c⟩
          refine s_m_fresh_83 hR ?_
          rw [h8, e7]
          refine ⟨by decide, fun c => absurd rfl c, fun _ => t_ahd hR (by omega) hb hn hs h.1 (fun m2 f2 h2 => kk _ (zn5 ls) ?_ m2 _ hNR f2 h2)⟩
          unfold pM
          rw [if_pos (by omega), ev, if_pos ⟨q0, q1, q2⟩]
  · rw [zflt_8]
    exact ⟨by decide, fun q => absurd q (by decide), fun _ => kf 1 _ (by unfold pM; rw [if_neg (by omega)]) 0⟩
theorem t_freshF {Q : Int → zF → Prop} {k : Int} (hR : zall rf zRK = true) (hD : 2 ≤ D) (h8 : mem 261 8 = k) (hk : 1 ≤ k ∧ k ≤ 6) (h12 : inI (mem 261 12)) (kk : Q 0 mem) : Cl X D 224 [(2, 261)] rf mem Q := by
  obtain ⟨d, rfl⟩ : ∃ d, D = d + 1 := ⟨D - 1, by omega⟩
  refine s_m_fresh hR (t_lexF hR (by omega) h8 hk h12 ?_)
  rw [h8]
  exact ⟨by omega, fun q => absurd q (by omega), fun _ => kk⟩
theorem t_cellTold {Q : Int → zF → Prop} (hR : zall rf zRK = true) (hD : 3 ≤ D) (hb : TBy tb n) (hn : 0 ≤ n ∧ n ≤ 1600) (hs : 0 ≤ s ∧ s ≤ n) (hW : WQ pl) (h : RSs m0 mem b tb n s pl L) (kk : ∀ s' v, pC tb n pl s = .inr (s', v) → ∀ mem', zFA mem mem' → RTK mem' tb n s' → Q v mem') (kf : ∀ k pc, pC tb n pl s = .inl (k, pc) → ∀ v mem', RSF m0 mem' b k pc → Q v mem') : Ci X D 225 [(2, 261)] rf mem Q := by
  obtain ⟨d, rfl⟩ : ∃ d, D = d + 1 := ⟨D - 1, by omega⟩
  have hcr := hW.1.cr
  have h38 := h.2.2.1
  have e263 : mem 263 b.toNat = pl 0 1 := h.2.2.2.2.1.1
  have ok1 := pN_ok (tb := tb) (lo := 0) (hi := pl 0 1 - 1) hb hn.2 hs
  refine s_m_cellTold hR ?_
  rw [h38.1, e263]
  refine ⟨by omega, t_number hR (by omega) hb hn hs h.1 (by decide) (by omega) (fun s1 x e1 m2 f2 h2 => ?_) (fun k pc e1 v => ?_)⟩
  · have g2 := h.fa f2 h2
    rw [e1] at ok1
    have ok1 : s < s1 ∧ s1 ≤ n := ok1
    have hs1 : 0 ≤ s1 ∧ s1 ≤ n := by omega
    have e264 : m2 264 b.toNat = pl 0 2 := g2.2.2.2.2.1.2
    rw [g2.2.2.1.1, e264]
    refine ⟨by omega, t_number hR (by omega) hb hn hs1 g2.1 (by decide) (by omega) (fun s2 y e2 m3 f3 h3 => kk _ _ ?_ m3 (f2.trans f3) h3) (fun k pc e2 v => kf k pc ?_ _ _ (g2.flt hs1 hn.2))⟩
    · unfold pC
      rw [e1]
      show pB (pN tb n 0 (pl 0 2 - 1) s1) _ = _
      rw [e2]
      rfl
    · unfold pC
      rw [e1]
      show pB (pN tb n 0 (pl 0 2 - 1) s1) _ = _
      rw [e2]
      rfl
  · have g2 := h.flt (k := k) (pc := pc) hs hn.2
    have hk : 1 ≤ k ∧ k ≤ 6 := by rw [e1] at ok1; exact ok1.1
    rw [g2.2.2.2.2.1]
    refine ⟨by omega, t_numberF hR (by omega) g2.2.1 hk g2.2.2.2.1 (kf k pc ?_ _ _ g2)⟩
    unfold pC
    rw [e1]
    rfl
theorem t_cellToldF {Q : Int → zF → Prop} {k pc : Int} (hR : zall rf zRK = true) (hD : 3 ≤ D) (h : RSF m0 mem b k pc) (hk : 1 ≤ k ∧ k ≤ 6) (kk : ∀ v, Q v mem) : Ci X D 225 [(2, 261)] rf mem Q := by
  obtain ⟨d, rfl⟩ : ∃ d, D = d + 1 := ⟨D - 1, by omega⟩
  have h38 := h.2.2.2.2
  refine s_m_cellTold hR ?_
  rw [h38.1]
  refine ⟨by omega, t_numberF hR (by omega) h.2.1 hk h.2.2.2.1 ?_⟩
  rw [h38.1]
  exact ⟨by omega, t_numberF hR (by omega) h.2.1 hk h.2.2.2.1 (kk _)⟩
theorem t_freeCell {Q : Int → zF → Prop} (hR : zall rf zRK = true) (hD : 3 ≤ D) (hb : TBy tb n) (hn : 0 ≤ n ∧ n ≤ 1600) (hs : 0 ≤ s ∧ s ≤ n) (hW : WQ pl) (h : RSs m0 mem b tb n s pl L) {so : Int} (hso : so = 1 ∨ so = 2) (kk : ∀ s' v, pF tb n pl so s = .inr (s', v) → ∀ mem', zFA mem mem' → RTK mem' tb n s' → Q v mem') (kf : ∀ k pc, pF tb n pl so s = .inl (k, pc) → ∀ v mem', RSF m0 mem' b k pc → Q v mem') : Ci X D 227 [(2, 261), (0, so)] rf mem Q := by
  obtain ⟨d, rfl⟩ : ∃ d, D = d + 1 := ⟨D - 1, by omega⟩
  have hcr := hW.1.cr
  have h38 := h.2.2.1
  have e263 : mem 263 b.toNat = pl 0 1 := h.2.2.2.2.1.1
  have ok1 := pN_ok (tb := tb) (lo := 0) (hi := pl 0 1 - 1) hb hn.2 hs
  have S72 : ∀ (m : zF) (x y k pc : Int), (1 ≤ k ∧ k ≤ 6) → RSF m0 m b k pc → (∀ v, Q v m) → L_m_freeCell_72 X d rf Q m x y := by
    intro m x y k pc hk hF hq
    refine s_m_freeCell_72 hR ?_
    rw [hF.2.1]
    exact ⟨by omega, fun q => absurd q (by omega), fun _ => hq 0⟩
  refine s_m_freeCell hR ?_
  rw [h38.1, e263]
  refine ⟨by omega, t_number hR (by omega) hb hn hs h.1 (by decide) (by omega) (fun s1 x e1 m2 f2 h2 => ?_) (fun k pc e1 v => ?_)⟩
  · have g2 := h.fa f2 h2
    rw [e1] at ok1
    have r1 := pN_inr e1
    have ok1 : s < s1 ∧ s1 ≤ n := ok1
    have hs1 : 0 ≤ s1 ∧ s1 ≤ n := by omega
    have e264 : m2 264 b.toNat = pl 0 2 := g2.2.2.2.2.1.2
    have ok2 := pN_ok (tb := tb) (lo := 0) (hi := pl 0 2 - 1) hb hn.2 hs1
    have g4 := g2.1.1.f hs1
    refine t_lex hR (by omega) hb hn.2 hs1 g2.1 (fun hc => ?_) (fun hc => ?_)
    · rw [g2.2.2.1.1, e264]
      refine ⟨by omega, t_number hR (by omega) hb hn hs1 g2.1 (by decide) (by omega) (fun s2 y e2 m3 f3 h3 => ?_) (fun k pc e2 v => ?_)⟩
      · have g3 := g2.fa f3 h3
        have r2 := pN_inr e2
        rw [e2] at ok2
        have ok2 : s1 < s2 ∧ s2 ≤ n := ok2
        rw [g3.1.2.2.2]
        refine ⟨by decide, fun q => absurd rfl q, fun _ => g3.taken hR hW (by omega) hso (by omega) (fun q => ⟨by decide, fun c => absurd c (by decide), fun _ => ?_⟩) (fun q => ⟨by decide, fun _ => ?_, fun c => absurd rfl c⟩)⟩
        · refine t_blame hR g3.1.2.2.2 ?_
          rw [g4.1]
          have hF := g3.flt (k := 4) (pc := s1) (by omega) hn.2
          refine S72 _ x y 4 s1 (by decide) hF (fun v => kf 4 s1 ?_ v _ hF)
          unfold pF
          rw [e1]
          show pB (pN tb n 0 (pl 0 2 - 1) s1) _ = _
          rw [e2]
          show (if ztk pl so (8 * y + x) = -1 then _ else _) = _
          rw [if_neg q, tPlc_s hc]
        · refine s_m_freeCell_72 hR ?_
          rw [g3.1.2.2.2]
          refine ⟨by decide, fun _ => kk _ _ ?_ m3 (f2.trans f3) h3, fun c => absurd (by decide) c⟩
          unfold pF
          rw [e1]
          show pB (pN tb n 0 (pl 0 2 - 1) s1) _ = _
          rw [e2]
          show (if ztk pl so (8 * y + x) = -1 then _ else _) = _
          rw [if_pos q]
      · have hF := g2.flt (k := k) (pc := pc) hs1 hn.2
        have hk : 1 ≤ k ∧ k ≤ 6 := by rw [e2] at ok2; exact ok2.1
        rw [hF.2.1]
        refine ⟨by omega, fun _ => S72 _ _ _ k pc hk hF (fun v => kf k pc ?_ v _ hF), fun q => absurd q (by omega)⟩
        unfold pF
        rw [e1]
        show pB (pN tb n 0 (pl 0 2 - 1) s1) _ = _
        rw [e2]
        rfl
    · have hF := g2.flt (k := 1) (pc := tPlc tb n s1) hs1 hn.2
      rw [hF.2.2.2.2.1]
      refine ⟨by omega, t_numberF hR (by omega) hF.2.1 (by decide) hF.2.2.2.1 ?_⟩
      rw [hF.2.1]
      refine ⟨by decide, fun _ => S72 _ _ _ 1 _ (by decide) hF (fun v => kf 1 _ ?_ v _ hF), fun q => absurd q (by decide)⟩
      unfold pF
      rw [e1]
      show pB (pN tb n 0 (pl 0 2 - 1) s1) _ = _
      have e2 : pN tb n 0 (pl 0 2 - 1) s1 = .inl (1, tPlc tb n s1) := by unfold pN; rw [if_neg (by omega)]
      rw [e2]
      rfl
  · have hF := h.flt (k := k) (pc := pc) hs hn.2
    have hk : 1 ≤ k ∧ k ≤ 6 := by rw [e1] at ok1; exact ok1.1
    refine t_lexF hR (by omega) hF.2.1 hk hF.2.2.2.1 ?_
    rw [hF.2.2.2.2.1]
    refine ⟨by omega, t_numberF hR (by omega) hF.2.1 hk hF.2.2.2.1 ?_⟩
    rw [hF.2.1]
    refine ⟨by omega, fun _ => S72 _ _ _ k pc hk hF (fun v => kf k pc ?_ v _ hF), fun q => absurd q (by omega)⟩
    unfold pF
    rw [e1]
    rfl
theorem t_freeCellF {Q : Int → zF → Prop} {k pc so : Int} (hR : zall rf zRK = true) (hD : 3 ≤ D) (h : RSF m0 mem b k pc) (hk : 1 ≤ k ∧ k ≤ 6) (kk : ∀ v, Q v mem) : Ci X D 227 [(2, 261), (0, so)] rf mem Q := by
  obtain ⟨d, rfl⟩ : ∃ d, D = d + 1 := ⟨D - 1, by omega⟩
  have h38 := h.2.2.2.2
  refine s_m_freeCell hR ?_
  rw [h38.1]
  refine ⟨by omega, t_numberF hR (by omega) h.2.1 hk h.2.2.2.1 (t_lexF hR (by omega) h.2.1 hk h.2.2.2.1 ?_)⟩
  rw [h38.1]
  refine ⟨by omega, t_numberF hR (by omega) h.2.1 hk h.2.2.2.1 ?_⟩
  rw [h.2.1]
  refine ⟨by omega, fun _ => ?_, fun q => absurd q (by omega)⟩
  refine s_m_freeCell_72 hR ?_
  rw [h.2.1]
  exact ⟨by omega, fun q => absurd q (by omega), fun _ => kk 0⟩
end RNAME
