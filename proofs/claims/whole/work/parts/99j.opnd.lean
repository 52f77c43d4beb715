/-! the reference: an operand -/
section OPND
variable {X : zX} {rf m0 mem : zF} {tb : Nat → Int} {n b r s o : Int} {E : zC} {W A B : List Int} {f : Nat} {fr : zF}
theorem zflt_8 {mem : zF} {k pc : Int} : zflt mem k pc 261 8 = k := by unfold zflt; rw [zup_ne _ _ _ _ (by decide), zup_at]
/-- a bracket opens -/
theorem RE.opens {D : Nat} {Q : zF → Prop} {q : Int} (hR : zall rf zRK = true) (hb : TBy tb n) (hn : 0 ≤ n ∧ n ≤ 1600) (hD : 2 ≤ D) (h : RE m0 mem tb n b r s E W f o fr q) (hs : 0 ≤ s ∧ s ≤ n) (hf : f ≤ 15) (ho : 0 ≤ o ∧ o ≤ 7) {kd : Int} (k5 : o = 7 → Q (zflt mem 5 s)) (kk : o < 7 → ∀ mem' fr', RE m0 mem' tb n b r (tNxt tb n s) E W (f + 1) (o + 1) fr' q → (∀ sl g, g ≤ f → fr' sl g = fr sl g) → fr' 0 (f + 1) = kd → fr' 1 (f + 1) = 0 → fr' 2 (f + 1) = 1 → fr' 4 (f + 1) = (W.length : Int) → Q mem') : Cv X D 216 [(2, 261), (0, kd)] rf mem Q := by
  obtain ⟨d, rfl⟩ : ∃ e, D = e + 1 := ⟨D - 1, by omega⟩
  have e8 : mem 261 8 = 0 := h.1.2.2.2
  have e46 : mem 261 46 = o := h.2.2.2.2.2.1.2.1
  have h4 := h.1.1.f hs
  refine s_m_opens hR ?_
  rw [e46]
  refine ⟨by omega, fun q1 => ?_, fun q1 => ?_⟩
  · refine s_m_opens_18 hR ?_
    rw [e8, e46]
    exact ⟨by decide, fun _ => h.oo.ahd hR (by omega) hb hn hs (fun m2 h2 => h2.push hR hf (fun m3 fr3 h3 => kk (by omega) m3 fr3 h3)), fun q2 => absurd (by decide) q2⟩
  · refine t_blame hR e8 ?_
    rw [h4.1]
    refine s_m_opens_18 hR ?_
    rw [zflt_8]
    exact ⟨by decide, fun q2 => absurd q2 (by decide), fun _ => k5 q1⟩
/-- the beginning of an operand of a SUM -/
theorem o_pre {d : Nat} {Q : Int → zF → Prop} (hR : zall rf zRK = true) (hb : TBy tb n) (hn : 0 ≤ n ∧ n ≤ 1600) (hd : 4 ≤ d) (h : RE m0 mem tb n b r s E W f o fr 0) (hs : 0 ≤ s ∧ s ≤ n) (hf : f ≤ 15) (hk : 0 ≤ fr 0 f ∧ fr 0 f ≤ 6) (hc : tCod tb n s ≠ -1) (hS : cS tb n s fr f) (kk : ∀ mem', RE m0 mem' tb n b r s E W f o (zup fr 2 f 0) 0 → L_m_operand_171 X d rf Q mem') : Ci X (d + 1) 218 [(2, 261)] rf mem Q := by
  have hg := h.2.2.2.2.2.2 f (Nat.le_refl _)
  have ef : ((f : Int) + 1 - 1).toNat = f := by omega
  have ef1 : (f : Int) + 1 - 1 = (f : Int) := by omega
  have ef2 : ((f : Int)).toNat = f := by omega
  refine s_m_operand hR (t_lex hR (by omega) hb hn.2 hs h.1 (fun _ => ?_) (fun q => absurd q hc))
  have e8 : mem 261 8 = 0 := h.1.2.2.2
  have e45 := h.2.2.2.2.2.1.1
  rw [e8, e45, ef, hg.1, ef1]
  have hm := h.frame (sl := 2) (v := 0) (by decide)
  have S0 : L_m_operand_46 X d rf Q mem (f : Int) 0 := by
    refine s_m_operand_46 hR ⟨by decide, fun _ => ?_, fun q => absurd rfl q⟩
    refine s_m_operand_110 hR ⟨by omega, by decide, fun _ => ?_, fun q => absurd rfl q⟩
    rw [ef2]
    exact s_m_operand_137 hR ⟨by decide, fun _ => kk _ hm, fun q => absurd rfl q⟩
  refine ⟨by decide, fun _ => ⟨by omega, ?_⟩, fun q => absurd (by decide) q⟩
  refine t_isTest hR hk (fun hz1 => ⟨by decide, fun q => absurd q (by decide), fun _ => ⟨by omega, ?_⟩⟩) (fun hz0 => ⟨by decide, fun _ => S0, fun q => absurd rfl q⟩)
  rw [hg.2.2.1]
  refine ⟨hS.2.1, fun _ => S0, fun q2 => ?_⟩
  rcases hS.2.2 with x | x | x
  · exact absurd hz1 x
  · exact absurd x q2
  · refine s_m_operand_46 hR ⟨by decide, fun q => absurd q (by decide), fun _ => ?_⟩
    refine t_isWord 23 hR hb hs h.1 hc (by decide) rfl (fun e => absurd e x.1) (fun _ => ⟨by decide, fun _ => ?_, fun q => absurd rfl q⟩)
    refine s_m_operand_110 hR ⟨by omega, by decide, fun q => absurd q (by decide), fun _ => ?_⟩
    rw [ef2]
    refine t_isSign hR hb hs hm.1 hc (by decide) (fun e => absurd e x.2.1) (fun _ => ⟨by decide, fun _ => ?_, fun q => absurd rfl q⟩)
    refine s_m_operand_137 hR ⟨by decide, fun q => absurd q (by decide), fun _ => ?_⟩
    exact t_isWord 24 hR hb hs hm.1 hc (by decide) rfl (fun e => absurd e x.2.2) (fun _ => ⟨by decide, fun _ => kk _ hm, fun q => absurd rfl q⟩)
def qsort (c r : Int) : Int := if c = 20011 then 1 else if c = 20012 then 2 else if c = 20017 then 3 else if c = 20018 ∧ r = 0 then 4 else if c = 20009 ∧ r = 1 then 5 else if c = 20019 ∧ r = 2 then 6 else 0
/-- a number, a quality, or what may not stand here -/
theorem o_val {d : Nat} {Q : zF → Prop} (hR : zall rf zRK = true) (hb : TBy tb n) (hn : 0 ≤ n ∧ n ≤ 1600) (hd : 4 ≤ d) (h : RE m0 mem tb n b r s E W f o fr 0) (hs : 0 ≤ s ∧ s ≤ n) (hr : 0 ≤ r ∧ r ≤ 2) (hc : tCod tb n s ≠ -1) (h1 : tCod tb n s ≠ 10040) (h2 : tCod tb n s ≠ 20025) (h3 : tCod tb n s ≠ 20026) (h5 : tCod tb n s ≠ 20020) (hl : s < n → E.length < 1600) (kf : ¬ (0 ≤ tCod tb n s ∧ tCod tb n s < 10000) → qsort (tCod tb n s) r = 0 → Q (zup (zflt mem 1 s) 261 49 1)) (kn : (0 ≤ tCod tb n s ∧ tCod tb n s < 10000) → ∀ mem', RE m0 mem' tb n b r (tNxt tb n s) (E ++ [(0, tCod tb n s)]) W f o fr 1 → L_m_reads_43 X (d + 1) rf Q mem' 1) (kq : qsort (tCod tb n s) r ≠ 0 → ∀ mem', RE m0 mem' tb n b r (tNxt tb n s) (E ++ [(qsort (tCod tb n s) r, 0)]) W f o fr 1 → L_m_reads_43 X (d + 1) rf Q mem' 1) : L_m_operand_171 X d rf (fun r m => (r = 0 ∨ r = 1) ∧ ((1 ≤ m 261 8 ∧ m 261 8 ≤ 6 ∧ Q (zup m 261 49 r)) ∨ (m 261 8 = 0 ∧ L_m_reads_43 X (d + 1) rf Q (zup m 261 49 r) 1))) mem := by
  have e8 : mem 261 8 = 0 := h.1.2.2.2
  have e39 : mem 261 39 = r := h.2.2.1.2.1
  have h4 := h.1.1.f hs
  refine s_m_operand_171 hR (t_isSign hR hb hs h.1 hc (by decide) (fun e => absurd e h1) (fun _ => ⟨by decide, fun _ => ?_, fun q => absurd rfl q⟩))
  refine t_isWord 25 hR hb hs h.1 hc (by decide) rfl (fun e => absurd e h2) (fun _ => ⟨by decide, fun q => absurd rfl q, fun _ => ?_⟩)
  refine t_isWord 26 hR hb hs h.1 hc (by decide) rfl (fun e => absurd e h3) (fun _ => ⟨by decide, fun q => absurd rfl q, fun _ => ?_⟩)
  refine t_isWord 20 hR hb hs h.1 hc (by decide) rfl (fun e => absurd e h5) (fun _ => ⟨by decide, fun _ => ?_, fun q => absurd rfl q⟩)
  -- a value is written
  have val : s < n → ∀ (so v : Int), (0 ≤ so ∧ so ≤ 6) → mem 261 6 = v → (∀ mem', RE m0 mem' tb n b r (tNxt tb n s) (E ++ [(so, v)]) W f o fr 1 → L_m_reads_43 X (d + 1) rf Q mem' 1) → L_m_operand_445 X d rf (fun r m => (r = 0 ∨ r = 1) ∧ ((1 ≤ m 261 8 ∧ m 261 8 ≤ 6 ∧ Q (zup m 261 49 r)) ∨ (m 261 8 = 0 ∧ L_m_reads_43 X (d + 1) rf Q (zup m 261 49 r) 1))) mem so := by
    intro hsn0 so v hso ev kv
    refine s_m_operand_445 hR ⟨by omega, fun _ => ?_, fun q => absurd q (by omega)⟩
    refine s_m_operand_459 hR ?_
    rw [e8, ev]
    refine ⟨by decide, fun _ => h.add hR (hl hsn0) (fun m2 g2 => g2.ahd hR (by omega) hb hn hs (fun m3 g3 => ⟨Or.inr rfl, Or.inr ⟨g3.1.2.2.2, kv _ g3.qq⟩⟩)), fun q => absurd (by decide) q⟩
  have non : ¬ (0 ≤ tCod tb n s ∧ tCod tb n s < 10000) → qsort (tCod tb n s) r = 0 → L_m_operand_445 X d rf (fun r m => (r = 0 ∨ r = 1) ∧ ((1 ≤ m 261 8 ∧ m 261 8 ≤ 6 ∧ Q (zup m 261 49 r)) ∨ (m 261 8 = 0 ∧ L_m_reads_43 X (d + 1) rf Q (zup m 261 49 r) 1))) mem (-1) := by
    intro q1 q2
    refine s_m_operand_445 hR ⟨by decide, fun q => absurd rfl q, fun _ => t_blame hR e8 ?_⟩
    rw [h4.1]
    refine s_m_operand_459 hR ?_
    rw [zflt_8]
    refine ⟨by decide, fun q => absurd q (by decide), fun _ => ⟨Or.inr rfl, Or.inl ?_⟩⟩
    exact ⟨by decide, by decide, kf q1 q2⟩
  rcases h.1.1.cl hb hs hc with ⟨e, e3⟩ | ⟨hsn, e, e3, e6⟩ | ⟨_, e, e3, e6⟩ | ⟨hsn, e3, e6, ls, hlen, hx, e, e7⟩
  · rw [e3]
    refine ⟨by decide, fun _ => ?_, fun q => absurd q (by decide)⟩
    refine t_isWord 11 hR hb hs h.1 hc (by decide) rfl (fun c => absurd c (by omega)) (fun _ => ⟨by decide, fun _ => ?_, fun q => absurd rfl q⟩)
    refine t_isWord 12 hR hb hs h.1 hc (by decide) rfl (fun c => absurd c (by omega)) (fun _ => ⟨by decide, fun _ => ?_, fun q => absurd rfl q⟩)
    refine t_isWord 17 hR hb hs h.1 hc (by decide) rfl (fun c => absurd c (by omega)) (fun _ => ⟨by decide, fun _ => ?_, fun q => absurd rfl q⟩)
    refine t_isWord 18 hR hb hs h.1 hc (by decide) rfl (fun c => absurd c (by omega)) (fun _ => ⟨by decide, fun _ => ?_, fun q => absurd rfl q⟩)
    refine t_isWord 9 hR hb hs h.1 hc (by decide) rfl (fun c => absurd c (by omega)) (fun _ => ⟨by decide, fun _ => ?_, fun q => absurd rfl q⟩)
    refine t_isWord 19 hR hb hs h.1 hc (by decide) rfl (fun c => absurd c (by omega)) (fun _ => ⟨by decide, fun _ => ?_, fun q => absurd rfl q⟩)
    refine s_m_operand_411 hR ⟨by decide, fun _ => non (by omega) ?_, fun q => absurd (by decide) q⟩
    unfold qsort
    rw [if_neg (by omega), if_neg (by omega), if_neg (by omega), if_neg (by omega), if_neg (by omega), if_neg (by omega)]
  · rw [e3]
    refine ⟨by decide, fun q => absurd rfl q, fun _ => ?_⟩
    exact s_m_operand_411 hR ⟨by decide, fun _ => val hsn 0 _ (by decide) e6 (kn e), fun q => absurd (by decide) q⟩
  · rw [e3]
    refine ⟨by decide, fun _ => ?_, fun q => absurd q (by decide)⟩
    refine t_isWord 11 hR hb hs h.1 hc (by decide) rfl (fun c => absurd c (by omega)) (fun _ => ⟨by decide, fun _ => ?_, fun q => absurd rfl q⟩)
    refine t_isWord 12 hR hb hs h.1 hc (by decide) rfl (fun c => absurd c (by omega)) (fun _ => ⟨by decide, fun _ => ?_, fun q => absurd rfl q⟩)
    refine t_isWord 17 hR hb hs h.1 hc (by decide) rfl (fun c => absurd c (by omega)) (fun _ => ⟨by decide, fun _ => ?_, fun q => absurd rfl q⟩)
    refine t_isWord 18 hR hb hs h.1 hc (by decide) rfl (fun c => absurd c (by omega)) (fun _ => ⟨by decide, fun _ => ?_, fun q => absurd rfl q⟩)
    refine t_isWord 9 hR hb hs h.1 hc (by decide) rfl (fun c => absurd c (by omega)) (fun _ => ⟨by decide, fun _ => ?_, fun q => absurd rfl q⟩)
    refine t_isWord 19 hR hb hs h.1 hc (by decide) rfl (fun c => absurd c (by omega)) (fun _ => ⟨by decide, fun _ => ?_, fun q => absurd rfl q⟩)
    refine s_m_operand_411 hR ⟨by decide, fun _ => non (by omega) ?_, fun q => absurd (by decide) q⟩
    unfold qsort
    rw [if_neg (by omega), if_neg (by omega), if_neg (by omega), if_neg (by omega), if_neg (by omega), if_neg (by omega)]
  · have nn : ¬ (0 ≤ tCod tb n s ∧ tCod tb n s < 10000) := by
      have hz := zn5_rng ls hx
      rw [e]
      unfold tWc
      have := tOwn_rng (v := zn5 ls)
      split <;> omega
    rw [e3]
    refine ⟨by decide, fun _ => ?_, fun q => absurd q (by decide)⟩
    refine t_isWord 11 hR hb hs h.1 hc (by decide) rfl (fun c => ⟨by decide, fun q => absurd q (by decide), fun _ => ?_⟩) (fun c1 => ⟨by decide, fun _ => ?_, fun q => absurd rfl q⟩)
    · have eq1 : qsort (tCod tb n s) r = 1 := by unfold qsort; rw [if_pos (by omega)]
      refine s_m_operand_411 hR ⟨by decide, fun _ => val hsn 1 0 (by decide) e6 ?_, fun q => absurd (by decide) q⟩
      have := kq (by rw [eq1]; decide)
      rw [eq1] at this; exact this
    refine t_isWord 12 hR hb hs h.1 hc (by decide) rfl (fun c => ⟨by decide, fun q => absurd q (by decide), fun _ => ?_⟩) (fun c2 => ⟨by decide, fun _ => ?_, fun q => absurd rfl q⟩)
    · have eq1 : qsort (tCod tb n s) r = 2 := by unfold qsort; rw [if_neg (by omega), if_pos (by omega)]
      refine s_m_operand_411 hR ⟨by decide, fun _ => val hsn 2 0 (by decide) e6 ?_, fun q => absurd (by decide) q⟩
      have := kq (by rw [eq1]; decide)
      rw [eq1] at this; exact this
    refine t_isWord 17 hR hb hs h.1 hc (by decide) rfl (fun c => ⟨by decide, fun q => absurd q (by decide), fun _ => ?_⟩) (fun c3 => ⟨by decide, fun _ => ?_, fun q => absurd rfl q⟩)
    · have eq1 : qsort (tCod tb n s) r = 3 := by unfold qsort; rw [if_neg (by omega), if_neg (by omega), if_pos (by omega)]
      refine s_m_operand_411 hR ⟨by decide, fun _ => val hsn 3 0 (by decide) e6 ?_, fun q => absurd (by decide) q⟩
      have := kq (by rw [eq1]; decide)
      rw [eq1] at this; exact this
    refine t_isWord 18 hR hb hs h.1 hc (by decide) rfl (fun c => ⟨by decide, fun q => absurd q (by decide), fun _ => ?_⟩) (fun c4 => ⟨by decide, fun _ => ?_, fun q => absurd rfl q⟩)
    · refine s_m_operand_411 hR ⟨by decide, fun q => absurd q (by decide), fun _ => ⟨by decide, fun q => absurd rfl q, fun _ => ?_⟩⟩
      rw [e39]
      refine ⟨by omega, fun q => ?_, fun q => non nn ?_⟩
      · have eq1 : qsort (tCod tb n s) r = 4 := by unfold qsort; rw [if_neg (by omega), if_neg (by omega), if_neg (by omega), if_pos (by omega)]
        refine val hsn 4 0 (by decide) e6 ?_
        have := kq (by rw [eq1]; decide)
        rw [eq1] at this; exact this
      · unfold qsort
        rw [if_neg (by omega), if_neg (by omega), if_neg (by omega), if_neg (by omega), if_neg (by omega), if_neg (by omega)]
    refine t_isWord 9 hR hb hs h.1 hc (by decide) rfl (fun c => ⟨by decide, fun q => absurd q (by decide), fun _ => ?_⟩) (fun c5 => ⟨by decide, fun _ => ?_, fun q => absurd rfl q⟩)
    · refine s_m_operand_411 hR ⟨by decide, fun q => absurd q (by decide), fun _ => ⟨by decide, fun _ => ⟨by decide, fun q => absurd rfl q, fun _ => ?_⟩, fun q => absurd q (by decide)⟩⟩
      rw [e39]
      refine ⟨by omega, fun q => ?_, fun q => non nn ?_⟩
      · have eq1 : qsort (tCod tb n s) r = 5 := by unfold qsort; rw [if_neg (by omega), if_neg (by omega), if_neg (by omega), if_neg (by omega), if_pos (by omega)]
        refine val hsn 5 0 (by decide) e6 ?_
        have := kq (by rw [eq1]; decide)
        rw [eq1] at this; exact this
      · unfold qsort
        rw [if_neg (by omega), if_neg (by omega), if_neg (by omega), if_neg (by omega), if_neg (by omega), if_neg (by omega)]
    refine t_isWord 19 hR hb hs h.1 hc (by decide) rfl (fun c => ⟨by decide, fun q => absurd q (by decide), fun _ => ?_⟩) (fun c6 => ⟨by decide, fun _ => ?_, fun q => absurd rfl q⟩)
    · refine s_m_operand_411 hR ⟨by decide, fun q => absurd q (by decide), fun _ => ⟨by decide, fun _ => ⟨by decide, fun _ => ?_, fun q => absurd q (by decide)⟩, fun q => absurd q (by decide)⟩⟩
      rw [e39]
      refine ⟨by omega, fun q => ?_, fun q => non nn ?_⟩
      · have eq1 : qsort (tCod tb n s) r = 6 := by unfold qsort; rw [if_neg (by omega), if_neg (by omega), if_neg (by omega), if_neg (by omega), if_neg (by omega), if_pos (by omega)]
        refine val hsn 6 0 (by decide) e6 ?_
        have := kq (by rw [eq1]; decide)
        rw [eq1] at this; exact this
      · unfold qsort
        rw [if_neg (by omega), if_neg (by omega), if_neg (by omega), if_neg (by omega), if_neg (by omega), if_neg (by omega)]
    refine s_m_operand_411 hR ⟨by decide, fun _ => non nn ?_, fun q => absurd (by decide) q⟩
    unfold qsort
    rw [if_neg (by omega), if_neg (by omega), if_neg (by omega), if_neg (by omega), if_neg (by omega), if_neg (by omega)]
/-- min max if: the bracket behind the word -/
theorem o_pair {d : Nat} {Q : zF → Prop} (hR : zall rf zRK = true) (hb : TBy tb n) (hn : 0 ≤ n ∧ n ≤ 1600) (hd : 4 ≤ d) (h : RE m0 mem tb n b r s E W f o fr 0) (hs : 0 ≤ s ∧ s < n) (hf : f ≤ 14) (ho : 0 ≤ o ∧ o ≤ 7) {w kd : Int} (hw : (tCod tb n s = 20025 ∧ w = 36 ∧ kd = 3) ∨ (tCod tb n s = 20026 ∧ w = 37 ∧ kd = 3) ∨ (tCod tb n s = 20020 ∧ w = 44 ∧ kd = 6)) (kf : tCod tb n (tNxt tb n s) ≠ 10040 → ∀ mem', REF m0 mem' b 1 (tPlc tb n (tNxt tb n s)) → Q mem') (k5 : tCod tb n (tNxt tb n s) = 10040 → o = 7 → ∀ mem', REF m0 mem' b 5 (tPlc tb n (tNxt tb n s)) → Q mem') (kk : tCod tb n (tNxt tb n s) = 10040 → o < 7 → ∀ mem' fr', RE m0 mem' tb n b r (tNxt tb n (tNxt tb n s)) E W (f + 1) (o + 1) fr' 0 → (∀ sl g, g ≤ f → fr' sl g = fr sl g) → fr' 0 (f + 1) = kd → fr' 1 (f + 1) = 0 → fr' 2 (f + 1) = 1 → fr' 3 (f + 1) = w → fr' 4 (f + 1) = (W.length : Int) → L_m_reads_43 X (d + 1) rf Q mem' 1) : L_m_operand_171 X d rf (fun r m => (r = 0 ∨ r = 1) ∧ ((1 ≤ m 261 8 ∧ m 261 8 ≤ 6 ∧ Q (zup m 261 49 r)) ∨ (m 261 8 = 0 ∧ L_m_reads_43 X (d + 1) rf Q (zup m 261 49 r) 1))) mem := by
  have hc : tCod tb n s ≠ -1 := by omega
  have hs' : 0 ≤ s ∧ s ≤ n := by omega
  have hnx := tNxt_rng (tb := tb) hs.2
  have hs1 : 0 ≤ tNxt tb n s ∧ tNxt tb n s ≤ n := by omega
  have S289 : ∀ m2 : zF, RE m0 m2 tb n b r (tNxt tb n s) E W f o fr 0 → tCod tb n (tNxt tb n s) = 10040 → L_m_operand_289 X d rf (fun r m => (r = 0 ∨ r = 1) ∧ ((1 ≤ m 261 8 ∧ m 261 8 ≤ 6 ∧ Q (zup m 261 49 r)) ∨ (m 261 8 = 0 ∧ L_m_reads_43 X (d + 1) rf Q (zup m 261 49 r) 1))) m2 w kd := by
    intro m2 h2 e
    refine s_m_operand_289 hR (h2.opens hR hb hn (by omega) hs1 (by omega) ho (fun o7 => ?_) (fun o6 m3 fr3 h3 a1 a2 a3 a4 a5 => ?_))
    · rw [zflt_8]
      refine ⟨by decide, fun _ => ⟨Or.inl rfl, Or.inl ?_⟩, fun q => absurd q (by decide)⟩
      refine ⟨by decide, by decide, k5 e o7 _ ?_⟩
      have := (h2.flt hs1 hn.2 (k := 5) (pc := tNxt tb n s)).up49 (v := 0)
      rw [tPlc_s (by omega)]
      exact this
    · have f8 : m3 261 8 = 0 := h3.1.2.2.2
      have f45 : m3 261 45 = ((f + 1 : Nat) : Int) + 1 := h3.2.2.2.2.2.1.1
      rw [f8, f45]
      refine ⟨by decide, fun q => absurd rfl q, fun _ => ⟨by omega, Or.inl rfl, Or.inr ⟨?_, ?_⟩⟩⟩
      · rw [zup_row _ _ _ (by decide)]; exact f8
      · have e1 : (((f + 1 : Nat) : Int) + 1 - 1).toNat = f + 1 := by omega
        rw [e1]
        exact kk e o6 _ (zup fr3 3 (f + 1) w) (h3.frame (sl := 3) (v := w) (by decide)).qq (fun sl g hg => by rw [zup_ne _ _ _ _ (by omega)]; exact a1 sl g hg) (by rw [zup_row _ _ _ (by decide)]; exact a2) (by rw [zup_row _ _ _ (by decide)]; exact a3) (by rw [zup_row _ _ _ (by decide)]; exact a4) (zup_at _ _ _ _) (by rw [zup_row _ _ _ (by decide)]; exact a5)
  have S289F : ∀ m2 : zF, REF m0 m2 b 1 (tPlc tb n (tNxt tb n s)) → tCod tb n (tNxt tb n s) ≠ 10040 → inI (m2 261 46) → L_m_operand_289 X d rf (fun r m => (r = 0 ∨ r = 1) ∧ ((1 ≤ m 261 8 ∧ m 261 8 ≤ 6 ∧ Q (zup m 261 49 r)) ∨ (m 261 8 = 0 ∧ L_m_reads_43 X (d + 1) rf Q (zup m 261 49 r) 1))) m2 w kd := by
    intro m2 h2 e hi
    have opF : ∀ {Q2 : zF → Prop}, Q2 m2 → Cv X d 216 [(2, 261), (0, kd)] rf m2 Q2 := by
      intro Q2 hq
      obtain ⟨d2, rfl⟩ : ∃ e, d = e + 1 := ⟨d - 1, by omega⟩
      have l18 : L_m_opens_18 X d2 rf Q2 m2 kd := by
        refine s_m_opens_18 hR ?_
        rw [h2.2.1]
        exact ⟨by decide, fun q => absurd q (by decide), fun _ => hq⟩
      exact s_m_opens hR ⟨hi, fun _ => l18, fun _ => t_blameF hR h2.2.1 (by decide) l18⟩
    refine s_m_operand_289 hR (opF ?_)
    rw [h2.2.1]
    refine ⟨by decide, fun _ => ⟨Or.inl rfl, Or.inl ?_⟩, fun q => absurd q (by decide)⟩
    exact ⟨by decide, by decide, kf e _ h2.up49⟩
  have S276 : ∀ m2 : zF, L_m_operand_289 X d rf (fun r m => (r = 0 ∨ r = 1) ∧ ((1 ≤ m 261 8 ∧ m 261 8 ≤ 6 ∧ Q (zup m 261 49 r)) ∨ (m 261 8 = 0 ∧ L_m_reads_43 X (d + 1) rf Q (zup m 261 49 r) 1))) m2 w kd → L_m_operand_276 X d rf (fun r m => (r = 0 ∨ r = 1) ∧ ((1 ≤ m 261 8 ∧ m 261 8 ≤ 6 ∧ Q (zup m 261 49 r)) ∨ (m 261 8 = 0 ∧ L_m_reads_43 X (d + 1) rf Q (zup m 261 49 r) 1))) m2 w := by
    intro m2 hm
    refine s_m_operand_276 hR ⟨by omega, fun q => ?_, fun q => ?_⟩
    · have : kd = 3 := by omega
      rw [this] at hm; exact hm
    · have : kd = 6 := by omega
      rw [this] at hm; exact hm
  have S249 : L_m_operand_249 X d rf (fun r m => (r = 0 ∨ r = 1) ∧ ((1 ≤ m 261 8 ∧ m 261 8 ≤ 6 ∧ Q (zup m 261 49 r)) ∨ (m 261 8 = 0 ∧ L_m_reads_43 X (d + 1) rf Q (zup m 261 49 r) 1))) mem w := by
    refine s_m_operand_249 hR (h.ahd hR (by omega) hb hn hs' (fun m2 h2 => ?_))
    have g4 := h2.1.1.f hs1
    have g8 : m2 261 8 = 0 := h2.1.2.2.2
    have g46 : m2 261 46 = o := h2.2.2.2.2.2.1.2.1
    have z46 : ∀ k pc : Int, (zflt m2 k pc) 261 46 = o := fun k pc => by unfold zflt; rw [zup_ne _ _ _ _ (by decide), zup_ne _ _ _ _ (by decide)]; exact g46
    refine t_lex hR (by omega) hb hn.2 hs1 h2.1 (fun hc1 => ?_) (fun hc1 => ?_)
    · refine t_isSign hR hb hs1 h2.1 hc1 (by decide) (fun e => ⟨by decide, fun _ => S276 m2 (S289 m2 h2 (by omega)), fun q => absurd q (by decide)⟩) (fun e => ⟨by decide, fun q => absurd rfl q, fun _ => ?_⟩)
      refine t_blame hR g8 ?_
      rw [g4.1]
      refine S276 _ (S289F _ ?_ (by omega) (by rw [z46]; omega))
      rw [tPlc_s hc1]
      exact h2.flt hs1 hn.2
    · have hF := h2.flt hs1 hn.2 (k := 1) (pc := tPlc tb n (tNxt tb n s))
      have g3 : (zflt m2 1 (tPlc tb n (tNxt tb n s))) 261 3 = m2 261 3 := by unfold zflt; rw [zup_ne _ _ _ _ (by decide), zup_ne _ _ _ _ (by decide)]
      have n3 : m2 261 3 ≠ 3 := fun q => (tCod_bp hb hs1.1).mp hc1 (g4.2.2.2.2.1 q)
      refine s_m_isSign hR ?_
      rw [g3]
      refine ⟨by omega, fun _ => ⟨by decide, fun q => absurd rfl q, fun _ => ?_⟩, fun q => absurd q n3⟩
      exact t_blameF hR zflt_8 (by decide) (S276 _ (S289F _ hF (by omega) (by rw [z46]; omega)))
  have S217 : L_m_operand_217 X d rf (fun r m => (r = 0 ∨ r = 1) ∧ ((1 ≤ m 261 8 ∧ m 261 8 ≤ 6 ∧ Q (zup m 261 49 r)) ∨ (m 261 8 = 0 ∧ L_m_reads_43 X (d + 1) rf Q (zup m 261 49 r) 1))) mem := by
    refine s_m_operand_217 hR (t_isWord 25 hR hb hs' h.1 hc (by decide) rfl (fun e => ⟨by decide, fun q => absurd q (by decide), fun _ => ?_⟩) (fun c1 => ⟨by decide, fun _ => ?_, fun q => absurd rfl q⟩))
    · have : w = 36 := by omega
      rw [this] at S249; exact S249
    refine t_isWord 26 hR hb hs' h.1 hc (by decide) rfl (fun e => ⟨by decide, fun q => absurd q (by decide), fun _ => ?_⟩) (fun c2 => ⟨by decide, fun _ => ?_, fun q => absurd rfl q⟩)
    · have : w = 37 := by omega
      rw [this] at S249; exact S249
    · have : w = 44 := by omega
      rw [this] at S249; exact S249
  refine s_m_operand_171 hR (t_isSign hR hb hs' h.1 hc (by decide) (fun e => absurd e (by omega)) (fun _ => ⟨by decide, fun _ => ?_, fun q => absurd rfl q⟩))
  refine t_isWord 25 hR hb hs' h.1 hc (by decide) rfl (fun e => ⟨by decide, fun _ => S217, fun q => absurd q (by decide)⟩) (fun c1 => ⟨by decide, fun q => absurd rfl q, fun _ => ?_⟩)
  refine t_isWord 26 hR hb hs' h.1 hc (by decide) rfl (fun e => ⟨by decide, fun _ => S217, fun q => absurd q (by decide)⟩) (fun c2 => ⟨by decide, fun q => absurd rfl q, fun _ => ?_⟩)
  exact t_isWord 20 hR hb hs' h.1 hc (by decide) rfl (fun e => ⟨by decide, fun q => absurd q (by decide), fun _ => S217⟩) (fun c3 => absurd hw (by omega))
end OPND
