/-! the reference: a frame goes on or closes -/
section GCLOSE
variable {X : zX} {rf m0 mem : zF} {tb : Nat → Int} {n b r s o : Int} {E : zC} {W A B : List Int} {f : Nat} {fr : zF}
/-- a token that may stand nowhere ends the reading -/
theorem g_bad {d : Nat} {Q : zF → Prop} (hR : zall rf zRK = true) (hb : TBy tb n) (hn : 0 ≤ n ∧ n ≤ 1600) (hd : 5 ≤ d) (h : RE m0 mem tb n b r s E W f o fr 1) (hs : 0 ≤ s ∧ s ≤ n) (hc : tCod tb n s = -1) (kk : ∀ mem', REF m0 mem' b 1 (tPlc tb n s) → Q mem') : L_m_reads_43 X d rf Q mem 1 := by
  obtain ⟨d, rfl⟩ : ∃ e, d = e + 1 := ⟨d - 1, by omega⟩
  refine rd_go hR h.2.2.2.2.2.1.2.2 (s_m_goesOn hR (t_lex hR (by omega) hb hn.2 hs h.1 (fun q => absurd hc q) (fun _ => ?_)))
  have e8 : zflt mem 1 (tPlc tb n s) 261 8 = 1 := by unfold zflt; rw [zup_ne _ _ _ _ (by decide), zup_at]
  rw [e8]
  exact ⟨by decide, fun q => absurd q (by decide), fun _ => Or.inl ⟨rfl, kk _ (h.flt hs hn.2)⟩⟩
theorem o_bad {d : Nat} {Q : zF → Prop} (hR : zall rf zRK = true) (hb : TBy tb n) (hn : 0 ≤ n ∧ n ≤ 1600) (hd : 5 ≤ d) (h : RE m0 mem tb n b r s E W f o fr 0) (hs : 0 ≤ s ∧ s ≤ n) (hc : tCod tb n s = -1) (kk : ∀ mem', REF m0 mem' b 1 (tPlc tb n s) → Q mem') : L_m_reads_43 X d rf Q mem 1 := by
  obtain ⟨d, rfl⟩ : ∃ e, d = e + 1 := ⟨d - 1, by omega⟩
  refine rd_op hR h.2.2.2.2.2.1.2.2 (s_m_operand hR (t_lex hR (by omega) hb hn.2 hs h.1 (fun q => absurd hc q) (fun _ => ?_)))
  have e8 : zflt mem 1 (tPlc tb n s) 261 8 = 1 := by unfold zflt; rw [zup_ne _ _ _ _ (by decide), zup_at]
  rw [e8]
  exact ⟨by decide, fun q => absurd q (by decide), fun _ => ⟨Or.inr rfl, Or.inl ⟨by decide, by decide, kk _ (h.flt hs hn.2).up49⟩⟩⟩
/-- what holds where a frame may close -/
def cEnd (tb : Nat → Int) (n s : Int) (fr : zF) (f : Nat) : Prop := (¬ zts (fr 0 f) ∧ (0 ≤ fr 1 f ∧ fr 1 f ≤ 1) ∧ nar tb n s) ∨ (zts (fr 0 f) ∧ (fr 1 f = 2 ∨ (fr 1 f = 1 ∧ nar tb n s)) ∧ tCod tb n s ≠ 20022 ∧ tCod tb n s ≠ 20021)
theorem g_to422 {d : Nat} {Q : Int → zF → Prop} (hR : zall rf zRK = true) (hb : TBy tb n) (hn : 0 ≤ n ∧ n ≤ 1600) (hd : 4 ≤ d) (h : RE m0 mem tb n b r s E W f o fr 1) (hs : 0 ≤ s ∧ s ≤ n) (hf : f ≤ 15) (hk : 0 ≤ fr 0 f ∧ fr 0 f ≤ 6) (hc : tCod tb n s ≠ -1) (he : cEnd tb n s fr f) (kk : L_m_goesOn_422 X d rf Q mem (f : Int) (fr 0 f)) : Ci X (d + 1) 219 [(2, 261)] rf mem Q := by
  have hg := h.2.2.2.2.2.2 f (Nat.le_refl _)
  have ef : ((f : Int) + 1 - 1).toNat = f := by omega
  have ef1 : (f : Int) + 1 - 1 = (f : Int) := by omega
  have ef2 : ((f : Int)).toNat = f := by omega
  refine s_m_goesOn hR (t_lex hR (by omega) hb hn.2 hs h.1 (fun _ => ?_) (fun q => absurd q hc))
  have e8 : mem 261 8 = 0 := h.1.2.2.2
  have e45 := h.2.2.2.2.2.1.1
  rw [e8, e45, ef, hg.1, ef1]
  refine ⟨by decide, fun _ => ⟨by omega, ?_⟩, fun q => absurd (by decide) q⟩
  have S400 : ∀ t : Int, ((t = 0 ∧ ¬ zts (fr 0 f)) ∨ (t = 1 ∧ fr 1 f ≠ 0)) → inI (fr 1 f) → L_m_goesOn_400 X d rf Q mem (f : Int) (fr 0 f) t := by
    intro t ht hi
    have hti : inI t := by rcases ht with x | x <;> rw [x.1] <;> decide
    refine s_m_goesOn_400 hR ⟨hti, fun _ => kk, fun q => ⟨by omega, ?_⟩⟩
    rw [ef2, hg.2.1]
    refine ⟨hi, fun _ => kk, fun q2 => ?_⟩
    rcases ht with x | x
    · exact absurd x.1 q
    · exact absurd q2 x.2
  have S285 : ∀ t : Int, ((t = 0 ∧ ¬ zts (fr 0 f)) ∨ (t = 1 ∧ fr 1 f ≠ 0 ∧ tCod tb n s ≠ 20022 ∧ tCod tb n s ≠ 20021)) → inI (fr 1 f) → L_m_goesOn_285 X d rf Q mem (f : Int) (fr 0 f) t := by
    intro t ht hi
    have hti : inI t := by rcases ht with x | x <;> rw [x.1] <;> decide
    have h4 := S400 t (ht.imp id (fun x => ⟨x.1, x.2.1⟩)) hi
    refine s_m_goesOn_285 hR ⟨hti, fun q => h4, fun q => ?_⟩
    have hx : tCod tb n s ≠ 20022 ∧ tCod tb n s ≠ 20021 := by
      rcases ht with x | x
      · exact absurd x.1 q
      · exact x.2.2
    refine t_isWord 22 hR hb hs h.1 hc (by decide) rfl (fun e => absurd e hx.1) (fun _ => ⟨by decide, fun q => absurd rfl q, fun _ => ?_⟩)
    exact t_isWord 21 hR hb hs h.1 hc (by decide) rfl (fun e => absurd e hx.2) (fun _ => ⟨by decide, fun _ => h4, fun q => absurd rfl q⟩)
  have S188 : ∀ t : Int, ((t = 0 ∧ ¬ zts (fr 0 f)) ∨ (t = 1 ∧ fr 1 f ≠ 0 ∧ tCod tb n s ≠ 20022 ∧ tCod tb n s ≠ 20021)) → inI (fr 1 f) → L_m_goesOn_188 X d rf Q mem (f : Int) (fr 0 f) t := by
    intro t ht hi
    have hti : inI t := by rcases ht with x | x <;> rw [x.1] <;> decide
    refine s_m_goesOn_188 hR ⟨hti, fun q => S285 t ht hi, fun q => ⟨by omega, ?_⟩⟩
    rw [ef2, hg.2.1]
    refine ⟨hi, fun _ => S285 t ht hi, fun q2 => ?_⟩
    rcases ht with x | x
    · exact absurd x.1 q
    · exact absurd q2 x.2.1
  have chain : ∀ t : Int, nar tb n s → ((t = 0 ∧ ¬ zts (fr 0 f)) ∨ (t = 1 ∧ fr 1 f ≠ 0 ∧ tCod tb n s ≠ 20022 ∧ tCod tb n s ≠ 20021)) → inI (fr 1 f) → Ci X d 203 [(2, 261), (0, 43)] rf mem (fun r6 mem7 => (inI r6) ∧ ((¬ r6 = 0 → L_m_goesOn_87 X d rf Q mem7) ∧ (r6 = 0 → Ci X d 203 [(2, 261), (0, 45)] rf mem7 (fun r9 mem10 => (inI r9) ∧ ((¬ r9 = 0 → L_m_goesOn_87 X d rf Q mem10) ∧ (r9 = 0 → Ci X d 203 [(2, 261), (0, 42)] rf mem10 (fun r12 mem13 => (inI r12) ∧ ((¬ r12 = 0 → L_m_goesOn_87 X d rf Q mem13) ∧ (r12 = 0 → Ci X d 203 [(2, 261), (0, 47)] rf mem13 (fun r15 mem16 => (inI r15) ∧ ((¬ r15 = 0 → L_m_goesOn_87 X d rf Q mem16) ∧ (r15 = 0 → Ci X d 203 [(2, 261), (0, 37)] rf mem16 (fun r18 mem19 => (inI r18) ∧ ((r18 = 0 → L_m_goesOn_188 X d rf Q mem19 (f : Int) (fr 0 f) t) ∧ (¬ r18 = 0 → L_m_goesOn_87 X d rf Q mem19))))))))))))))) := by
    intro t hna ht hi
    unfold nar at hna
    refine t_isSign hR hb hs h.1 hc (by decide) (fun e => absurd e (by omega)) (fun e1 => ⟨by decide, fun q => absurd rfl q, fun _ => ?_⟩)
    refine t_isSign hR hb hs h.1 hc (by decide) (fun e => absurd e (by omega)) (fun e2 => ⟨by decide, fun q => absurd rfl q, fun _ => ?_⟩)
    refine t_isSign hR hb hs h.1 hc (by decide) (fun e => absurd e (by omega)) (fun e3 => ⟨by decide, fun q => absurd rfl q, fun _ => ?_⟩)
    refine t_isSign hR hb hs h.1 hc (by decide) (fun e => absurd e (by omega)) (fun e4 => ⟨by decide, fun q => absurd rfl q, fun _ => ?_⟩)
    exact t_isSign hR hb hs h.1 hc (by decide) (fun e => absurd e (by omega)) (fun e5 => ⟨by decide, fun _ => S188 t ht hi, fun q => absurd rfl q⟩)
  refine t_isTest hR hk (fun hz1 => ?_) (fun hz0 => ?_)
  · rw [hg.2.1]
    rcases he with ⟨a, _⟩ | ⟨_, hp, h1, h2⟩
    · exact absurd hz1 a
    · refine ⟨by omega, by omega, fun q => S188 1 (Or.inr ⟨rfl, by omega, h1, h2⟩) (by omega), fun q => ?_⟩
      rcases hp with x | ⟨x, hna⟩
      · omega
      · exact chain 1 hna (Or.inr ⟨rfl, by omega, h1, h2⟩) (by omega)
  · rw [hg.2.1]
    rcases he with ⟨a, hp, hna⟩ | ⟨a, _⟩
    · exact ⟨by omega, by omega, fun q => S188 0 (Or.inl ⟨rfl, hz0⟩) (by omega), fun q => chain 0 hna (Or.inl ⟨rfl, hz0⟩) (by omega)⟩
    · exact absurd a hz0
/-- ) or ] -/
theorem g_close {d : Nat} {Q : zF → Prop} (hR : zall rf zRK = true) (hb : TBy tb n) (hn : 0 ≤ n ∧ n ≤ 1600) (hd : 5 ≤ d) (h : RE m0 mem tb n b r s E (A ++ B) (f + 1) o fr 1) (hs : 0 ≤ s ∧ s ≤ n) (hf : f ≤ 14) (hk : fr 0 (f + 1) = 2 ∨ fr 0 (f + 1) = 4 ∨ fr 0 (f + 1) = 5) (he : tCod tb n s ≠ -1 → cEnd tb n s fr (f + 1)) (hA : ∀ a ∈ A, (31 ≤ a ∧ a ≤ 43) ∧ 1 ≤ rk a) (hB : ∀ x ∈ B, 31 ≤ x ∧ x ≤ 43) (hbs : fr 4 (f + 1) = (B.length : Int)) (hl : (E.length : Int) + A.length + B.length ≤ s) (hl2 : A.length + B.length ≤ 400) (kf : ¬ (tCod tb n s = if fr 0 (f + 1) = 5 then 10093 else 10041) → ∀ mem', REF m0 mem' b 1 (tPlc tb n s) → Q mem') (kk : (tCod tb n s = if fr 0 (f + 1) = 5 then 10093 else 10041) → ∀ mem' fr', RE m0 mem' tb n b r (tNxt tb n s) (E ++ zz A ++ (if fr 0 (f + 1) = 4 then [(fr 3 (f + 1), 0)] else [])) B f (o - nots A - 1) fr' 1 → (∀ sl g, g < f → fr' sl g = fr sl g) → (∀ sl, sl ≠ 1 → fr' sl f = fr sl f) → (fr' 1 f = if fr 0 (f + 1) = 5 then 2 else fr 1 f) → L_m_reads_43 X d rf Q mem' 1) : L_m_reads_43 X d rf Q mem 1 := by
  by_cases hc : tCod tb n s = -1
  · refine g_bad hR hb hn hd h hs hc (kf (fun e => ?_))
    rw [hc] at e
    split at e <;> omega
  obtain ⟨d, rfl⟩ : ∃ e, d = e + 1 := ⟨d - 1, by omega⟩
  have hg := h.2.2.2.2.2.2 (f + 1) (Nat.le_refl _)
  have hi : 0 ≤ fr 0 (f + 1) ∧ fr 0 (f + 1) ≤ 6 := by omega
  have h4 := h.1.1.f hs
  refine rd_go hR h.2.2.2.2.2.1.2.2 (g_to422 hR hb hn (by omega) h hs (by omega) hi hc (he hc) ?_)
  have e8 : mem 261 8 = 0 := h.1.2.2.2
  -- the sign is there or not
  have bad : ¬ (tCod tb n s = if fr 0 (f + 1) = 5 then 10093 else 10041) → L_m_goesOn_546 X d rf (fun r m => (r = 0 ∧ Q m) ∨ (r = 1 ∧ m 261 8 = 0 ∧ L_m_reads_43 X (d + 1) rf Q m 1)) (zflt mem 1 s) ((f + 1 : Nat) : Int) (fr 0 (f + 1)) := by
    intro e
    have e81 : zflt mem 1 s 261 8 = 1 := by unfold zflt; rw [zup_ne _ _ _ _ (by decide), zup_at]
    refine s_m_goesOn_546 hR ?_
    rw [e81]
    refine ⟨by decide, fun q => absurd q (by decide), fun _ => Or.inl ⟨rfl, kf e _ ?_⟩⟩
    rw [tPlc_s hc]
    exact h.flt hs hn.2
  have good : (tCod tb n s = if fr 0 (f + 1) = 5 then 10093 else 10041) → L_m_goesOn_546 X d rf (fun r m => (r = 0 ∧ Q m) ∨ (r = 1 ∧ m 261 8 = 0 ∧ L_m_reads_43 X (d + 1) rf Q m 1)) mem ((f + 1 : Nat) : Int) (fr 0 (f + 1)) := by
    intro e
    have kk := kk e
    have hsn : s < n := by
      have := tCod_rng hb hs.1
      split at e <;> omega
    refine s_m_goesOn_546 hR ?_
    rw [e8]
    refine ⟨by decide, fun _ => RE.join hR (by omega) (by decide) (by omega) A h hA hB (by omega) (Or.inl hbs.symm) (by omega) hl2 (fun m2 h2 => ⟨by omega, ?_⟩), fun q => absurd (by decide) q⟩
    have g45 : m2 261 45 = ((f + 1 : Nat) : Int) + 1 := h2.2.2.2.2.2.1.1
    have g46 : m2 261 46 = o - nots A := h2.2.2.2.2.2.1.2.1
    rw [g45, g46]
    generalize hm3 : zup (zup m2 261 45 (((f + 1 : Nat) : Int) + 1 - 1)) 261 46 (o - nots A - 1) = m3
    have h3 : RE m0 m3 tb n b r s (E ++ zz A) B f (o - nots A - 1) fr 1 := by
      refine h2.close (fun i hi => ?_) (fun j hj1 hj2 => ?_) ?_ ?_
      · rw [← hm3, zup_row _ _ _ hi, zup_row _ _ _ hi]
      · rw [← hm3, zup_ne _ _ _ _ hj2, zup_ne _ _ _ _ hj1]
      · rw [← hm3, zup_ne _ _ _ _ (by decide), zup_at]
        omega
      · rw [← hm3, zup_at]
    have e289 : m2 289 (((f + 1 : Nat) : Int)).toNat = fr 3 (f + 1) := by
      have : (((f + 1 : Nat) : Int)).toNat = f + 1 := by omega
      rw [this]
      exact (h2.2.2.2.2.2.2 (f + 1) (Nat.le_refl _)).2.2.2.1
    have S596 : ∀ (m4 : zF) (E4 : zC), E4 = E ++ zz A ++ (if fr 0 (f + 1) = 4 then [(fr 3 (f + 1), 0)] else []) → RE m0 m4 tb n b r s E4 B f (o - nots A - 1) fr 1 → L_m_goesOn_596 X d rf (fun r m => (r = 0 ∧ Q m) ∨ (r = 1 ∧ m 261 8 = 0 ∧ L_m_reads_43 X (d + 1) rf Q m 1)) m4 (fr 0 (f + 1)) := by
      intro m4 E4 hE4 h4
      refine s_m_goesOn_596 hR ⟨by omega, fun q => ?_, fun q => ⟨?_, ?_⟩⟩
      · refine h4.ahd hR (by omega) hb hn hs (fun m5 h5 => Or.inr ⟨rfl, h5.1.2.2.2, kk m5 fr ?_ (fun _ _ _ => rfl) (fun _ _ => rfl) (by rw [if_neg q])⟩)
        rw [← hE4]
        exact h5
      · rw [h4.2.2.2.2.2.1.1]
        omega
      · have e1 : (m4 261 45 - 1).toNat = f := by rw [h4.2.2.2.2.2.1.1]; omega
        rw [e1]
        refine (h4.frame (sl := 1) (v := 2) (by decide)).ahd hR (by omega) hb hn hs (fun m5 h5 => Or.inr ⟨rfl, h5.1.2.2.2, kk m5 (zup fr 1 f 2) ?_ (fun sl g hg => zup_ne _ _ _ _ (by omega)) (fun sl hsl => by rw [zup_row _ _ _ hsl]) (by rw [zup_at, if_pos q])⟩)
        rw [← hE4]
        exact h5
    refine ⟨fun q => S596 m3 _ (by rw [if_neg q, List.append_nil]) h3, fun q => ⟨by omega, ?_⟩⟩
    rw [e289]
    exact h3.add hR (by rw [List.length_append, zz_len]; omega) (fun m4 h4 => S596 m4 _ (by rw [if_pos q]) h4)
  have S531 : ∀ c : Int, (0 ≤ c ∧ c ≤ 255) → (10000 + c = if fr 0 (f + 1) = 5 then 10093 else 10041) → L_m_goesOn_531 X d rf (fun r m => (r = 0 ∧ Q m) ∨ (r = 1 ∧ m 261 8 = 0 ∧ L_m_reads_43 X (d + 1) rf Q m 1)) mem ((f + 1 : Nat) : Int) (fr 0 (f + 1)) c := by
    intro c hcc ec
    refine s_m_goesOn_531 hR (t_isSign hR hb hs h.1 hc hcc (fun e => ⟨by decide, fun _ => good (by omega), fun q => absurd q (by decide)⟩) (fun e => ⟨by decide, fun q => absurd rfl q, fun _ => ?_⟩))
    refine t_blame hR e8 ?_
    rw [h4.1]
    exact bad (by omega)
  refine s_m_goesOn_422 hR ⟨by omega, fun _ => ⟨by omega, fun q => absurd q (by omega), fun _ => ⟨by omega, fun _ => ⟨by omega, fun q => S531 41 (by decide) (by rw [if_neg q]; rfl), fun q => S531 93 (by decide) (by rw [if_pos q]; rfl)⟩, fun q => absurd q (by omega)⟩⟩, fun q => absurd (by omega) q⟩
/-- a comma -/
theorem g_comma {d : Nat} {Q : zF → Prop} (hR : zall rf zRK = true) (hb : TBy tb n) (hn : 0 ≤ n ∧ n ≤ 1600) (hd : 5 ≤ d) (h : RE m0 mem tb n b r s E (A ++ B) f o fr 1) (hs : 0 ≤ s ∧ s ≤ n) (hf : f ≤ 15) (hk : fr 0 f = 3 ∨ fr 0 f = 6) (he : tCod tb n s ≠ -1 → cEnd tb n s fr f) (hA : ∀ a ∈ A, (31 ≤ a ∧ a ≤ 43) ∧ 1 ≤ rk a) (hB : ∀ x ∈ B, 31 ≤ x ∧ x ≤ 43) (hbs : fr 4 f = (B.length : Int)) (hl : (E.length : Int) + A.length + B.length ≤ 1600) (hl2 : A.length + B.length ≤ 400) (kf : tCod tb n s ≠ 10044 → ∀ mem', REF m0 mem' b 1 (tPlc tb n s) → Q mem') (kk : tCod tb n s = 10044 → ∀ mem', RE m0 mem' tb n b r (tNxt tb n s) (E ++ zz A) B f (o - nots A) (zup (zup fr 0 f (if fr 0 f = 3 then 4 else 3)) 1 f 0) 0 → L_m_reads_43 X d rf Q mem' 1) : L_m_reads_43 X d rf Q mem 1 := by
  by_cases hc : tCod tb n s = -1
  · exact g_bad hR hb hn hd h hs hc (kf (by omega))
  obtain ⟨d, rfl⟩ : ∃ e, d = e + 1 := ⟨d - 1, by omega⟩
  have hi : 0 ≤ fr 0 f ∧ fr 0 f ≤ 6 := by omega
  have h4 := h.1.1.f hs
  refine rd_go hR h.2.2.2.2.2.1.2.2 (g_to422 hR hb hn (by omega) h hs hf hi hc (he hc) ?_)
  have e8 : mem 261 8 = 0 := h.1.2.2.2
  have ef2 : ((f : Int)).toNat = f := by omega
  have S452 : L_m_goesOn_452 X d rf (fun r m => (r = 0 ∧ Q m) ∨ (r = 1 ∧ m 261 8 = 0 ∧ L_m_reads_43 X (d + 1) rf Q m 1)) mem (f : Int) (fr 0 f) := by
    refine s_m_goesOn_452 hR (t_isSign hR hb hs h.1 hc (by decide) (fun e => ⟨by decide, fun _ => ?_, fun q => absurd q (by decide)⟩) (fun e => ⟨by decide, fun q => absurd rfl q, fun _ => ?_⟩))
    · refine s_m_goesOn_470 hR ?_
      rw [e8]
      refine ⟨by decide, fun _ => RE.join hR (by omega) (by decide) hf A h hA hB (by omega) (Or.inl hbs.symm) (by omega) hl2 (fun m2 h2 => ?_), fun q => absurd (by decide) q⟩
      have S499 : ∀ kd : Int, kd = (if fr 0 f = 3 then 4 else 3) → L_m_goesOn_499 X d rf (fun r m => (r = 0 ∧ Q m) ∨ (r = 1 ∧ m 261 8 = 0 ∧ L_m_reads_43 X (d + 1) rf Q m 1)) m2 (f : Int) (f : Int) kd := by
        intro kd ekd
        refine s_m_goesOn_499 hR ⟨by omega, by omega, ?_⟩
        rw [ef2, ekd]
        refine ((h2.frame (sl := 0) (by decide)).frame (sl := 1) (v := 0) (by decide)).ahd hR (by omega) hb hn hs (fun m5 h5 => Or.inr ⟨rfl, ?_, kk e _ h5.qq⟩)
        rw [zup_ne _ _ _ _ (by decide)]
        exact h5.1.2.2.2
      exact ⟨by omega, fun q => S499 3 (by rw [if_neg q]), fun q => S499 4 (by rw [if_pos q])⟩
    · refine t_blame hR e8 ?_
      rw [h4.1]
      have e81 : zflt mem 1 s 261 8 = 1 := by unfold zflt; rw [zup_ne _ _ _ _ (by decide), zup_at]
      refine s_m_goesOn_470 hR ?_
      rw [e81]
      refine ⟨by decide, fun q => absurd q (by decide), fun _ => Or.inl ⟨rfl, kf (by omega) _ ?_⟩⟩
      rw [tPlc_s hc]
      exact h.flt hs hn.2
  exact s_m_goesOn_422 hR ⟨by omega, fun _ => ⟨by omega, fun _ => S452, fun q => ⟨by omega, fun q2 => absurd q2 (by omega), fun _ => S452⟩⟩, fun q => absurd (by omega) q⟩
end GCLOSE
