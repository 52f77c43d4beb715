/-! thins, bursts, hue: both -/
theorem RFr.b {m0 m1 mem : zF} {b : Int} (h1 : RFb m0 m1 b) (h2 : RFr m1 mem b) : RFb m0 mem b := by
  refine ⟨fun i hi => (h2.1 i (by omega)).trans (h1.1 i hi), fun j x1 x2 x3 x4 x5 x6 x7 x8 x9 x10 x11 x12 x13 x14 => (h2.2.1 j x1 x2 x3 x4 x5 x6 x7 x8 x9 x11 x12 x13 x14).trans (h1.2.1 j x1 x2 x3 x4 x5 x6 x7 x8 x9 x10 x11 x12 x13 x14), fun a j x y z => ?_⟩
  by_cases q : a = 281 ∨ a = 282
  · have hw : wd a = 1600 := by unfold wd; rw [if_pos q]
    have z2 := z
    rw [hw] at z2
    have h3 := h2.2.2 j z2
    rcases q with rfl | rfl
    · rw [h3.1]; exact h1.2.2 _ j x y z
    · rw [h3.2]; exact h1.2.2 _ j x y z
  · rw [h2.1 a (by omega)]
    exact h1.2.2 a j x y z
theorem RQ.rule {mem mem' pl : zF} {b v w : Int} {r : Nat} (h : RQ mem b pl) (hb : 0 ≤ b ∧ b < 2) (hr : r < 3) (e : ∀ a, 263 ≤ a → a ≤ 285 → a ≠ 279 → a ≠ 280 → a ≠ 281 → a ≠ 282 → mem' a = mem a) (e1 : mem' 279 (3 * b + (r : Int)).toNat = v) (e1' : ∀ j, j ≠ (3 * b + (r : Int)).toNat → mem' 279 j = mem 279 j) (e2 : mem' 280 (3 * b + (r : Int)).toNat = w) (e2' : ∀ j, j ≠ (3 * b + (r : Int)).toNat → mem' 280 j = mem 280 j) : RQ mem' b (zup (zup pl 11 r v) 12 r w) := by
  obtain ⟨q1, q2, q3, q4, q5, q6, q7, q8⟩ := h
  have p1 : ∀ i, i ≠ 11 → i ≠ 12 → (zup (zup pl 11 r v) 12 r w) i = pl i := fun i x y => by rw [zup_row _ _ _ y, zup_row _ _ _ x]
  have E : ∀ a, 263 ≤ a → a ≤ 278 → mem' a = mem a := fun a x y => e a x (by omega) (by omega) (by omega) (by omega) (by omega)
  refine ⟨by rw [E 263 (by decide) (by decide), E 264 (by decide) (by decide), p1 0 (by decide) (by decide)]; exact q1, by rw [E 265 (by decide) (by decide), E 278 (by decide) (by decide), E 270 (by decide) (by decide), p1 0 (by decide) (by decide)]; exact q2, by rw [E 266 (by decide) (by decide), E 271 (by decide) (by decide), E 274 (by decide) (by decide), p1 1 (by decide) (by decide)]; exact q3, by rw [E 267 (by decide) (by decide), E 268 (by decide) (by decide), E 269 (by decide) (by decide), p1 1 (by decide) (by decide), p1 3 (by decide) (by decide), p1 4 (by decide) (by decide), p1 5 (by decide) (by decide)]; exact q4, by rw [E 272 (by decide) (by decide), E 273 (by decide) (by decide), p1 1 (by decide) (by decide), p1 3 (by decide) (by decide), p1 6 (by decide) (by decide)]; exact q5, by rw [E 275 (by decide) (by decide), E 276 (by decide) (by decide), E 277 (by decide) (by decide), p1 1 (by decide) (by decide), p1 3 (by decide) (by decide), p1 7 (by decide) (by decide), p1 8 (by decide) (by decide)]; exact q6, fun so k hs k0 k1 => ?_, fun r2 hr2 => ?_⟩
  · rw [p1 1 (by decide) (by decide)] at k1
    rw [e (283 + so) (by omega) (by omega) (by omega) (by omega) (by omega) (by omega), p1 2 (by decide) (by decide)]
    exact q7 so k hs k0 k1
  · by_cases x : r2 = r
    · subst x
      rw [zup_row _ _ _ (show (11 : Nat) ≠ 12 by decide), zup_at, zup_at]
      exact ⟨e1, fun _ => e2⟩
    · rw [zup_row _ _ _ (show (11 : Nat) ≠ 12 by decide), zup_ne _ _ _ _ x, zup_ne _ _ _ _ x, zup_row _ _ _ (show (12 : Nat) ≠ 11 by decide), e1' _ (by omega), e2' _ (by omega)]
      exact q8 r2 hr2
section RRULE
variable {X : zX} {rf rg : zF} {p D D2 D3 : Nat} {tb : Nat → Int} {n b : Int} {pl : zF} {L : zC}
/-- the reading ends at the top -/
theorem g_top {d : Nat} {Q : zF → Prop} {m1 mem fr : zF} {r s o : Int} {E : zC} {A : List Int} (hR : zall rg zRK = true) (hb : TBy tb n) (hn : 0 ≤ n ∧ n ≤ 1600) (hd : 5 ≤ d) (h : RE m1 mem tb n b r s E (A ++ []) 0 o fr 1) (hs : 0 ≤ s ∧ s ≤ n) (hk : fr 0 0 = 0 ∨ fr 0 0 = 1) (hc : tCod tb n s ≠ -1) (he : cEnd tb n s fr 0) (hA : ∀ a ∈ A, (31 ≤ a ∧ a ≤ 43) ∧ 1 ≤ rk a) (hbs : fr 4 0 = 0) (hl : E.length + A.length ≤ 1600) (hl2 : A.length ≤ 400) (kk : ∀ mem', RE m1 mem' tb n b r s (E ++ zz A) [] 0 (o - nots A) fr 1 → Q mem') : L_m_reads_43 X d rg Q mem 1 := by
  obtain ⟨d, rfl⟩ : ∃ e, d = e + 1 := ⟨d - 1, by omega⟩
  have e8 : mem 261 8 = 0 := h.1.2.2.2
  refine rd_go hR h.2.2.2.2.2.1.2.2 (g_to422 hR hb hn (by omega) h hs (by decide) (by omega) hc he ?_)
  refine s_m_goesOn_422 hR ?_
  rw [e8]
  refine ⟨by omega, fun q => absurd q (by omega), fun _ => ⟨by decide, fun q => absurd rfl q, fun _ => ?_⟩⟩
  refine RE.join hR (by omega) (by decide) (by decide) A h hA (fun x hx => by cases hx) ?_ (Or.inl ?_) ?_ ?_ (fun m2 h2 => Or.inl ⟨rfl, kk m2 h2⟩)
  · rw [hbs]; exact ⟨by decide, by simp⟩
  · rw [hbs]; rfl
  · simp only [List.length_nil]; omega
  · simp only [List.length_nil]; omega
/-- a rule is read -/
theorem r_reads (hz : ZX rf p tb n) (hg : zall rg zRK = true) {r : Nat} (hr : r < 3) {s : Int} (hs : 0 ≤ s ∧ s ≤ n) (hL : (L.length : Int) ≤ s) :
    (∃ k pc : Int, (1 ≤ k ∧ k ≤ 6) ∧ inI pc ∧ (∀ (m0 mem : zF) (Q : Int → zF → Prop) (D : Nat), 67 ≤ D → CE m0 mem p tb n (r : Int) s L → (∀ mem', CEF m0 mem' p k pc → Q 0 mem') → Ci X D (if r = 1 then 53 else 43) [(2, 3), (0, 0)] rf mem Q) ∧ ∀ (m1 mem fr : zF) (b : Int) (d : Nat) (Q : zF → Prop), 5 ≤ d → RE m1 mem tb n b (r : Int) s L [] 0 0 fr 0 → fr 0 0 = (if r = 1 then 1 else 0) → fr 1 0 = 0 → fr 2 0 = 1 → fr 4 0 = 0 → (∀ mem', REF m1 mem' b k pc → Q mem') → L_m_reads_43 X d rg Q mem 1) ∨
    (∃ (s2 : Int) (C : zC), (s < s2 ∧ s2 ≤ n) ∧ (C.length : Int) ≤ s2 - s ∧ C ≠ [] ∧ tck (r : Int) C [] = some [decide (r = 1)] ∧ (∀ (m0 mem : zF) (Q : Int → zF → Prop) (D : Nat), 67 ≤ D → CE m0 mem p tb n (r : Int) s L → (∀ mem', CE m0 mem' p tb n (r : Int) s2 (L ++ C) → Q 1 mem') → Ci X D (if r = 1 then 53 else 43) [(2, 3), (0, 0)] rf mem Q) ∧ ∀ (m1 mem fr : zF) (b : Int) (d : Nat) (Q : zF → Prop), 5 ≤ d → RE m1 mem tb n b (r : Int) s L [] 0 0 fr 0 → fr 0 0 = (if r = 1 then 1 else 0) → fr 1 0 = 0 → fr 2 0 = 1 → fr 4 0 = 0 → (tCod tb n s2 = -1 → ∀ mem', REF m1 mem' b 1 (tPlc tb n s2) → Q mem') → (tCod tb n s2 ≠ -1 → ∀ (mem' fr' : zF) (o : Int), RE m1 mem' tb n b (r : Int) s2 (L ++ C) [] 0 o fr' 1 → Q mem') → L_m_reads_43 X d rg Q mem 1) := by
  have hb := hz.2.2.2.2.2.2
  have hn := hz.2.2.2.2.2.1
  have na := n_all (X := X) (r := (r : Int)) hz hg (by omega) (n - s).toNat s hs.1 hs.2 (by omega) 0 (by decide) (by decide)
  have ne : ∀ (C : zC) (v : Bool), tck (r : Int) C [] = some [v] → C ≠ [] := by
    intro C v h q
    rw [q] at h
    cases h
  have e0 : (0 : Int) + nots [] = 0 := rfl
  by_cases r1 : r = 1
  · rw [if_pos r1]
    have nt := na.2.2.2.2.2.2.2.2.1
    have rb : ∀ (m1 mem fr : zF) (b : Int), RE m1 mem tb n b (r : Int) s L [] 0 0 fr 0 → fr 0 0 = 1 → fr 1 0 = 0 → fr 2 0 = 1 → fr 4 0 = 0 → RS0 tb n (r : Int) 1 0 0 s cT m1 mem b L [] [] 0 fr := by
      intro m1 mem fr b h f0 f1 f2 f4
      refine ⟨rfl, h, ⟨by decide, by decide, (fun x hx => by cases hx), by rw [f4]; exact ⟨by decide, by simp⟩, Or.inl (by rw [f4]; rfl), by simp, by simp only [List.length_nil]; omega, (fun x hx => by cases hx), by simp⟩, by rw [f0]; decide, by rw [f0]; exact Or.inl rfl, f1, f2⟩
    rcases nt with ⟨k, pc, hk, hpc, hcf, hrf⟩ | ⟨s2, C, hs2, hC, hco, hro, hty, hec⟩
    · refine Or.inl ⟨k, pc, hk, hpc, fun m0 mem Q D hD h kk => hcf m0 mem L Q h hL kk D (by omega), fun m1 mem fr b d Q hd h f0 f1 f2 f4 kk => ?_⟩
      rw [if_pos r1] at f0
      exact hrf m1 b L [] [] 0 fr mem d Q (rb m1 mem fr b h f0 f1 f2 f4) hd kk
    · have ht := hty [] (by simp)
      refine Or.inr ⟨s2, C, ⟨hec.1, hs2.2⟩, hC, ne C true ht, by rw [ht, r1]; rfl, fun m0 mem Q D hD h kk => hco m0 mem L Q h hL kk D (by omega), fun m1 mem fr b d Q hd h f0 f1 f2 f4 kb kk => ?_⟩
      rw [if_pos r1] at f0
      refine hro m1 b L [] [] 0 fr mem d Q (rb m1 mem fr b h f0 f1 f2 f4) hd (fun m2 E' A' fr' h2 hfr he => ?_)
      obtain ⟨hE2, ⟨c1, c2, c3, c4, c5, c6, c7, c8, c9⟩, hk2, hc1⟩ := h2
      have e2 : E' ++ zz A' = L ++ C := by
        rw [he]
        show L ++ [] ++ C = L ++ C
        rw [List.append_nil]
      by_cases q : tCod tb n s2 = -1
      · exact g_bad hg hb hn hd hE2 (by omega) q (kb q)
      · simp only [List.length_nil] at c7
        refine g_top hg hb hn hd hE2 (by omega) (Or.inr (by rw [hfr.2.1]; exact f0)) q (Or.inr ⟨hc1.1, hc1.2.1, hec.2.1, hec.2.2⟩) (fun a ha => ⟨(c8 a ha).1, (c8 a ha).2⟩) (by rw [hfr.2.2.2]; exact f4) (by omega) (by omega) (fun m3 h3 => kk q m3 fr' (0 + nots A' - nots A') ?_)
        rw [e2] at h3
        exact h3
  · rw [if_neg r1]
    have nt := na.2.2.2.1
    have rb : ∀ (m1 mem fr : zF) (b : Int), RE m1 mem tb n b (r : Int) s L [] 0 0 fr 0 → fr 0 0 = 0 → fr 1 0 = 0 → fr 2 0 = 1 → fr 4 0 = 0 → RS0 tb n (r : Int) 5 3 0 s (cS tb n s) m1 mem b L [] [] 0 fr := by
      intro m1 mem fr b h f0 f1 f2 f4
      refine ⟨rfl, h, ⟨by decide, by decide, (fun x hx => by cases hx), by rw [f4]; exact ⟨by decide, by simp⟩, Or.inl (by rw [f4]; rfl), by simp, by simp only [List.length_nil]; omega, (fun x hx => by cases hx), by simp⟩, by rw [f0]; decide, by rw [f1]; decide, by rw [f2]; decide, Or.inl ?_⟩
      rw [f0]
      unfold zts
      omega
    rcases nt with ⟨k, pc, hk, hpc, hcf, hrf⟩ | ⟨s2, C, hs2, hC, hco, hro, hty, hec⟩
    · refine Or.inl ⟨k, pc, hk, hpc, fun m0 mem Q D hD h kk => hcf m0 mem L Q h hL kk D (by omega), fun m1 mem fr b d Q hd h f0 f1 f2 f4 kk => ?_⟩
      rw [if_neg r1] at f0
      exact hrf m1 b L [] [] 0 fr mem d Q (rb m1 mem fr b h f0 f1 f2 f4) hd kk
    · have ht := hty [] (by simp)
      refine Or.inr ⟨s2, C, ⟨hec.1, hs2.2⟩, hC, ne C false ht, by rw [ht, decide_eq_false r1], fun m0 mem Q D hD h kk => hco m0 mem L Q h hL kk D (by omega), fun m1 mem fr b d Q hd h f0 f1 f2 f4 kb kk => ?_⟩
      rw [if_neg r1] at f0
      refine hro m1 b L [] [] 0 fr mem d Q (rb m1 mem fr b h f0 f1 f2 f4) hd (fun m2 E' A' fr' h2 hfr he => ?_)
      obtain ⟨hE2, ⟨c1, c2, c3, c4, c5, c6, c7, c8, c9⟩, hk2, hc1⟩ := h2
      have e2 : E' ++ zz A' = L ++ C := by
        rw [he]
        show L ++ [] ++ C = L ++ C
        rw [List.append_nil]
      have k0 : fr' 0 0 = 0 := by rw [hfr.2.1]; exact f0
      by_cases q : tCod tb n s2 = -1
      · exact g_bad hg hb hn hd hE2 (by omega) q (kb q)
      · simp only [List.length_nil] at c7
        refine g_top hg hb hn hd hE2 (by omega) (Or.inl k0) q (Or.inl ⟨by rw [k0]; unfold zts; omega, hc1.1, hec.2⟩) (fun a ha => ⟨(c8 a ha).1, by have := (c8 a ha).2; omega⟩) (by rw [hfr.2.2.2.2]; exact f4) (by omega) (by omega) (fun m3 h3 => kk q m3 fr' (0 + nots A' - nots A') ?_)
        rw [e2] at h3
        exact h3
/-- thins, bursts, hue with the sign behind -/
theorem r_rule (hz : ZX rf p tb n) (hg : zall rg zRK = true) {r : Nat} (hr : r < 3) (hD : 70 ≤ D) (hD2 : 9 ≤ D2) (hD3 : 4 ≤ D3) (hW : WX pl L) {s : Int} (hL : (L.length : Int) ≤ s) (hs : 0 ≤ s ∧ s < n) (hcd : tCod tb n s ≠ -1) (hN : 0 ≤ pl 0 0 ∧ pl 0 0 < 80) : TJ p tb n b (fun mem Q => Ci X D 35 [(2, 3), (0, (r : Int))] rf mem (fun v m => L_parser_readStatement_253 X D rf Q m p v)) (fun mem Q => Cv X D2 234 [(2, 261), (0, (r : Int))] rg mem (fun m => Cv X D3 237 [(2, 261), (0, pl 0 0 + 1)] rg m Q)) pl L s := by
  obtain ⟨d, rfl⟩ : ∃ d, D = d + 1 := ⟨D - 1, by omega⟩
  obtain ⟨e, rfl⟩ : ∃ e, D2 = e + 1 := ⟨D2 - 1, by omega⟩
  have hb := hz.2.2.2.2.2.2
  have hn := hz.2.2.2.2.2.1
  have hp := hz.2.2.2.2.1
  have hnx := tNxt_rng (tb := tb) hs.2
  have hs1 : 0 ≤ tNxt tb n s ∧ tNxt tb n s ≤ n := by omega
  have hs' : 0 ≤ s ∧ s ≤ n := by omega
  have er : ((r : Int)).toNat = r := Int.toNat_natCast r
  have hru := hW.2 r hr
  -- told already?
  have told : ∀ (m0 mem : zF) (Q : Int → zF → Prop), CS m0 mem p tb n s pl L → (pl 11 r ≠ -1 → Q 1 mem) → (pl 11 r = -1 → Q 0 mem) → Ci X d 74 [(2, ((p + 9 : Nat) : Int)), (0, (r : Int))] rf mem Q := by
    intro m0 mem Q h k1 k0
    have e11 : mem (p + 9 + 2) = pl 11 := h.2.2.1 11 (by decide) (by decide) (by decide)
    have e12 : mem (p + 9 + 3) = pl 12 := h.2.2.1 12 (by decide) (by decide) (by decide)
    refine s_rules_isTold hz.1 hz.2.2.2.1 ?_
    rw [e11, e12, er]
    rcases hru with ⟨x, y⟩ | ⟨A, C, B, h1, h2, h3, h4, h5⟩
    · rw [x, y]
      exact ⟨by omega, fun q => absurd q (by omega), fun _ => ⟨by omega, fun q => absurd q (by omega), fun _ => ⟨by omega, by decide, fun _ => k0 x, fun q => absurd (by decide) q⟩⟩⟩
    · have hc : 0 < C.length := List.length_pos_iff.mpr h2
      have hlen : L.length = A.length + C.length + B.length := by rw [h1, List.length_append, List.length_append]
      rw [h3, h4]
      refine ⟨by omega, fun q => absurd q (by omega), fun _ => ⟨by omega, fun q => absurd q (by omega), fun _ => ⟨by omega, by omega, fun q => absurd q (by omega), fun _ => ⟨by omega, by omega, by omega, fun q => absurd q (by omega), fun _ => k1 (by omega)⟩⟩⟩⟩
  by_cases ht : pl 11 r = -1
  · have ht12 : pl 12 r = -1 := by
      rcases hru with x | ⟨A, C, B, h1, h2, h3, h4, h5⟩
      · exact x.2
      · omega
    -- the program: up to the rule
    have cpre : ∀ (m0 mem : zF) (Q : Int → zF → Prop), CS m0 mem p tb n s pl L → (∀ m5, CS m0 m5 p tb n (tNxt tb n s) (zup pl 11 r (L.length : Int)) L → m5 3 2 = (r : Int) → Ci X d (if r = 1 then 53 else 43) [(2, 3), (0, 0)] rf m5 (fun v m => L_parser_readRule_62 X d rf Q m p (r : Int) v)) → Ci X (d + 1) 35 [(2, 3), (0, (r : Int))] rf mem Q := by
      intro m0 mem Q h kk
      refine s_parser_readRule hz.1 hz.2.1 hz.2.2.1 (told m0 mem _ h (fun q => absurd ht q) (fun _ => ⟨by decide, fun _ => h.ce.next hz hs.2 hcd (fun m4 h4 => ?_), fun c => absurd rfl c⟩))
      have g4 := h4.cs hp h
      have g4' : CS m0 (zup m4 3 2 (r : Int)) p tb n (tNxt tb n s) pl L := by
        obtain ⟨a1, a2, a3, a4, a5⟩ := g4
        exact ⟨a1.fr (zup_row _ _ _ (by decide)) (zup_row _ _ _ (by decide)) (zup_row _ _ _ (by decide)), ⟨fun i x y z => by rw [zup_row _ _ _ x]; exact a2.1 i x y z, by rw [zup_ne _ _ _ _ (by decide), zup_ne _ _ _ _ (by decide)]; exact a2.2⟩, fun i x y z => by rw [zup_row _ _ _ (by omega)]; exact a3 i x y z, by rw [zup_row _ _ _ (by omega)]; exact a4, fun i hi => by rw [zup_row _ _ _ (by omega)]; exact a5 i hi⟩
      refine s_rules_begin hz.1 hz.2.2.2.1 ⟨by omega, fun q => absurd q (by omega), fun _ => ⟨by omega, fun q => absurd q (by omega), fun _ => ⟨by omega, ?_⟩⟩⟩
      rw [er, g4'.2.2.2.1]
      have g5 := kk _ (g4'.up (i := 11) (j := r) (v := (L.length : Int)) hp (by decide) (by decide) (by decide)) (by rw [zup_row _ _ _ (by omega), zup_at])
      refine ⟨by omega, fun q => ?_, fun q => ?_⟩
      · rw [if_neg (by omega)] at g5
        exact g5
      · rw [if_pos (by omega)] at g5
        exact g5
    -- the reference: up to the rule
    have rpre : ∀ (m0 mem : zF) (Q : zF → Prop), RSs m0 mem b tb n s pl L → (∀ (m1 mem' fr : zF), RSs m0 m1 b tb n (tNxt tb n s) pl L → RFb m0 mem' b → RE mem' mem' tb n b (r : Int) (tNxt tb n s) L [] 0 0 fr 0 → fr 0 0 = (if r = 1 then 1 else 0) → fr 1 0 = 0 → fr 2 0 = 1 → fr 4 0 = 0 → (∀ a, 263 ≤ a → a ≤ 285 → a ≠ 279 → mem' a = m1 a) → mem' 279 (3 * b + (r : Int)).toNat = (L.length : Int) → (∀ j, j ≠ (3 * b + (r : Int)).toNat → mem' 279 j = m1 279 j) → ∀ dd : Nat, e = dd + 1 → L_m_reads_43 X dd rg (fun m6 => (0 ≤ 3 * b + (r : Int) ∧ 3 * b + (r : Int) < 6) ∧ Q (zup m6 280 (3 * b + (r : Int)).toNat (m6 261 37))) mem' 1) → Cv X (e + 1) 234 [(2, 261), (0, (r : Int))] rg mem Q := by
      intro m0 mem Q h kk
      have hb2 := h.2.2.1.2
      have e279 : mem 279 (3 * b + (r : Int)).toNat = -1 := by rw [(h.2.2.2.2.2.2.2.2.2.2.2 r hr).1]; exact ht
      refine s_m_reading hg ?_
      rw [h.2.2.1.1, e279]
      refine ⟨by omega, by decide, fun _ => ?_, fun q => absurd rfl q⟩
      refine s_m_reading_25 hg (t_counts hg (by omega) hb hn hs' h.1 (Or.inl rfl) (fun _ m3 f3 t3 => ⟨by decide, fun _ => ⟨by omega, by omega, ?_⟩, fun c => absurd c (by decide)⟩) (fun c => absurd c (by decide)))
      have g3 := h.fa f3 t3
      rw [g3.2.2.2.1.1]
      generalize hm4 : zup (zup m3 261 39 (r : Int)) 279 (3 * b + (r : Int)).toNat (L.length : Int) = m4
      obtain ⟨dd, hdd⟩ : ∃ dd, e = dd + 1 := ⟨e - 1, by omega⟩
      -- the frame of the reading
      have body : ∀ kd : Int, kd = (if r = 1 then 1 else 0) → Cv X dd 215 [(2, 261), (0, kd)] rg (zup (zup (zup (zup m4 261 45 0) 261 46 0) 261 48 0) 261 49 0) (fun m => L_m_reads_43 X dd rg (fun m6 => (0 ≤ 3 * b + (r : Int) ∧ 3 * b + (r : Int) < 6) ∧ Q (zup m6 280 (3 * b + (r : Int)).toNat (m6 261 37))) m 1) := by
        intro kd ekd
        generalize hm5 : zup (zup (zup (zup m4 261 45 0) 261 46 0) 261 48 0) 261 49 0 = m5
        have e45 : m5 261 45 = 0 := by rw [← hm5, zup_ne _ _ _ _ (by decide), zup_ne _ _ _ _ (by decide), zup_ne _ _ _ _ (by decide), zup_at]
        have e46 : m5 261 46 = 0 := by rw [← hm5, zup_ne _ _ _ _ (by decide), zup_ne _ _ _ _ (by decide), zup_at]
        have e48 : m5 261 48 = 0 := by rw [← hm5, zup_ne _ _ _ _ (by decide), zup_at]
        have e49 : m5 261 49 = 0 := by rw [← hm5, zup_at]
        have r5 : ∀ i, i ≠ 261 → i ≠ 279 → m5 i = m3 i := fun i x y => by rw [← hm5, zup_row _ _ _ x, zup_row _ _ _ x, zup_row _ _ _ x, zup_row _ _ _ x, ← hm4, zup_row _ _ _ y, zup_row _ _ _ x]
        have s5 : ∀ j, j ≠ 39 → j ≠ 45 → j ≠ 46 → j ≠ 48 → j ≠ 49 → m5 261 j = m3 261 j := fun j x1 x2 x3 x4 x5 => by rw [← hm5, zup_ne _ _ _ _ x5, zup_ne _ _ _ _ x4, zup_ne _ _ _ _ x3, zup_ne _ _ _ _ x2, ← hm4, zup_row _ _ _ (by decide), zup_ne _ _ _ _ x1]
        have e39 : m5 261 39 = (r : Int) := by rw [← hm5, zup_ne _ _ _ _ (by decide), zup_ne _ _ _ _ (by decide), zup_ne _ _ _ _ (by decide), zup_ne _ _ _ _ (by decide), ← hm4, zup_row _ _ _ (by decide), zup_at]
        have e279a : m5 279 = (zup m3 279 (3 * b + (r : Int)).toNat (L.length : Int)) 279 := by
          rw [← hm5, zup_row _ _ _ (by decide), zup_row _ _ _ (by decide), zup_row _ _ _ (by decide), zup_row _ _ _ (by decide), ← hm4]
          funext j
          by_cases q : j = (3 * b + (r : Int)).toNat
          · rw [q, zup_at, zup_at]
          · rw [zup_ne _ _ _ _ q, zup_ne _ _ _ _ q, zup_row _ _ _ (by decide)]
        refine s_m_pushes hg ?_
        rw [e45, e48]
        refine ⟨by decide, by decide, by decide, by decide, ?_⟩
        generalize hm6 : zup (zup (zup (zup (zup m5 286 (0 : Int).toNat kd) 287 (0 : Int).toNat 0) 288 (0 : Int).toNat 1) 290 (0 : Int).toNat 0) 261 45 (0 + 1) = m6
        have r6 : ∀ i, i ≠ 261 → (i < 286 ∨ 290 < i) → m6 i = m5 i := fun i x y => by rw [← hm6, zup_row _ _ _ x, zup_row _ _ _ (by omega), zup_row _ _ _ (by omega), zup_row _ _ _ (by omega), zup_row _ _ _ (by omega)]
        have s6 : ∀ j, j ≠ 45 → m6 261 j = m5 261 j := fun j x => by rw [← hm6, zup_ne _ _ _ _ x, zup_row _ _ _ (by decide), zup_row _ _ _ (by decide), zup_row _ _ _ (by decide), zup_row _ _ _ (by decide)]
        have q0 : m6 286 0 = kd := by rw [← hm6, zup_row _ _ _ (by decide), zup_row _ _ _ (by decide), zup_row _ _ _ (by decide), zup_row _ _ _ (by decide)]; exact zup_at _ _ _ _
        have q1 : m6 287 0 = 0 := by rw [← hm6, zup_row _ _ _ (by decide), zup_row _ _ _ (by decide), zup_row _ _ _ (by decide)]; exact zup_at _ _ _ _
        have q2 : m6 288 0 = 1 := by rw [← hm6, zup_row _ _ _ (by decide), zup_row _ _ _ (by decide)]; exact zup_at _ _ _ _
        have q4 : m6 290 0 = 0 := by rw [← hm6, zup_row _ _ _ (by decide)]; exact zup_at _ _ _ _
        have rfb : RFb m0 m6 b := by
          obtain ⟨x1, x2, x3⟩ := g3.2.1
          refine ⟨fun i hi => by rw [r6 i (by omega) (by omega), r5 i (by omega) (by omega)]; exact x1 i hi, fun j y1 y2 y3 y4 y5 y6 y7 y8 y9 y10 y11 y12 y13 y14 => by rw [s6 j y11, s5 j y10 y11 y12 y13 y14]; exact x2 j y1 y2 y3 y4 y5 y6 y7 y8 y9 y10 y11 y12 y13 y14, fun a j y1 y2 y3 => ?_⟩
          by_cases qa : a = 279
          · subst qa
            rw [wd3 (by decide)] at y3
            rw [r6 279 (by decide) (by decide), e279a, zup_ne _ _ _ _ (by omega)]
            exact x3 279 j y1 y2 (by rw [wd3 (by decide)]; exact y3)
          · rw [r6 a (by omega) (by omega), r5 a (by omega) qa]
            exact x3 a j y1 y2 y3
        refine kk m3 m6 (fun i g => m6 (286 + i) g) g3 rfb ⟨?_, RFr.rfl, ⟨?_, ?_, hb2⟩, ?_, ⟨?_, trivial⟩, ⟨?_, ?_, ?_⟩, fun g hg => ⟨rfl, rfl, rfl, rfl, rfl⟩⟩ (by show m6 286 0 = _; rw [q0]; exact ekd) q1 q2 q4 (fun a y1 y2 y3 => by rw [r6 a (by omega) (by omega), r5 a (by omega) y3]) (by rw [r6 279 (by decide) (by decide), e279a, zup_at]) (fun j hj => by rw [r6 279 (by decide) (by decide), e279a, zup_ne _ _ _ _ hj]) dd hdd
        · exact g3.1.fr (fun j hj => by rw [s6 j (by omega), s5 j (by omega) (by omega) (by omega) (by omega) (by omega)]) (by rw [r6 262 (by decide) (by decide), r5 262 (by decide) (by decide)])
        · rw [s6 38 (by decide), s5 38 (by decide) (by decide) (by decide) (by decide) (by decide)]; exact g3.2.2.1.1
        · rw [s6 39 (by decide)]; exact e39
        · have := g3.2.2.2.1
          rw [s6 37 (by decide), s5 37 (by decide) (by decide) (by decide) (by decide) (by decide), r6 281 (by decide) (by decide), r6 282 (by decide) (by decide), r5 281 (by decide) (by decide), r5 282 (by decide) (by decide)]
          exact this
        · rw [s6 48 (by decide), e48]; rfl
        · rw [← hm6, zup_at]; rfl
        · rw [s6 46 (by decide)]; exact e46
        · rw [s6 49 (by decide)]; exact e49
      have e8 : m4 261 8 = 0 := by rw [← hm4, zup_row _ _ _ (by decide), zup_ne _ _ _ _ (by decide)]; exact g3.1.2.2.2
      refine ⟨fun q => s_m_reading_58 hg ?_, fun q => s_m_reading_58 hg ?_⟩
      · subst hdd
        refine s_m_reads hg ?_
        rw [e8]
        exact ⟨by decide, fun _ => ⟨by decide, fun _ => body 0 (by rw [if_neg (by omega)]), fun c => absurd rfl c⟩, fun c => absurd (by decide) c⟩
      · subst hdd
        refine s_m_reads hg ?_
        rw [e8]
        exact ⟨by decide, fun _ => ⟨by decide, fun c => absurd c (by decide), fun _ => body 1 (by rw [if_pos (by omega)])⟩, fun c => absurd (by decide) c⟩
    rcases r_reads (X := X) hz hg hr hs1 (L := L) (by omega) with ⟨k, pc, hk, hpc, hcf, hrf⟩ | ⟨s2, C, hs2, hC, hne, htc, hco, hro⟩
    · refine Or.inl ⟨k, pc, hk, hpc, fun m0 mem Q h kk => cpre m0 mem _ h (fun m5 g5 e5 => ?_), fun m0 mem Q h kk => rpre m0 mem _ h (fun m1 mem' fr g1 gb gE f0 f1 f2 f4 q1 q2 q3 dd hdd => ?_)⟩
      · have ce := g5.ce
        rw [e5] at ce
        refine hcf m5 m5 _ d (by omega) ce (fun m6 h6 => s_parser_readRule_62 hz.1 hz.2.1 hz.2.2.1 (s_rules_finish hz.1 hz.2.2.2.1 ⟨by omega, fun q => absurd q (by omega), fun _ => ⟨by omega, fun q => absurd q (by omega), fun _ => ⟨by omega, Or.inl rfl, ?_⟩⟩⟩))
        exact c_finF hz ((h6.cs hp g5).up (i := 12) hp (by decide)) kk
      · have hb2 := g1.2.2.1.2
        refine hrf mem' mem' fr b dd _ (by omega) gE f0 f1 f2 f4 (fun m6 h6 => ⟨by omega, ?_⟩)
        have hF : RSF m0 m6 b k pc := ⟨h6.1.b gb, h6.2.1, h6.2.2.1, h6.2.2.2, by rw [h6.1.2.1 38 (by decide) (by decide) (by decide) (by decide) (by decide) (by decide) (by decide) (by decide) (by decide) (by decide) (by decide) (by decide) (by decide)]; exact ⟨gE.2.2.1.1, hb2⟩⟩
        have hF2 := hF.up (a := 280) (j := (3 * b + (r : Int)).toNat) (v := m6 261 37) (by decide) (by rw [wd3 (by decide)]; omega)
        exact t_finF hg (by omega) hF2 hk (kk _ hF2)
    · have hs2' : 0 ≤ s2 ∧ s2 ≤ n := by omega
      have hlen : ((L ++ C).length : Int) = L.length + C.length := by rw [List.length_append]; omega
      have hcpos : 0 < C.length := List.length_pos_iff.mpr hne
      -- the plan then
      have hW2 : WX (zup (zup pl 11 r (L.length : Int)) 12 r ((L ++ C).length : Int)) (L ++ C) := by
        have p1 : ∀ i, i ≠ 11 → i ≠ 12 → (zup (zup pl 11 r (L.length : Int)) 12 r ((L ++ C).length : Int)) i = pl i := fun i x y => by rw [zup_row _ _ _ y, zup_row _ _ _ x]
        obtain ⟨⟨w1, w2, w3⟩, w4⟩ := hW
        refine ⟨⟨?_, by rw [p1 0 (by decide) (by decide)]; exact w2, by rw [p1 1 (by decide) (by decide), p1 2 (by decide) (by decide)]; exact w3⟩, fun r2 hr2 => ?_⟩
        · unfold WP
          rw [p1 0 (by decide) (by decide), p1 1 (by decide) (by decide), p1 3 (by decide) (by decide), p1 4 (by decide) (by decide), p1 5 (by decide) (by decide), p1 6 (by decide) (by decide), p1 7 (by decide) (by decide), p1 8 (by decide) (by decide)]
          exact w1
        · by_cases x : r2 = r
          · subst x
            refine Or.inr ⟨L, C, [], by rw [List.append_nil], hne, ?_, ?_, htc⟩
            · rw [zup_row _ _ _ (show (11 : Nat) ≠ 12 by decide), zup_at]
            · rw [zup_at, hlen]
          · have := (w4 r2 hr2).app (D := C)
            unfold RuOK at this ⊢
            rw [zup_row _ _ _ (show (11 : Nat) ≠ 12 by decide), zup_ne _ _ _ _ x, zup_ne _ _ _ _ x, zup_row _ _ _ (show (12 : Nat) ≠ 11 by decide)]
            exact this
      have e00 : (zup (zup pl 11 r (L.length : Int)) 12 r ((L ++ C).length : Int)) 0 0 = pl 0 0 := by rw [zup_row _ _ _ (by decide), zup_row _ _ _ (by decide)]
      have cmid : ∀ (m0 mem : zF) (Q : Int → zF → Prop), CS m0 mem p tb n s pl L → (∀ m7, CS m0 m7 p tb n s2 (zup (zup pl 11 r (L.length : Int)) 12 r ((L ++ C).length : Int)) (L ++ C) → L_parser_readStatement_253 X (d + 1) rf Q m7 p 1) → Ci X (d + 1) 35 [(2, 3), (0, (r : Int))] rf mem (fun v m => L_parser_readStatement_253 X (d + 1) rf Q m p v) := by
        intro m0 mem Q h kk
        refine cpre m0 mem _ h (fun m5 g5 e5 => ?_)
        have ce := g5.ce
        rw [e5] at ce
        refine hco m5 m5 _ d (by omega) ce (fun m6 h6 => s_parser_readRule_62 hz.1 hz.2.1 hz.2.2.1 (s_rules_finish hz.1 hz.2.2.2.1 ⟨by omega, fun q => absurd q (by omega), fun _ => ⟨by omega, fun q => absurd q (by omega), fun _ => ⟨by omega, Or.inr rfl, ?_⟩⟩⟩))
        have g6 := h6.cs hp g5
        rw [er, g6.2.2.2.1]
        exact kk _ (g6.up (i := 12) hp (by decide) (by decide) (by decide))
      have rmid : ∀ (m0 mem : zF) (Q : zF → Prop), RSs m0 mem b tb n s pl L → (tCod tb n s2 = -1 → ∀ m7, RSF m0 m7 b 1 (tPlc tb n s2) → Q m7) → (tCod tb n s2 ≠ -1 → ∀ m7, RSs m0 m7 b tb n s2 (zup (zup pl 11 r (L.length : Int)) 12 r ((L ++ C).length : Int)) (L ++ C) → Q m7) → Cv X (e + 1) 234 [(2, 261), (0, (r : Int))] rg mem Q := by
        intro m0 mem Q h kb kk
        refine rpre m0 mem _ h (fun m1 mem' fr g1 gb gE f0 f1 f2 f4 q1 q2 q3 dd hdd => ?_)
        have hb2 := g1.2.2.1.2
        refine hro mem' mem' fr b dd _ (by omega) gE f0 f1 f2 f4 (fun qb m6 h6 => ⟨by omega, kb qb _ ?_⟩) (fun qb m6 fr' o h6 => ⟨by omega, kk qb _ ?_⟩)
        · have hF : RSF m0 m6 b 1 (tPlc tb n s2) := ⟨h6.1.b gb, h6.2.1, h6.2.2.1, h6.2.2.2, by rw [h6.1.2.1 38 (by decide) (by decide) (by decide) (by decide) (by decide) (by decide) (by decide) (by decide) (by decide) (by decide) (by decide) (by decide) (by decide)]; exact ⟨gE.2.2.1.1, hb2⟩⟩
          exact hF.up (by decide) (by rw [wd3 (by decide)]; omega)
        · have r6 : ∀ i, i ≠ 280 → (zup m6 280 (3 * b + (r : Int)).toNat (m6 261 37)) i = m6 i := fun i x => zup_row _ _ _ x
          have e37 : m6 261 37 = ((L ++ C).length : Int) := h6.2.2.2.1.1
          refine ⟨h6.1.fr (fun j _ => by rw [r6 261 (by decide)]) (r6 262 (by decide)), (h6.2.1.b gb).up (by decide) (by rw [wd3 (by decide)]; omega), by rw [r6 261 (by decide)]; exact ⟨h6.2.2.1.1, hb2⟩, ?_, ?_⟩
          · have := h6.2.2.2.1
            unfold RCo
            rw [r6 261 (by decide), r6 281 (by decide), r6 282 (by decide)]
            exact this
          · refine RQ.rule g1.2.2.2.2 hb2 hr (fun a y1 y2 y3 y4 y5 y6 => ?_) ?_ (fun j hj => ?_) ?_ (fun j hj => ?_)
            · rw [r6 a y4, h6.2.1.1 a (by omega)]
              exact q1 a y1 y2 y3
            · rw [r6 279 (by decide), h6.2.1.1 279 (by decide)]
              exact q2
            · rw [r6 279 (by decide), h6.2.1.1 279 (by decide)]
              exact q3 j hj
            · rw [zup_at, e37]
            · rw [zup_ne _ _ _ _ hj, h6.2.1.1 280 (by decide), q1 280 (by decide) (by decide) (by decide)]
      by_cases eb : tCod tb n s2 = 10059
      · have hsn : s2 < n := by
          have := tCod_rng hb hs2'.1
          omega
        have hnx2 := tNxt_rng (tb := tb) hsn
        have e01 : (zup (zup (zup pl 11 r (L.length : Int)) 12 r ((L ++ C).length : Int)) 0 0 ((zup (zup pl 11 r (L.length : Int)) 12 r ((L ++ C).length : Int)) 0 0 + 1)) 0 0 = pl 0 0 + 1 := by rw [zup_at, e00]
        refine Or.inr ⟨tNxt tb n s2, _, L ++ C, ⟨by omega, hnx2.2⟩, hW2.p00 (v := (zup (zup pl 11 r (L.length : Int)) 12 r ((L ++ C).length : Int)) 0 0 + 1) (by rw [e00]; omega), by omega, e01, fun m0 mem Q h kk => cmid m0 mem Q h (fun m7 g7 => c_fin hz g7 (by omega) (by omega) (fun _ => kk) (fun c => absurd eb c)), ?_⟩
        rw [e01]
        by_cases q : pl 0 0 + 1 = 80 ∧ tNxt tb n s2 < n
        · exact Or.inr ⟨q.1, q.2, fun m0 mem Q h kk => rmid m0 mem _ h (fun c => absurd c (by omega)) (fun _ m7 g7 => t_finishes hg hb hn g7 (by omega) hs2' (by omega) (fun c => absurd eb c) (fun _ _ _ => kk) (fun _ c => absurd q c))⟩
        · exact Or.inl ⟨by omega, fun m0 mem Q h kk => rmid m0 mem _ h (fun c => absurd c (by omega)) (fun _ m7 g7 => t_finishes hg hb hn g7 (by omega) hs2' (by omega) (fun c => absurd eb c) (fun _ c1 c2 => absurd ⟨c1, c2⟩ q) (fun _ _ m8 g8 => kk m8 g8.p00))⟩
      · exact Or.inl ⟨1, tPlc tb n s2, by decide, tPlc_I hs2' hn.2, fun m0 mem Q h kk => cmid m0 mem Q h (fun m7 g7 => c_fin hz g7 (by omega) (by omega) (fun c => absurd c eb) (fun _ => kk)), fun m0 mem Q h kk => rmid m0 mem _ h (fun _ m7 h7 => t_finF hg (by omega) h7 (by decide) (kk m7 h7)) (fun _ m7 g7 => t_finishes hg hb hn g7 (by omega) hs2' (by omega) (fun _ => kk) (fun c => absurd c eb) (fun c => absurd c eb))⟩
  · refine Or.inl ⟨6, tPlc tb n s, by decide, tPlc_I hs' hn.2, fun m0 mem Q h kk => ?_, fun m0 mem Q h kk => ?_⟩
    · refine s_parser_readRule hz.1 hz.2.1 hz.2.2.1 (told m0 mem _ h (fun _ => ⟨by decide, fun c => absurd c (by decide), fun _ => h.ce.refuse hz (by omega) (fun m2 h2 => ⟨Or.inl rfl, c_finF hz (h2.cs hp h) kk⟩)⟩) (fun q => absurd q ht))
    · have hb2 := h.2.2.1.2
      have e279 := (h.2.2.2.2.2.2.2.2.2.2.2 r hr).1
      refine s_m_reading hg ?_
      rw [h.2.2.1.1, e279]
      have hI : inI (pl 11 r) := by
        rcases hru with x | ⟨A, C, B, h1, h2, h3, h4, h5⟩
        · exact absurd x.1 ht
        · have hlen : L.length = A.length + C.length + B.length := by rw [h1, List.length_append, List.length_append]
          omega
      refine ⟨by omega, hI, fun q => absurd q ht, fun _ => ?_⟩
      have hF := h.flt (k := 6) (pc := s) hs' hn.2
      refine s_m_reading_25 hg (t_counts hg (by omega) hb hn hs' h.1 (Or.inr rfl) (fun c => absurd c (by decide)) (fun _ => ⟨by decide, fun c => absurd rfl c, fun _ => t_finF hg (by omega) hF (by decide) (kk _ ?_)⟩))
      rw [tPlc_s hcd]
      exact hF
end RRULE
