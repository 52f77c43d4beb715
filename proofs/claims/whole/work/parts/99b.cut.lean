/-! the program's tokens: all of them, the next one -/
/-- c tokens are cut -/
def TT (mem : zF) (tb : Nat → Int) (n : Int) (c : Nat) : Prop := mem 4 3 = (c : Int) ∧ mem 4 4 = n ∧ ∀ i : Nat, i < c → mem 7 i = tI tb n i ∧ mem 6 i = tCod tb n (tI tb n i)
/-- all are cut, up to the end or the first that may stand nowhere -/
def TD (mem : zF) (tb : Nat → Int) (n : Int) (c : Nat) : Prop := TT mem tb n c ∧ c ≤ 1600 ∧ ((tI tb n c = n ∧ ∀ i : Nat, i < c → tCod tb n (tI tb n i) ≠ -1) ∨ (∃ b : Nat, c = b + 1 ∧ tCod tb n (tI tb n b) = -1 ∧ mem 4 5 = tBp tb n (tI tb n b) ∧ ∀ i : Nat, i < b → tCod tb n (tI tb n i) ≠ -1))
/-- the program stands at the token that begins at s -/
def TK (mem : zF) (tb : Nat → Int) (n s : Int) : Prop := ∃ c i : Nat, TD mem tb n c ∧ mem 4 6 = (i : Int) ∧ i ≤ c ∧ s = tI tb n i ∧ (i = c → s = n) ∧ mem 4 8 = tCod tb n s ∧ mem 4 9 = s ∧ mem 4 10 = tPlc tb n s
theorem TK.c {mem : zF} {tb : Nat → Int} {n s : Int} (h : TK mem tb n s) : mem 4 8 = tCod tb n s := by obtain ⟨_, _, h⟩ := h; exact h.2.2.2.2.2.1
theorem TK.s {mem : zF} {tb : Nat → Int} {n s : Int} (h : TK mem tb n s) : mem 4 9 = s := by obtain ⟨_, _, h⟩ := h; exact h.2.2.2.2.2.2.1
theorem TK.p {mem : zF} {tb : Nat → Int} {n s : Int} (h : TK mem tb n s) : mem 4 10 = tPlc tb n s := by obtain ⟨_, _, h⟩ := h; exact h.2.2.2.2.2.2.2
theorem TK.r {mem : zF} {tb : Nat → Int} {n s : Int} (h : TK mem tb n s) (hn : 0 ≤ n) : 0 ≤ s ∧ s ≤ n := by
  obtain ⟨c, i, h⟩ := h
  rw [h.2.2.2.1]
  exact tI_rng hn i
theorem TT.fr {mem mem' : zF} {tb : Nat → Int} {n : Int} {c : Nat} (h : TT mem tb n c) (e3 : mem' 4 3 = mem 4 3) (e4 : mem' 4 4 = mem 4 4) (e6 : mem' 6 = mem 6) (e7 : mem' 7 = mem 7) : TT mem' tb n c := ⟨e3.trans h.1, e4.trans h.2.1, fun i hi => by rw [e6, e7]; exact h.2.2 i hi⟩
theorem TK.fr {mem mem' : zF} {tb : Nat → Int} {n s : Int} (h : TK mem tb n s) (e4 : mem' 4 = mem 4) (e6 : mem' 6 = mem 6) (e7 : mem' 7 = mem 7) : TK mem' tb n s := by
  obtain ⟨c, i, ⟨h1, h2, h3⟩, h4⟩ := h
  refine ⟨c, i, ⟨h1.fr (by rw [e4]) (by rw [e4]) e6 e7, h2, ?_⟩, ?_⟩
  · rw [e4]; exact h3
  · rw [e4]; exact h4
/-- the frame of the next token -/
def zFN (mem mem' : zF) : Prop := (∀ i, i ≠ 4 → mem' i = mem i) ∧ ∀ j, j ≠ 6 → j ≠ 8 → j ≠ 9 → j ≠ 10 → mem' 4 j = mem 4 j
theorem zFN.rfl {a : zF} : zFN a a := ⟨fun _ _ => Eq.refl _, fun _ _ _ _ _ => Eq.refl _⟩
theorem zFN.up {a b : zF} {j : Nat} {v : Int} (h : zFN a b) (hj : j = 6 ∨ j = 8 ∨ j = 9 ∨ j = 10) : zFN a (zup b 4 j v) := ⟨fun i x => by rw [zup_row _ _ _ x]; exact h.1 i x, fun k p q r s => by rw [zup_ne _ _ _ _ (by omega)]; exact h.2 k p q r s⟩
section NEXT
variable {X : zX} {rf : zF} {tb : Nat → Int} {n : Int}
theorem u_nextj {d : Nat} {Q : zF → Prop} {mem : zF} {c j : Nat} (hR : zall rf zRK = true) (hn : 0 ≤ n ∧ n ≤ 1600) (hb : TBy tb n) (h : TD mem tb n c) (h6 : mem 4 6 = (j : Int) - 1) (hj : j ≤ c) (he : j = c → tI tb n c = n) (kk : ∀ mem', zFN mem mem' → TK mem' tb n (tI tb n j) → Q mem') : Cv X d 132 [(2, 4)] rf mem Q := by
  obtain ⟨⟨h3, h4, ht⟩, hc, hor⟩ := h
  have hI := tI_rng (tb := tb) hn.1 j
  refine s_tokens_next hR ?_
  rw [h6, h3]
  refine ⟨by omega, fun q => absurd q (by omega), fun _ => ?_⟩
  have e1 : (j : Int) - 1 + 1 = (j : Int) := by omega
  rw [e1]
  generalize hm1 : zup mem 4 6 (j : Int) = m1
  have f1 : zFN mem m1 := by rw [← hm1]; exact zFN.rfl.up (Or.inl rfl)
  have a6 : m1 4 6 = (j : Int) := by rw [← hm1, zup_at]
  have a3 : m1 4 3 = (c : Int) := by rw [f1.2 3 (by decide) (by decide) (by decide) (by decide)]; exact h3
  have a4 : m1 4 4 = n := by rw [f1.2 4 (by decide) (by decide) (by decide) (by decide)]; exact h4
  have a5 : m1 4 5 = mem 4 5 := f1.2 5 (by decide) (by decide) (by decide) (by decide)
  have fin : ∀ (cd st : Int), cd = tCod tb n (tI tb n j) → st = tI tb n j → (tCod tb n (tI tb n j) = -1 → m1 4 5 = tBp tb n (tI tb n j)) → L_tokens_next_100 X d rf Q (zup m1 4 8 cd) st := by
    intro cd st e1 e2 hbad
    have a8 : (zup m1 4 8 cd) 4 8 = tCod tb n (tI tb n j) := by rw [zup_at]; exact e1
    refine s_tokens_next_100 hR ?_
    rw [a8, e2]
    have done : ∀ pl : Int, pl = tPlc tb n (tI tb n j) → Q (zup (zup (zup m1 4 8 cd) 4 9 (tI tb n j)) 4 10 pl) := by
      intro pl epl
      refine kk _ (((f1.up (Or.inr (Or.inl rfl))).up (Or.inr (Or.inr (Or.inl rfl)))).up (Or.inr (Or.inr (Or.inr rfl)))) ?_
      generalize hm2 : zup (zup (zup m1 4 8 cd) 4 9 (tI tb n j)) 4 10 pl = m2
      have f2 : zFN m1 m2 := by rw [← hm2]; exact ((zFN.rfl.up (Or.inr (Or.inl rfl))).up (Or.inr (Or.inr (Or.inl rfl)))).up (Or.inr (Or.inr (Or.inr rfl)))
      have b3 := f2.2 3 (by decide) (by decide) (by decide) (by decide)
      have b4 := f2.2 4 (by decide) (by decide) (by decide) (by decide)
      have b5 := f2.2 5 (by decide) (by decide) (by decide) (by decide)
      refine ⟨c, j, ⟨⟨b3.trans a3, b4.trans a4, fun i hi => ?_⟩, hc, ?_⟩, ?_, hj, rfl, fun q => by rw [q]; exact he q, ?_, ?_, ?_⟩
      · rw [f2.1 7 (by decide), f2.1 6 (by decide), f1.1 7 (by decide), f1.1 6 (by decide)]
        exact ht i hi
      · rw [b5, a5]; exact hor
      · rw [← hm2, zup_ne _ _ _ _ (by decide), zup_ne _ _ _ _ (by decide), zup_ne _ _ _ _ (by decide)]; exact a6
      · rw [← hm2, zup_ne _ _ _ _ (by decide), zup_ne _ _ _ _ (by decide)]; exact a8
      · rw [← hm2, zup_ne _ _ _ _ (by decide), zup_at]
      · rw [← hm2, zup_at]; exact epl
    refine ⟨tCod_I hb hI.1, fun q => done _ (by unfold tPlc; rw [if_neg q]), fun q => done _ ?_⟩
    rw [zup_ne _ _ _ _ (by decide), hbad q]
    unfold tPlc
    rw [if_pos q]
  refine s_tokens_next_21 hR ?_
  rw [a6, a3]
  refine ⟨by omega, fun q => absurd q (by omega), fun _ => ⟨by omega, fun q => ?_, fun q => ⟨by omega, fun q2 => absurd q2 (by omega), fun _ => ?_⟩⟩⟩
  · have ejc : j = c := by omega
    have en : tI tb n j = n := by rw [ejc]; exact he ejc
    refine s_tokens_next_56 hR ⟨by decide, fun _ => ?_, fun q => absurd rfl q⟩
    refine s_tokens_next_76 hR ⟨by decide, fun _ => ?_, fun q => absurd rfl q⟩
    refine fin _ _ ?_ ?_ (fun q => ?_)
    · rw [en, tCod_E (by omega)]
    · rw [a4, en]
    · rw [en, tCod_E (by omega)] at q
      exact absurd q (by decide)
  · have hjc : j < c := by omega
    have hrow := ht j hjc
    refine s_tokens_next_56 hR ⟨by decide, fun q => absurd q (by decide), fun _ => ⟨by omega, ?_⟩⟩
    rw [a6]
    refine s_tokens_next_76 hR ⟨by decide, fun q => absurd q (by decide), fun _ => ⟨by omega, ?_⟩⟩
    rw [a6]
    have ej : ((j : Int)).toNat = j := by omega
    rw [ej, f1.1 6 (by decide), f1.1 7 (by decide), hrow.1, hrow.2]
    refine fin _ _ rfl rfl (fun q => ?_)
    rw [a5]
    rcases hor with ⟨_, h⟩ | ⟨b, e1, e2, e3, e4⟩
    · exact absurd q (h j hjc)
    · have : j = b := by
        by_cases x : j < b
        · exact absurd q (e4 j x)
        · omega
      rw [this]
      exact e3
/-- on to the next token -/
theorem u_tnext {d : Nat} {Q : zF → Prop} {mem : zF} {s : Int} (hR : zall rf zRK = true) (hn : 0 ≤ n ∧ n ≤ 1600) (hb : TBy tb n) (h : TK mem tb n s) (hs : s < n) (hc : tCod tb n s ≠ -1) (kk : ∀ mem', zFN mem mem' → TK mem' tb n (tNxt tb n s) → Q mem') : Cv X d 132 [(2, 4)] rf mem Q := by
  obtain ⟨c, i, hD, h6, hic, hsi, hie, _⟩ := h
  have hi : i < c := by
    by_cases q : i = c
    · have := hie q; omega
    · omega
  refine u_nextj (c := c) (j := i + 1) hR hn hb hD (by rw [h6]; omega) (by omega) (fun q => ?_) (fun mem' f h => ?_)
  · rcases hD.2.2 with h | ⟨b, e1, e2, _⟩
    · exact h.1
    · have : b = i := by omega
      rw [this, ← hsi] at e2
      exact absurd e2 hc
  · refine kk mem' f ?_
    rw [hsi]
    exact h
end NEXT
section CUT4
variable {X : zX} {rf : zF} {p : Nat} {pl sc : zF} {tb : Nat → Int} {n : Int}
/-- the frame of the cut -/
def zFC (mem mem' : zF) : Prop := ∀ i, i ≠ 4 → i ≠ 6 → i ≠ 7 → mem' i = mem i
theorem TX.fc {mem mem' : zF} (h : TX rf mem p pl sc tb n) (f : zFC mem mem') : TX rf mem' p pl sc tb n := by
  have hp := h.1.e
  refine ⟨⟨h.1.1, h.1.pc.fr (fun s h1 h2 => f _ (by omega) (by omega) (by omega)), h.1.s.fr (fun i i1 i2 => f i (by omega) (by omega) (by omega))⟩, ?_, ?_, ?_⟩
  · have := h.2.1
    unfold TP
    rw [f 1 (by decide) (by decide) (by decide), f 2 (by decide) (by decide) (by decide), f 261 (by decide) (by decide) (by decide), f 262 (by decide) (by decide) (by decide)]
    exact this
  · rw [f 1 (by decide) (by decide) (by decide)]; exact h.2.2.1
  · intro j hj
    rw [f 5 (by decide) (by decide) (by decide)]
    exact h.2.2.2 j hj
theorem u_cut_26 {D : Nat} {Q : zF → Prop} {m0 : zF} (hD : 2 ≤ D) (hR : zall rf zRK = true) (kk : ∀ mem', zFC m0 mem' → TK mem' tb n (tskp tb n 0) → Q mem') : ∀ (m : Nat) {mem : zF} {s last nb k : Int} {c : Nat}, TX rf mem p pl sc tb n → zFC m0 mem → TT mem tb n c → (∀ i : Nat, i < c → tCod tb n (tI tb n i) ≠ -1) → mem 4 7 = s → 0 ≤ s → s ≤ n → n - s ≤ m → tskp tb n s = tI tb n c → nb = (if tAdj tb s then 1 else 0) → (c : Int) ≤ s → 0 ≤ k → k ≤ s → last ≠ -1 → inI last → L_tokens_cut_26 X D rf Q mem last nb k := by
  have exit : ∀ (mem : zF) (c : Nat), TX rf mem p pl sc tb n → zFC m0 mem → TD mem tb n c → (c = 0 → tI tb n c = n) → Cv X D 132 [(2, 4)] rf (zup mem 4 6 (-1)) (fun mem2 => Q mem2) := by
    intro mem c hT f0 h hc0
    obtain ⟨h1, h2, h3⟩ := h
    refine u_nextj (c := c) (j := 0) hR hT.len hT.by ⟨h1.fr (zup_ne _ _ _ _ (by decide)) (zup_ne _ _ _ _ (by decide)) (zup_row _ _ _ (by decide)) (zup_row _ _ _ (by decide)), h2, ?_⟩ (by rw [zup_at]; rfl) (by omega) (fun q => by rw [← q]; rw [← q] at hc0; exact hc0 rfl) (fun mem' f h => ?_)
    · rw [zup_ne _ _ _ _ (by decide)]
      exact h3
    · refine kk mem' (fun i i1 i2 i3 => ?_) h
      rw [f.1 i i1, zup_row _ _ _ i1]
      exact f0 i i1 i2 i3
  intro m
  induction m with
  | zero =>
    intro mem s last nb k c hT f0 hTT hno h7 h0 hsn hm hsk hnb hcs hk0 hks hl hlI
    have hn := hT.len
    have es : s = n := by omega
    have eT : tI tb n c = n := by rw [← hsk, es, tskp_e]
    have hE := exit mem c hT f0 ⟨hTT, by omega, Or.inl ⟨eT, hno⟩⟩ (fun _ => eT)
    refine s_tokens_cut_26 hR ?_
    rw [h7, hTT.2.1]
    exact ⟨by omega, fun _ => hE, fun _ => ⟨by omega, fun _ => hE, fun q => absurd (by omega) q⟩⟩
  | succ m ih =>
    intro mem s last nb k c hT f0 hTT hno h7 h0 hsn hm hsk hnb hcs hk0 hks hl hlI
    have hn := hT.len
    by_cases es : s = n
    · have eT : tI tb n c = n := by rw [← hsk, es, tskp_e]
      have hE := exit mem c hT f0 ⟨hTT, by omega, Or.inl ⟨eT, hno⟩⟩ (fun _ => eT)
      refine s_tokens_cut_26 hR ?_
      rw [h7, hTT.2.1]
      exact ⟨by omega, fun _ => hE, fun _ => ⟨by omega, fun _ => hE, fun q => absurd (by omega) q⟩⟩
    · have hs : s < n := by omega
      have hby := hT.b h0 hs
      refine s_tokens_cut_26 hR ?_
      rw [h7, hTT.2.1]
      refine ⟨by omega, fun q => absurd q (by omega), fun _ => ⟨by omega, fun q => absurd q (by omega), fun _ => ⟨hlI, fun q => absurd q hl, fun _ => hT.at (by omega) ?_⟩⟩⟩
      have et : tAt tb n s = tb s.toNat := by unfold tAt; rw [if_pos (by omega)]
      rw [et]
      have blank : zisB (tb s.toNat) = true → L_tokens_cut_74 X D rf Q mem last k := by
        intro hb
        refine s_tokens_cut_74 hR ?_
        rw [h7]
        have fz : zFK mem (zup mem 4 7 (s + 1)) := zFK.rfl.up (Or.inr rfl)
        refine ih (c := c) (s := s + 1) (hT.fk fz) (fun i i1 i2 i3 => by rw [fz.1 i i1]; exact f0 i i1 i2 i3) (hTT.fr (zup_ne _ _ _ _ (by decide)) (zup_ne _ _ _ _ (by decide)) (zup_row _ _ _ (by decide)) (zup_row _ _ _ (by decide))) hno (zup_at _ _ _ _) (by omega) (by omega) (by omega) (by rw [← tskp_b hs hb]; exact hsk) ?_ (by omega) (by omega) (by omega) hl hlI
        have e1 : s + 1 - 1 = s := by omega
        rw [if_neg]
        intro ⟨_, a⟩
        rw [e1] at a
        have hb2 := of_decide_eq_true hb
        rcases a with a | a
        · have := of_decide_eq_true a; omega
        · have := of_decide_eq_true a; omega
      refine ⟨by omega, fun q => blank (by unfold zisB; rw [decide_eq_true_eq]; omega), fun q1 => ⟨by omega, fun q2 => ?_, fun q2 => blank (by unfold zisB; rw [decide_eq_true_eq]; omega)⟩⟩
      have nb0 : zisB (tb s.toNat) = false := by unfold zisB; exact decide_eq_false (by omega)
      have eI : tI tb n c = s := by rw [← hsk, tskp_n hs nb0]
      refine u_one hD hT ⟨h0, hs⟩ h7 hnb (fun m2 f2 hbad hend => ?_)
      have hT2 := hT.fk f2
      have t3 : m2 4 3 = (c : Int) := by rw [f2.2 3 (by decide) (by decide)]; exact hTT.1
      refine s_tokens_keepToken hR ?_
      rw [t3]
      refine ⟨by omega, fun q => absurd q (by omega), fun _ => ⟨by omega, fun q => absurd q (by omega), fun _ => ⟨by omega, by omega, ?_⟩⟩⟩
      have ec : ((c : Int)).toNat = c := by omega
      rw [ec, h7]
      generalize hm3 : zup (zup (zup m2 6 c (tCod tb n s)) 7 c s) 4 3 ((c : Int) + 1) = m3
      have f3 : zFC m2 m3 := fun i i1 i2 i3 => by rw [← hm3, zup_row _ _ _ i1, zup_row _ _ _ i3, zup_row _ _ _ i2]
      have hT3 := hT2.fc f3
      have F3 : zFC m0 m3 := fun i i1 i2 i3 => by rw [f3 i i1 i2 i3, f2.1 i i1]; exact f0 i i1 i2 i3
      have r4 : ∀ j, j ≠ 3 → m3 4 j = m2 4 j := fun j hj => by rw [← hm3, zup_ne _ _ _ _ hj, zup_row _ _ _ (by decide), zup_row _ _ _ (by decide)]
      have TT3 : TT m3 tb n (c + 1) := by
        refine ⟨by rw [← hm3, zup_at]; omega, by rw [r4 4 (by decide), f2.2 4 (by decide) (by decide)]; exact hTT.2.1, fun i hi => ?_⟩
        by_cases x : i = c
        · rw [x, eI]
          refine ⟨?_, ?_⟩
          · rw [← hm3, zup_row _ _ _ (by decide), zup_at]
          · rw [← hm3, zup_row _ _ _ (by decide), zup_row _ _ _ (by decide), zup_at]
        · have := hTT.2.2 i (by omega)
          rw [← hm3, zup_row _ _ _ (show (7 : Nat) ≠ 4 by decide), zup_row _ _ _ (show (6 : Nat) ≠ 4 by decide), zup_ne _ _ _ _ x, zup_row _ _ _ (show (6 : Nat) ≠ 7 by decide), zup_row _ _ _ (show (7 : Nat) ≠ 6 by decide), zup_ne _ _ _ _ x, f2.1 7 (by decide), f2.1 6 (by decide)]
          exact this
      have hcI := tCod_I hT.by h0
      by_cases hcb : tCod tb n s = -1
      · rw [hcb]
        refine ⟨by decide, fun _ => ?_, fun q => absurd (by decide) q⟩
        have hbb := hbad hcb
        have hE := exit m3 (c + 1) hT3 F3 ⟨TT3, by omega, Or.inr ⟨c, rfl, by rw [eI]; exact hcb, by rw [r4 5 (by decide), eI]; exact hbb.1, hno⟩⟩ (fun q => absurd q (by omega))
        refine s_tokens_cut_26 hR ?_
        rw [r4 7 (by decide), TT3.2.1]
        exact ⟨by omega, fun _ => hE, fun _ => ⟨⟨hbb.2, by omega⟩, fun _ => hE, fun _ => ⟨by decide, fun _ => hE, fun q => absurd rfl q⟩⟩⟩
      · have he := tEnd_rng (tb := tb) hs
        have ha := tAdj_end hT.by h0 hs hcb
        have go : ∀ nb2 : Int, nb2 = (if tAdj tb (tEnd tb n s) then 1 else 0) → L_tokens_cut_26 X D rf Q m3 (tCod tb n s) nb2 (k + 1) := by
          intro nb2 e2
          refine ih (c := c + 1) (s := tEnd tb n s) hT3 F3 TT3 (fun i hi => ?_) (by rw [r4 7 (by decide)]; exact hend hcb) (by omega) he.2 (by omega) (by show tskp tb n (tEnd tb n s) = tNxt tb n (tI tb n c); rw [eI]; rfl) e2 (by omega) (by omega) (by omega) hcb hcI
          by_cases x : i = c
          · rw [x, eI]; exact hcb
          · exact hno i (by omega)
        refine ⟨hcI, fun q => go 1 (by rw [if_pos (ha.mpr (by omega))]), fun q => ⟨hcI, fun q2 => go 0 (by rw [if_neg (fun a => (ha.mp a) ⟨by omega, q2⟩)]), fun q2 => go 1 (by rw [if_pos (ha.mpr (by omega))])⟩⟩
/-- the text is cut; the program stands at the first token -/
theorem u_cut {D : Nat} {Q : zF → Prop} {mem : zF} (hD : 3 ≤ D) (hT : TX rf mem p pl sc tb n) (kk : ∀ mem', zFC mem mem' → TK mem' tb n (tskp tb n 0) → Q mem') : Cv X D 127 [(2, 4), (2, 1)] rf mem Q := by
  obtain ⟨d, rfl⟩ : ∃ d, D = d + 1 := ⟨D - 1, by omega⟩
  have hn := hT.len
  refine s_tokens_cut hT.1.r ?_
  rw [hT.2.2.1]
  generalize hm1 : zup (zup (zup mem 4 3 0) 4 4 n) 4 7 0 = m1
  have f1 : zFC mem m1 := fun i i1 i2 i3 => by rw [← hm1, zup_row _ _ _ i1, zup_row _ _ _ i1, zup_row _ _ _ i1]
  refine u_cut_26 (m0 := mem) (by omega) hT.1.r kk n.toNat (s := 0) (c := 0) (hT.fc f1) f1 ⟨?_, ?_, fun i hi => absurd hi (by omega)⟩ (fun i hi => absurd hi (by omega)) ?_ (by decide) hn.1 (by omega) rfl ?_ (by decide) (by decide) (by decide) (by decide) (by decide)
  · rw [← hm1, zup_ne _ _ _ _ (by decide), zup_ne _ _ _ _ (by decide), zup_at]; rfl
  · rw [← hm1, zup_ne _ _ _ _ (by decide), zup_at]
  · rw [← hm1, zup_at]
  · rw [if_neg (fun a => absurd a.1 (by decide))]
end CUT4
