theorem zfin_ok {on idx a b c f : Nat} (h : zfin on idx a b c f = true) : ∃ cq, zcl[a]? = some cq ∧ b < cq.2.2 ∧ Cond.fieldLink (zcn on) idx (cq.2.1 b).1 (cq.2.1 b).2.1 (cq.2.1 b).2.2.1 ∈ zTs ∧ zftc (zfty zcl a b) = c ∧ (f = 0 → (cq.2.1 b).2.2.2 = false) ∧ (f = 1 → (cq.2.1 b).2.2.2 = true) ∧ (cq.2.1 b).1 = zcn a ∧ c ≤ 3 := by
  unfold zfin at h
  obtain ⟨q, hq, hh⟩ := List.any_eq_true.mp h
  have hk := List.all_eq_true.mp zFL_ok q hq
  obtain ⟨q1, q2, q3, q4, q5, q6, q7⟩ := q
  simp only [Bool.and_eq_true, Bool.or_eq_true, beq_iff_eq] at hh
  obtain ⟨⟨⟨⟨⟨rfl, rfl⟩, rfl⟩, rfl⟩, rfl⟩, hf⟩ := hh
  unfold zflc at hk
  dsimp only at hk
  split at hk
  · cases hk
  · next cq hcq =>
    simp only [Bool.and_eq_true, decide_eq_true_eq] at hk
    obtain ⟨⟨⟨⟨⟨k1, k2⟩, k3⟩, k4⟩, k5⟩, k6⟩ := hk
    refine ⟨cq, hcq, k1, zwp_ok k2, k3, fun e => ?_, fun e => ?_, k5, k6⟩
    · rw [k4]
      have : q6 = 0 := by omega
      subst this
      rfl
    · rw [k4]
      have : q6 = 1 := by omega
      subst this
      rfl
theorem zmin_ok {on idx b kind a : Nat} (h : zmin on idx b kind a = true) : ∃ pos, zmlc (on, idx, b, kind, a, pos) = true := by
  unfold zmin at h
  obtain ⟨q, hq, hh⟩ := List.any_eq_true.mp h
  have hk := zML_ok q hq
  obtain ⟨q1, q2, q3, q4, q5, q6⟩ := q
  simp only [Bool.and_eq_true, beq_iff_eq] at hh
  obtain ⟨⟨⟨⟨rfl, rfl⟩, rfl⟩, rfl⟩, rfl⟩ := hh
  exact ⟨q6, hk⟩
theorem zmlc_0 {on idx b a pos : Nat} (h : zmlc (on, idx, b, 0, a, pos) = true) : zCOK zcl zTs zinf zmn zret (zcn on) (.invokevirtual idx) a b := by
  unfold zmlc at h
  dsimp only at h
  split at h
  · cases h
  · next p3 f4 p4 hm =>
    rw [if_pos rfl] at h
    simp only [Bool.and_eq_true, Bool.or_eq_true, decide_eq_true_eq] at h
    obtain ⟨⟨⟨⟨⟨⟨h1, h2⟩, h3⟩, h4⟩, h5⟩, h6⟩, h7⟩ := h
    refine ⟨zwp_ok h1, zwp_ok h2, zws2_ok h3, h4, ?_, h6, h7⟩
    rcases h5 with h5 | h5
    · exact Or.inl h5
    · split at h5
      · cases h5
      · next cq hc =>
        simp only [Bool.and_eq_true, decide_eq_true_eq] at h5
        exact Or.inr ⟨cq, hc, h5.1, h5.2⟩
theorem zmlc_1 {on idx b a pos : Nat} (h : zmlc (on, idx, b, 1, a, pos) = true) : zCOK zcl zTs zinf zmn zret (zcn on) (.invokestatic idx) a b := by
  unfold zmlc at h
  dsimp only at h
  split at h
  · cases h
  · next p3 f4 p4 hm =>
    rw [if_neg (by decide), if_pos rfl] at h
    simp only [Bool.and_eq_true, decide_eq_true_eq] at h
    obtain ⟨⟨h1, h2⟩, h3⟩ := h
    exact ⟨zwp_ok h1, zwp_ok h2, h3⟩
theorem zmlc_2 {on idx b a pos kind : Nat} (hkind : kind = 2 ∨ kind = 3) (h : zmlc (on, idx, b, kind, a, pos) = true) : zCOK zcl zTs zinf zmn zret (zcn on) (.invokespecial idx) a b := by
  unfold zmlc at h
  dsimp only at h
  split at h
  · cases h
  · next p3 f4 p4 hm =>
    rw [if_neg (by omega), if_neg (by omega)] at h
    simp only [Bool.and_eq_true, decide_eq_true_eq] at h
    obtain ⟨⟨⟨⟨⟨⟨⟨h1, h2⟩, h3⟩, h4⟩, h5⟩, h6⟩, h7⟩, h8⟩ := h
    refine ⟨?_, h2, zwp_ok h3, h4, h5, h6, h7, h8⟩
    split at h1
    · exact Or.inl (zwp_ok h1)
    · exact Or.inr ⟨_, of_decide_eq_true h1⟩
theorem zrc_ok {t : Option FieldType} : (zrc t = 0 → t = some .int) ∧ (zrc t = 1 → t = some .long) ∧ (zrc t = 3 → t = some .boolean) ∧ (zrc t = 5 → t = some .char) ∧ (zrc t = 6 → t = some .byte) ∧ (zrc t = 4 → t = none) ∧ (zrc t = 2 → ∃ cn, t = some (.object cn)) := by
  cases t with
  | none => simp [zrc]
  | some t => cases t <;> simp [zrc]
theorem zoi_in {on idx : Nat} (h : zoi.any (fun q => q.1 == on && q.2.1 == idx) = true) : Cond.methodLink (zcn on) idx Lib.objectInit ∈ zTs := by
  obtain ⟨q, hq, hh⟩ := List.any_eq_true.mp h
  have hk := List.all_eq_true.mp zoi_ok q hq
  simp only [Bool.and_eq_true, beq_iff_eq] at hh
  obtain ⟨rfl, rfl⟩ := hh
  exact zwp_ok hk
set_option maxHeartbeats 1000000 in
theorem zce_ok {M on ini rc pc : Nat} {i : Instr} {len a b c : Nat} (hon : (zmn M).cls = zcn on) (hini : ini = 1 → (zmn M).name = "<init>") (hrc : zrc (zret M) = rc) (h : zce on ini rc pc (i, len, a, b, c) = true) :
    (c = 101 → zCOK zcl zTs zinf zmn zret (zmn M).cls i a b ∧ zMOK zTs zinf zmn zbyt zret b) ∧ (c = 102 → zROK (zret M) i b) ∧ (c ≠ 101 → c ≠ 102 → zEOK zcl zTs (zmn M).cls (zmn M).name pc i len a b c) := by
  rw [hon]
  unfold zce at h
  dsimp only at h
  refine ⟨fun hc => ?_, fun hc => ?_, fun h1 h2 => ?_⟩
  · rw [if_pos hc] at h
    cases i <;> dsimp only at h <;> first | (cases h; done) | skip
    case invokevirtual idx =>
      rw [Bool.and_eq_true] at h
      obtain ⟨pos, hp⟩ := zmin_ok h.1
      exact ⟨zmlc_0 hp, zMF_ok (of_decide_eq_true h.2)⟩
    case invokestatic idx =>
      rw [Bool.and_eq_true] at h
      obtain ⟨pos, hp⟩ := zmin_ok h.1
      exact ⟨zmlc_1 hp, zMF_ok (of_decide_eq_true h.2)⟩
    case invokespecial idx =>
      rw [Bool.and_eq_true, Bool.or_eq_true] at h
      rcases h.1 with q | q
      · obtain ⟨pos, hp⟩ := zmin_ok q
        exact ⟨zmlc_2 (Or.inl rfl) hp, zMF_ok (of_decide_eq_true h.2)⟩
      · obtain ⟨pos, hp⟩ := zmin_ok q
        exact ⟨zmlc_2 (Or.inr rfl) hp, zMF_ok (of_decide_eq_true h.2)⟩
  · subst hc
    rw [if_neg (by decide), if_pos rfl] at h
    have hz := zrc_ok (t := zret M)
    cases i <;> dsimp only at h <;> first | (cases h; done) | skip
    · simp only [beq_iff_eq] at h
      exact hz.2.2.2.2.2.2 (hrc.trans h)
    · simp only [Bool.and_eq_true, Bool.or_eq_true, beq_iff_eq] at h
      obtain ⟨rfl, h⟩ := h
      subst hrc
      rcases h with ((q | q) | q) | q
      · exact Or.inl ⟨q, hz.1 q⟩
      · exact Or.inr (Or.inl ⟨q, hz.2.2.1 q⟩)
      · exact Or.inr (Or.inr (Or.inl ⟨q, hz.2.2.2.1 q⟩))
      · exact Or.inr (Or.inr (Or.inr ⟨q, hz.2.2.2.2.1 q⟩))
    · simp only [beq_iff_eq] at h
      exact hz.2.1 (hrc.trans h)
    · simp only [beq_iff_eq] at h
      exact hz.2.2.2.2.2.1 (hrc.trans h)
  · rw [if_neg h1, if_neg h2] at h
    unfold zEOK
    cases i <;> dsimp only at h ⊢ <;> first | trivial | (exact beq_iff_eq.mp h) | skip
    case ldc idx =>
      refine ⟨fun e => ?_, fun e => ?_⟩
      · rw [if_pos e] at h
        obtain ⟨q, hq, hh⟩ := List.any_eq_true.mp h
        have hk := List.all_eq_true.mp zKI_ok q hq
        simp only [Bool.and_eq_true, beq_iff_eq] at hh
        obtain ⟨⟨rfl, rfl⟩, rfl⟩ := hh
        exact zwp_ok hk
      · rw [if_neg (by omega)] at h
        simp only [Bool.and_eq_true, beq_iff_eq] at h
        obtain ⟨rfl, rfl⟩ := h
        exact ⟨rfl, rfl⟩
    case ldc_w idx =>
      obtain ⟨q, hq, hh⟩ := List.any_eq_true.mp h
      have hk := List.all_eq_true.mp zKI_ok q hq
      simp only [Bool.and_eq_true, beq_iff_eq] at hh
      obtain ⟨⟨rfl, rfl⟩, rfl⟩ := hh
      exact zwp_ok hk
    case ldc2_w idx =>
      obtain ⟨q, hq, hh⟩ := List.any_eq_true.mp h
      have hk := List.all_eq_true.mp zKL_ok q hq
      simp only [Bool.and_eq_true, beq_iff_eq] at hh
      obtain ⟨⟨⟨rfl, rfl⟩, rfl⟩, rfl⟩ := hh
      exact zwp_ok hk
    case ifCond k off => rw [Bool.and_eq_true] at h; exact ⟨of_decide_eq_true h.1, beq_iff_eq.mp h.2⟩
    case if_icmp k off => rw [Bool.and_eq_true] at h; exact ⟨of_decide_eq_true h.1, beq_iff_eq.mp h.2⟩
    case goto off => rw [Bool.and_eq_true] at h; exact ⟨of_decide_eq_true h.1, beq_iff_eq.mp h.2⟩
    case getfield idx =>
      rw [Bool.and_eq_true] at h
      refine ⟨beq_iff_eq.mp h.1, fun e => ?_, fun e => ?_, fun e => ?_⟩
      · have h3 := h.2
        rw [if_pos e, Bool.and_eq_true] at h3
        rw [beq_iff_eq.mp h3.1, beq_iff_eq.mp h3.2]
        exact zw_val
      · have h3 := h.2
        rw [if_neg (by omega), if_pos e, Bool.and_eq_true] at h3
        rw [beq_iff_eq.mp h3.1, beq_iff_eq.mp h3.2]
        exact zw_cod
      · have h3 := h.2
        rw [if_neg (by omega), if_neg (by omega)] at h3
        obtain ⟨cq, k1, k2, k3, k4, -⟩ := zfin_ok h3
        exact ⟨cq, k1, k2, k3, k4⟩
    case putfield idx =>
      rw [Bool.and_eq_true] at h
      refine ⟨beq_iff_eq.mp h.1, ?_⟩
      have h3 := h.2
      split at h3
      · next hl =>
        obtain ⟨cq, k1, k2, k3, k4, k5, k6, k7, k8⟩ := zfin_ok h3
        exact ⟨cq, k1, k2, k3, by omega, fun _ => k5 rfl, fun q => absurd hl (by omega)⟩
      · next hl =>
        simp only [Bool.and_eq_true, beq_iff_eq, decide_eq_true_eq] at h3
        obtain ⟨⟨⟨g1, g2⟩, g3⟩, g4⟩ := h3
        obtain ⟨cq, k1, k2, k3, k4, k5, k6, k7, k8⟩ := zfin_ok g1
        exact ⟨cq, k1, k2, k3, by omega, fun q => absurd q hl, fun _ => ⟨k6 rfl, hini g2, by rw [k7, g3]⟩⟩
    case getstatic idx =>
      simp only [Bool.and_eq_true, Bool.or_eq_true, beq_iff_eq] at h
      refine ⟨h.1, ?_⟩
      rcases h.2 with (((⟨⟨⟨rfl, rfl⟩, rfl⟩, rfl⟩ | ⟨⟨⟨rfl, rfl⟩, rfl⟩, rfl⟩) | ⟨⟨⟨rfl, rfl⟩, rfl⟩, rfl⟩) | ⟨⟨rfl, rfl⟩, rfl⟩)
      · exact Or.inl ⟨rfl, rfl, zw_col⟩
      · exact Or.inr (Or.inl ⟨rfl, rfl, zw_row⟩)
      · exact Or.inr (Or.inr (Or.inl ⟨rfl, rfl, zw_fmt⟩))
      · exact Or.inr (Or.inr (Or.inr ⟨rfl, zw_cmp⟩))
    case new idx =>
      rw [Bool.and_eq_true] at h
      obtain ⟨q, hq, hh⟩ := List.any_eq_true.mp h.2
      have hk := List.all_eq_true.mp zCL_ok q hq
      simp only [Bool.and_eq_true, beq_iff_eq] at hh
      obtain ⟨⟨rfl, rfl⟩, rfl⟩ := hh
      unfold zclc at hk
      split at hk
      · cases hk
      · next cq hc =>
        rw [Bool.and_eq_true] at hk
        exact ⟨beq_iff_eq.mp h.1, cq, hc, of_decide_eq_true hk.2, zwp_ok hk.1⟩
    case anewarray idx =>
      simp only [Bool.and_eq_true, beq_iff_eq] at h
      obtain ⟨⟨g1, rfl⟩, rfl⟩ := h
      exact ⟨g1, zw_scn⟩
    case aastore =>
      simp only [Bool.and_eq_true, beq_iff_eq] at h
      obtain ⟨g1, rfl⟩ := h
      exact ⟨g1, _, rfl, rfl⟩
    case invokespecial idx =>
      rw [Bool.and_eq_true] at h
      exact ⟨beq_iff_eq.mp h.1, zoi_in h.2⟩
    case invokestatic idx =>
      simp only [Bool.and_eq_true, beq_iff_eq] at h
      obtain ⟨⟨g1, rfl⟩, rfl⟩ := h
      exact ⟨g1, zw_acp⟩
/-- a method's whole list -/
def zck (on ini rc : Nat) (bs : ByteArray) (l : List (Option zE)) : Bool := l.zipIdx.all (fun q => match q.1 with
  | none => true
  | some e => zce on ini rc q.2 e && decide (decode bs q.2 = .ok (e.1, e.2.1)))
def zckM (M : Nat) : Bool := match zpcs[M / 40]? with
  | none => false
  | some c => match c[M % 40]? with
    | none => false
    | some l => decide ((zmn M).cls = zcn (zons.getD M 0)) && decide (zinits.getD M 0 = 1 → (zmn M).name = "<init>") && zck (zons.getD M 0) (zinits.getD M 0) (zrc (zret M)) (zbyt M) l
theorem zckM_ok {M : Nat} (h : zckM M = true) (pc : Nat) (i : Instr) (len a b c : Nat) (hc : zcod M pc = some (i, len, a, b, c)) : decode (zbyt M) pc = .ok (i, len) ∧ (c = 101 → zCOK zcl zTs zinf zmn zret (zmn M).cls i a b ∧ zMOK zTs zinf zmn zbyt zret b) ∧ (c = 102 → zROK (zret M) i b) ∧ (c ≠ 101 → c ≠ 102 → zEOK zcl zTs (zmn M).cls (zmn M).name pc i len a b c) := by
  unfold zckM at h
  unfold zcod at hc
  split at h
  · cases h
  · next ch hch =>
    rw [hch] at hc
    dsimp only at hc
    split at h
    · cases h
    · next lst hl =>
      rw [hl] at hc
      dsimp only at hc
      simp only [Bool.and_eq_true, decide_eq_true_eq] at h
      obtain ⟨⟨h1, h2⟩, h3⟩ := h
      split at hc
      · cases hc
      · next e he =>
        subst hc
        have hm : (some (i, len, a, b, c), pc) ∈ lst.zipIdx := by
          refine List.mem_of_getElem? (i := pc) ?_
          rw [List.getElem?_zipIdx, he]
          simp
        have hz := List.all_eq_true.mp h3 _ hm
        dsimp only at hz
        rw [Bool.and_eq_true] at hz
        exact ⟨of_decide_eq_true hz.2, zce_ok h1 h2 rfl hz.1⟩
