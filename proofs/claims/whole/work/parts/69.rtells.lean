/-! from and tells of the reference -/
theorem aC_add {P R S : Int → Bool} : ∀ (n : Nat) (c : Int), (∀ k, c ≤ k → k < c + n → (P k = true ↔ (R k = true ∨ S k = true)) ∧ ¬ (R k = true ∧ S k = true)) → aC P c n = aC R c n + aC S c n
  | 0, _, _ => rfl
  | n + 1, c, h => by
    have ih := aC_add n (c + 1) (fun k k1 k2 => h k (by omega) (by omega))
    have h0 := h c (by omega) (by omega)
    unfold aC
    cases hp : P c <;> cases hr : R c <;> cases hs : S c <;> simp [hp, hr, hs] at h0 <;> simp <;> omega
theorem aC_full {P : Int → Bool} : ∀ (n : Nat) (c : Int), aC P c n = n ↔ ∀ k, c ≤ k → k < c + n → P k = true
  | 0, c => ⟨fun _ k k1 k2 => by omega, fun _ => rfl⟩
  | n + 1, c => by
    have ih := aC_full (P := P) n (c + 1)
    have hr := aC_rng (P := P) n (c + 1)
    unfold aC
    cases hp : P c with
    | true =>
      rw [if_pos rfl]
      constructor
      · intro h k k1 k2
        by_cases e : k = c
        · rw [e]; exact hp
        · exact ih.mp (by omega) k (by omega) (by omega)
      · intro h
        have := ih.mpr (fun k k1 k2 => h k (by omega) (by omega))
        omega
    | false =>
      rw [if_neg (by decide)]
      constructor
      · intro h; omega
      · intro h
        have := h c (by omega) (by omega)
        rw [hp] at this
        cases this
theorem aC_same {P R : Int → Bool} : ∀ (n : Nat) (c : Int), (∀ k, c ≤ k → k < c + n → P k = R k) → aC P c n = aC R c n
  | 0, _, _ => rfl
  | n + 1, c, h => by
    unfold aC
    rw [h c (by omega) (by omega), aC_same n (c + 1) (fun k k1 k2 => h k (by omega) (by omega))]
theorem aC_succ {P : Int → Bool} : ∀ (n : Nat) (c : Int), aC P c (n + 1) = aC P c n + (if P (c + n) = true then 1 else 0)
  | 0, c => by
    unfold aC aC
    simp
  | n + 1, c => by
    have ih := aC_succ (P := P) n (c + 1)
    have e : c + 1 + (n : Int) = c + ((n + 1 : Nat) : Int) := by omega
    rw [e] at ih
    rw [aC_step, ih, aC_step]
    omega
section RFROM
variable {X : zX} {rf pl sc ft : zF}
def aNow (pl sc ft : zF) (b c : Int) (k : Nat) (i : Int) : Bool := decide (ft 1 i.toNat = (k : Int) ∧ aTr pl sc b c k 2 (ft 2 i.toNat).toNat = ft 3 i.toNat)
def aBef (pl sc ft : zF) (b c : Int) (k : Nat) (i : Int) : Bool := decide (ft 1 i.toNat < (k : Int) ∧ aTr pl sc b c (ft 1 i.toNat).toNat 2 (ft 2 i.toNat).toNat = ft 3 i.toNat)
theorem aBef_succ (hF : FEp pl ft) {b c : Int} {k : Nat} : aC (aBef pl sc ft b c (k + 1)) 0 (ft 0 0).toNat = aC (aBef pl sc ft b c k) 0 (ft 0 0).toNat + aC (aNow pl sc ft b c k) 0 (ft 0 0).toNat := by
  have h0 := hF.1
  refine aC_add _ _ (fun i i1 i2 => ?_)
  have h1 := (hF.2 i i1 (by omega)).1
  unfold aBef aNow
  simp only [decide_eq_true_eq]
  constructor
  · constructor
    · rintro ⟨a, b⟩
      by_cases e : ft 1 i.toNat = (k : Int)
      · right
        refine ⟨e, ?_⟩
        rw [e, Int.toNat_natCast] at b
        exact b
      · left
        exact ⟨by omega, b⟩
    · rintro (⟨a, b⟩ | ⟨a, b⟩)
      · exact ⟨by omega, b⟩
      · refine ⟨by omega, ?_⟩
        rw [a, Int.toNat_natCast]
        exact b
  · rintro ⟨⟨a, _⟩, b, _⟩
    omega
/-- following may change the trial, and the path of cell c -/
def QG (c : Int) (mem mem' : zF) : Prop := QR mem mem' ∧ mem' 312 = mem 312 ∧ ∀ i : Nat, ((i : Int) < 31 * c ∨ 31 * c + 31 ≤ (i : Int)) → mem' 311 i = mem 311 i
theorem QG.rfl {c : Int} {mem : zF} : QG c mem mem := ⟨QR.rfl, Eq.refl _, fun _ _ => Eq.refl _⟩
theorem QG.trans {c : Int} {m1 m2 m3 : zF} (h1 : QG c m1 m2) (h2 : QG c m2 m3) : QG c m1 m3 := ⟨h1.1.trans h2.1, h2.2.1.trans h1.2.1, fun i hi => (h2.2.2 i hi).trans (h1.2.2 i hi)⟩
theorem R7.qg {c : Int} {m1 m2 : zF} (h : R7 1 m1 m2) : QG c m1 m2 := ⟨h.qr, h.row (by decide), fun i _ => by rw [h.row (by decide)]⟩
theorem FEr.q {mem mem' ft : zF} (h : FEr mem ft) (hq : QR mem mem') : FEr mem' ft := by
  unfold FEr
  rw [hq.row (a := 261) (by decide), hq.row (a := 308) (by decide), hq.row (a := 309) (by decide), hq.row (a := 310) (by decide)]
  exact h
theorem t_can_57 {d : Nat} {Q : Int → zF → Prop} (hP : PX pl sc) (hD : 6 ≤ d) (hF : FEp pl ft) {b c : Int} (hb : 0 ≤ b ∧ b < pl 1 2) (hfl : sc 2 b.toNat ≠ -1) (hc : zic (pl 0 1) (pl 0 2) c) {k : Nat} (hk : sc 0 0 + k ≤ 999 ∧ k ≤ 30) : ∀ (m : Nat) {i met : Int} {mem : zF}, RX rf mem pl sc → FEr mem ft → RV mem 1 pl (aTr pl sc b c k) → 0 ≤ i → i + m = ft 0 0 → (∀ mem', R7 1 mem mem' → RV mem' 1 pl (aTr pl sc b c (k + 1)) → L_m_canBeFrom_21 X d rf Q mem' b c (met + aC (aNow pl sc ft b c k) i m) ((k : Int) + 1)) → L_m_canBeFrom_57 X d rf Q mem b c met k i
  | 0, i, met, mem, hX, hf, hs, h0, hi, kk => by
    have h3 := hF.1
    have hN := hP.1.n
    refine s_m_canBeFrom_57 hX.1 ?_
    rw [hf.1]
    refine ⟨by omega, fun _ => ?_, fun q => absurd q (by omega)⟩
    refine t_ticks hX.1 hD hP.1 hP.2.1 (by decide) (by decide) hX.2.1 hs (WS.tr hP.1 hP.2.2.1 (by omega) hfl hc (by omega)) ?_
    intro m1 g1 f1
    have := kk m1 f1 (by rw [aTr_succ]; exact g1)
    unfold aC at this
    rwa [Int.add_zero] at this
  | m + 1, i, met, mem, hX, hf, hs, h0, hi, kk => by
    have h3 := hF.1
    have hN := hP.1.n
    have h4 := hF.2 i h0 (by omega)
    have h5 := hf.2 i h0 (by omega)
    have hW := WS.tr hP.1 hP.2.2.1 (b := b) (c := c) (k := k) (by omega) hfl hc (by omega)
    have hbI := hW.bubI (k := ft 2 i.toNat) (by omega)
    rw [aC_step] at kk
    refine s_m_canBeFrom_57 hX.1 ?_
    rw [hf.1, h5.1, h5.2.1, h5.2.2]
    have e2 : mem 297 (6 + ft 2 i.toNat).toNat = aTr pl sc b c k 2 (ft 2 i.toNat).toNat := hs.b 2 (by decide) (by decide) h4.2.1.1 h4.2.1.2
    rw [e2]
    have hci := h4.2.2
    unfold zic at hci
    refine ⟨by omega, fun q => absurd q (by omega), fun _ => ⟨by omega, by omega, fun q => ?_, fun q => ⟨by omega, by omega, by omega, by omega, fun q2 => ?_, fun q2 => ?_⟩⟩⟩
    · have ea : aNow pl sc ft b c k i = false := by unfold aNow; exact decide_eq_false (fun c => q c.1)
      rw [ea, if_neg (by decide)] at kk
      refine t_can_57 hP hD hF hb hfl hc hk m hX hf hs (by omega) (by omega) ?_
      intro m1 f1 g1
      have := kk m1 f1 g1
      have e : met + (0 + aC (aNow pl sc ft b c k) (i + 1) m) = met + 0 + aC (aNow pl sc ft b c k) (i + 1) m := by omega
      rwa [e] at this
    · have ea : aNow pl sc ft b c k i = false := by unfold aNow; exact decide_eq_false (fun c => q2 c.2)
      rw [ea, if_neg (by decide)] at kk
      refine t_can_57 hP hD hF hb hfl hc hk m hX hf hs (by omega) (by omega) ?_
      intro m1 f1 g1
      have := kk m1 f1 g1
      have e : met + (0 + aC (aNow pl sc ft b c k) (i + 1) m) = met + 0 + aC (aNow pl sc ft b c k) (i + 1) m := by omega
      rwa [e] at this
    · have ea : aNow pl sc ft b c k i = true := by unfold aNow; exact decide_eq_true ⟨q, q2⟩
      rw [ea, if_pos rfl] at kk
      refine t_can_57 hP hD hF hb hfl hc hk m hX hf hs (by omega) (by omega) ?_
      intro m1 f1 g1
      have := kk m1 f1 g1
      have e : met + (1 + aC (aNow pl sc ft b c k) (i + 1) m) = met + 1 + aC (aNow pl sc ft b c k) (i + 1) m := by omega
      rwa [e] at this
theorem t_can_21 {d : Nat} {Q : Int → zF → Prop} (hP : PX pl sc) (hD : 6 ≤ d) (hF : FEp pl ft) {b c : Int} (hb : 0 ≤ b ∧ b < pl 1 2) (hfl : sc 2 b.toNat ≠ -1) (hc : zic (pl 0 1) (pl 0 2) c) : ∀ (m : Nat) {k : Nat} {mem : zF}, RX rf mem pl sc → FEr mem ft → RV mem 1 pl (aTr pl sc b c k) → (k : Int) + m = aSoon sc + 1 → (∀ j : Int, 0 ≤ j → j < k → mem 311 (31 * c + j).toNat = aTr pl sc b c j.toNat 2 b.toNat) → (∀ mem', QG c mem mem' → aOK pl sc ft b c = true → (∀ j : Int, 0 ≤ j → j ≤ aSoon sc → mem' 311 (31 * c + j).toNat = aTr pl sc b c j.toNat 2 b.toNat) → Q 1 mem') → (∀ mem', QG c mem mem' → aOK pl sc ft b c = false → Q 0 mem') → L_m_canBeFrom_21 X d rf Q mem b c (aC (aBef pl sc ft b c k) 0 (ft 0 0).toNat) k
  | m, k, mem, hX, hf, hs, hk, hpa, k1, k0 => by
    have h3 := hF.1
    have hN := hP.1.n
    have hc0 := hP.1.c0
    have hsec := hP.2.2.1.sec
    have h9 := hP.2.2.2
    have hc2 := hc
    unfold zic at hc2
    have hso : aSoon sc = min 30 (999 - sc 0 0) := rfl
    have hmr := aC_rng (P := aBef pl sc ft b c k) (ft 0 0).toNat 0
    refine s_m_canBeFrom_21 hX.1 (t_isAhead hX hP (by omega) (by omega) (by decide) (by decide) (fun hq => ?_) (fun hq => ?_) (by decide))
    · have hq2 := hq.2
      unfold zcan at hq2
      obtain ⟨m1, rfl⟩ : ∃ m1, m = m1 + 1 := ⟨m - 1, by omega⟩
      have e2 : mem 297 (6 + b).toNat = aTr pl sc b c k 2 b.toNat := hs.b 2 (by decide) (by decide) hb.1 hb.2
      refine ⟨by decide, fun q => absurd q (by decide), fun _ => ⟨by omega, by omega, ?_⟩⟩
      rw [e2]
      have hQ1 : QG c mem (zup mem 311 (31 * c + (k : Int)).toNat (aTr pl sc b c k 2 b.toNat)) := ⟨fun a j _ _ a2 => by rw [zup_row _ _ _ (by omega)], zup_row _ _ _ (by decide), fun i hi => zup_ne _ _ _ _ (by omega)⟩
      refine t_can_57 hP hD hF hb hfl hc (by omega) (ft 0 0).toNat (hX.q hP hQ1.1) (hf.q hQ1.1) (hs.fr (fun a a1 a2 => zup_row _ _ _ (by omega))) (by omega) (by omega) ?_
      intro m2 f2 g2
      have ek : (k : Int) + 1 = ((k + 1 : Nat) : Int) := by omega
      rw [ek, ← aBef_succ hF]
      have hQ2 := hQ1.trans f2.qg
      refine t_can_21 hP hD hF hb hfl hc m1 (hX.q hP hQ2.1) (hf.q hQ2.1) g2 (by omega) ?_ (fun m3 f3 => k1 m3 (hQ2.trans f3)) (fun m3 f3 => k0 m3 (hQ2.trans f3))
      intro j j1 j2
      rw [f2.row (a := 311) (by decide)]
      by_cases e : j = (k : Int)
      · rw [e, zup_at, Int.toNat_natCast]
      · rw [zup_ne _ _ _ _ (by omega)]
        exact hpa j j1 (by omega)
    · unfold zcan at hq
      have hke : (k : Int) = aSoon sc + 1 := by omega
      have hiff : aC (aBef pl sc ft b c k) 0 (ft 0 0).toNat = ft 0 0 ↔ aOK pl sc ft b c = true := by
        have h7 := aC_full (P := aBef pl sc ft b c k) (ft 0 0).toNat 0
        have e8 : (((ft 0 0).toNat : Nat) : Int) = ft 0 0 := by omega
        rw [e8] at h7
        rw [h7, aOK_iff hF]
        constructor
        · intro h i i1 i2
          have := h i i1 (by omega)
          unfold aBef at this
          have := of_decide_eq_true this
          exact ⟨by omega, this.2⟩
        · intro h i i1 i2
          have h8 := h i i1 (by omega)
          have h9 := (hF.2 i i1 (by omega)).1
          unfold aBef
          exact decide_eq_true ⟨by omega, h8.2⟩
      refine ⟨by decide, fun _ => ?_, fun q => absurd rfl q⟩
      rw [hf.1]
      refine ⟨by omega, fun q => k0 mem QG.rfl ?_, fun q => k1 mem QG.rfl (hiff.mp q) (fun j j1 j2 => hpa j j1 (by omega))⟩
      cases hok : aOK pl sc ft b c with
      | false => rfl
      | true => exact absurd (hiff.mpr hok) q
theorem t_canBe {D : Nat} {Q : Int → zF → Prop} {mem : zF} (hX : RX rf mem pl sc) (hP : PX pl sc) (hD : 7 ≤ D) (hF : FEp pl ft) (hf : FEr mem ft) {b c : Int} (hb : 0 ≤ b ∧ b < pl 1 2) (hfl : sc 2 b.toNat ≠ -1) (hc : zic (pl 0 1) (pl 0 2) c) (k1 : ∀ mem', QG c mem mem' → aOK pl sc ft b c = true → (∀ j : Int, 0 ≤ j → j ≤ aSoon sc → mem' 311 (31 * c + j).toNat = aTr pl sc b c j.toNat 2 b.toNat) → Q 1 mem') (k0 : ∀ mem', QG c mem mem' → aOK pl sc ft b c = false → Q 0 mem') : Ci X D 294 [(2, 261), (0, b), (0, c)] rf mem Q := by
  obtain ⟨d, rfl⟩ : ∃ d, D = d + 1 := ⟨D - 1, by omega⟩
  have hN := hP.1.n
  have h3 := hF.1
  have hsec := hP.2.2.1.sec
  have h9 := hP.2.2.2
  have hso : aSoon sc = min 30 (999 - sc 0 0) := rfl
  refine s_m_canBeFrom hX.1 (t_copyT hX hP ?_)
  intro m1 g1 f1
  have hF2 : RF 1 mem (zup m1 297 (6 + b).toNat c) := f1.up (by unfold zofv; omega)
  have hQ := hF2.r7.qg (c := c)
  have e0 : aC (aBef pl sc ft b c 0) 0 (ft 0 0).toNat = 0 := by
    have : aC (aBef pl sc ft b c 0) 0 (ft 0 0).toNat = aC (fun _ => false) 0 (ft 0 0).toNat := by
      refine aC_same _ _ (fun i i1 i2 => ?_)
      have := (hF.2 i i1 (by omega)).1
      unfold aBef
      exact decide_eq_false (fun c => by omega)
    rw [this]
    have h7 : ∀ (n : Nat) (c : Int), aC (fun _ => false) c n = 0 := by
      intro n
      induction n with
      | zero => intro c; rfl
      | succ n ih => intro c; unfold aC; rw [ih]; rfl
    exact h7 _ _
  refine ⟨by omega, ?_⟩
  have := t_can_21 (X := X) (d := d) (Q := Q) hP (by omega) hF hb hfl hc (aSoon sc + 1).toNat (k := 0) (mem := zup m1 297 (6 + b).toNat c) (hX.q hP hF2.qr) (hf.q hF2.qr) (g1.up (by decide) 2 (by decide) (by decide) hb.1 c) (by omega) (fun j j1 j2 => by omega) (fun m3 f3 => k1 m3 (hQ.trans f3)) (fun m3 f3 => k0 m3 (hQ.trans f3))
  rw [e0] at this
  exact this
/-- the left cells as the reference keeps them, below x -/
def LF (mem pl sc ft : zF) (b x : Int) : Prop := ∀ c : Int, 0 ≤ c → c < x → mem 312 c.toNat = (if aLeft pl sc ft b c = true then 1 else 0) ∧ (aLeft pl sc ft b c = true → ∀ j : Int, 0 ≤ j → j ≤ aSoon sc → mem 311 (31 * c + j).toNat = aTr pl sc b c j.toNat 2 b.toNat)
theorem t_leaves_4 {d : Nat} {Q : Int → zF → Prop} (hP : PX pl sc) (hD : 7 ≤ d) (hF : FEp pl ft) {b : Int} (hb : 0 ≤ b ∧ b < pl 1 2) (hfl : sc 2 b.toNat ≠ -1) : ∀ (m : Nat) {x t : Int} {mem : zF}, RX rf mem pl sc → FEr mem ft → 0 ≤ x → x + m = 64 → LF mem pl sc ft b x → (∀ mem', QR mem mem' → LF mem' pl sc ft b 64 → Q (t + aC (aLeft pl sc ft b) x m) mem') → L_m_leaves_4 X d rf Q mem b t x
  | 0, x, t, mem, hX, hf, h0, hx, hl, kk => by
    have e : x = 64 := by omega
    subst e
    have := kk mem QR.rfl hl
    unfold aC at this
    rw [Int.add_zero] at this
    exact s_m_leaves_4 hX.1 ⟨by decide, fun _ => this, fun q => absurd q (by decide)⟩
  | m + 1, x, t, mem, hX, hf, h0, hx, hl, kk => by
    have hcr := hP.1.cr
    have hso : aSoon sc ≤ 30 := by unfold aSoon; omega
    have hic := zic_iff (C := pl 0 1) (R := pl 0 2) (c := x) (by omega) (by omega) (by omega)
    rw [aC_step] at kk
    have g37 : ∀ (v : Int) (m1 : zF), QG x mem m1 → v = (if aLeft pl sc ft b x = true then 1 else 0) → (aLeft pl sc ft b x = true → ∀ j : Int, 0 ≤ j → j ≤ aSoon sc → m1 311 (31 * x + j).toNat = aTr pl sc b x j.toNat 2 b.toNat) → L_m_leaves_37 X d rf Q m1 b t x x v := by
      intro v m1 q1 hv hpa
      refine s_m_leaves_37 hX.1 ⟨by omega, by omega, ?_⟩
      rw [zup_at]
      have hq2 : QR mem (zup m1 312 x.toNat v) := q1.1.trans (fun a j _ _ a2 => by rw [zup_row _ _ _ (by omega)])
      rw [← hv] at kk
      refine t_leaves_4 hP hD hF hb hfl m (hX.q hP hq2) (hf.q hq2) (by omega) (by omega) ?_ ?_
      · intro c c1 c2
        by_cases e : c = x
        · subst e
          refine ⟨by rw [zup_at, hv], fun hy j j1 j2 => ?_⟩
          rw [zup_row _ _ _ (by decide)]
          exact hpa hy j j1 j2
        · have h5 := hl c c1 (by omega)
          refine ⟨?_, fun hy j j1 j2 => ?_⟩
          · rw [zup_ne _ _ _ _ (by omega), q1.2.1]
            exact h5.1
          · rw [zup_row _ _ _ (by decide), q1.2.2 _ (by omega)]
            exact h5.2 hy j j1 j2
      · intro m2 f2 g2
        have := kk m2 (hq2.trans f2) g2
        have e : t + (v + aC (aLeft pl sc ft b) (x + 1) m) = t + v + aC (aLeft pl sc ft b) (x + 1) m := by omega
        rwa [e] at this
    refine s_m_leaves_4 hX.1 ⟨by omega, fun q => absurd q (by omega), fun _ => t_isCellOf hX hP.1 (by omega) (by omega) (fun c1 => ?_) (fun c1 => ?_)⟩
    · refine ⟨by decide, fun q => absurd q (by decide), fun _ => t_canBe hX hP (by omega) hF hf hb hfl (hic.mp c1) (fun m1 q1 hok hpa => ?_) (fun m1 q1 hok => ?_)⟩
      · have hyes : aLeft pl sc ft b x = true := by
          unfold aLeft
          rw [hok, Bool.and_true]
          exact decide_eq_true c1
        exact ⟨by decide, fun q => absurd q (by decide), fun _ => g37 1 m1 q1 (by rw [if_pos hyes]) (fun _ => hpa)⟩
      · have hno : aLeft pl sc ft b x = false := by
          unfold aLeft
          rw [hok, Bool.and_false]
        exact ⟨by decide, fun _ => g37 0 m1 q1 (by rw [if_neg (by rw [hno]; decide)]) (fun hy => by rw [hno] at hy; cases hy), fun q => absurd rfl q⟩
    · have hno : aLeft pl sc ft b x = false := by
        unfold aLeft
        rw [decide_eq_false (fun c => c c1), Bool.false_and]
      exact ⟨by decide, fun _ => g37 0 mem QG.rfl (by rw [if_neg (by rw [hno]; decide)]) (fun hy => by rw [hno] at hy; cases hy), fun q => absurd rfl q⟩
theorem t_leaves {D : Nat} {Q : Int → zF → Prop} {mem : zF} (hX : RX rf mem pl sc) (hP : PX pl sc) (hD : 8 ≤ D) (hF : FEp pl ft) (hf : FEr mem ft) {b : Int} (hb : 0 ≤ b ∧ b < pl 1 2) (hfl : sc 2 b.toNat ≠ -1) (kk : ∀ mem', QR mem mem' → LF mem' pl sc ft b 64 → Q (aC (aLeft pl sc ft b) 0 64) mem') : Ci X D 295 [(2, 261), (0, b)] rf mem Q := by
  obtain ⟨d, rfl⟩ : ∃ d, D = d + 1 := ⟨D - 1, by omega⟩
  refine s_m_leaves hX.1 (t_leaves_4 hP (by omega) hF hb hfl 64 hX hf (by omega) (by omega) (fun c c1 c2 => by omega) ?_)
  intro m1 f1 g1
  rw [Int.zero_add]
  exact kk m1 f1 g1
theorem t_from_43 {d : Nat} {Q : Int → zF → Prop} {mem : zF} (hX : RX rf mem pl sc) {b k : Int} (hl : LF mem pl sc ft b 64) (hk : inI k) : ∀ (m : Nat) {x t : Int}, 0 ≤ x → x + m = 64 → 0 ≤ t → t ≤ k → t ≤ x → Q ((aList (aLeft pl sc ft b) x m).getD (k - t).toNat (-1)) mem → L_m_from_43 X d rf Q mem k t x
  | 0, x, t, h0, hx, h1, h2, h3, kk => s_m_from_43 hX.1 ⟨by omega, fun _ => kk, fun q => absurd q (by omega)⟩
  | m + 1, x, t, h0, hx, h1, h2, h3, kk => by
    have h5 := (hl x h0 (by omega)).1
    refine s_m_from_43 hX.1 ⟨by omega, fun q => absurd q (by omega), fun _ => ⟨by omega, ?_⟩⟩
    rw [h5]
    cases hy : aLeft pl sc ft b x with
    | true =>
      rw [hy] at h5
      rw [if_pos rfl] at h5 ⊢
      have el : aList (aLeft pl sc ft b) x (m + 1) = x :: aList (aLeft pl sc ft b) (x + 1) m := by
        conv => lhs; unfold aList
        rw [if_pos hy]
      rw [el] at kk
      refine ⟨by decide, fun q => absurd rfl q, fun _ => ⟨by omega, fun q => ?_, fun q => ?_⟩⟩
      · refine s_m_from_70 hX.1 ⟨by omega, ?_⟩
        rw [h5]
        refine t_from_43 hX hl hk m (by omega) (by omega) (by omega) (by omega) (by omega) ?_
        have e : (k - t).toNat = (k - (t + 1)).toNat + 1 := by omega
        rw [e, List.getD_cons_succ] at kk
        exact kk
      · have e : (k - t).toNat = 0 := by omega
        rw [e] at kk
        exact kk
    | false =>
      rw [hy] at h5
      rw [if_neg (by decide)] at h5 ⊢
      have el : aList (aLeft pl sc ft b) x (m + 1) = aList (aLeft pl sc ft b) (x + 1) m := by
        conv => lhs; unfold aList
        rw [if_neg (by rw [hy]; decide)]
      rw [el] at kk
      refine ⟨by decide, fun _ => s_m_from_70 hX.1 ⟨by omega, ?_⟩, fun q => absurd q (by decide)⟩
      rw [h5, Int.add_zero]
      exact t_from_43 hX hl hk m (by omega) (by omega) h1 h2 (by omega) kk
theorem t_from {D : Nat} {Q : Int → zF → Prop} {mem : zF} (hX : RX rf mem pl sc) (hP : PX pl sc) (hF : FEp pl ft) (hf : FEr mem ft) (hD : 9 ≤ D) {b k : Int} (hb : inI b) (hk : inI k) (kk : ∀ mem', QR mem mem' → Q (aFrom pl sc ft b k) mem') : Ci X D 296 [(2, 261), (0, b), (0, k)] rf mem Q := by
  obtain ⟨d, rfl⟩ : ∃ d, D = d + 1 := ⟨D - 1, by omega⟩
  unfold aFrom at kk
  refine s_m_from hX.1 (t_isBubble hX hP.1 hb (fun q1 => ?_) (fun q1 => ?_))
  · refine ⟨by decide, fun q => absurd q (by decide), fun _ => t_floatsV hX.1 hP.1 hP.2.2.1 (by decide) hX.2.2 q1 (fun q2 => ?_) (fun q2 => ?_)⟩
    · rw [if_pos ⟨q1.1, q1.2, q2⟩] at kk
      refine ⟨by decide, fun q => absurd q (by decide), fun _ => ⟨hk, fun q3 => ?_, fun q3 => ?_⟩⟩
      · refine t_leaves hX hP (by omega) hF hf q1 q2 ?_
        intro m1 f1 g1
        have := kk m1 f1
        refine ⟨hk, fun q4 => ?_, fun q4 => ?_⟩
        · rw [if_neg q4, if_neg (by omega)] at this
          refine t_from_43 (hX.q hP f1) g1 hk 64 (by omega) (by omega) (by omega) (by omega) (by omega) ?_
          rwa [Int.sub_zero]
        · rwa [if_pos q4] at this
      · have := kk mem QR.rfl
        rwa [if_neg (by omega), if_pos (by omega)] at this
    · refine ⟨by decide, fun _ => ?_, fun q => absurd rfl q⟩
      have := kk mem QR.rfl
      rwa [if_neg (fun c => c.2.2 q2)] at this
  · refine ⟨by decide, fun _ => ?_, fun q => absurd rfl q⟩
    have := kk mem QR.rfl
    rwa [if_neg (fun c => q1 ⟨c.1, c.2.1⟩)] at this
end RFROM
