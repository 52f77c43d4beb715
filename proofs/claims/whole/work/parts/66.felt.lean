/-! FELT: from and tells, of the program -/
def aTr (pl sc : zF) (b c : Int) (k : Nat) : zF := aRun pl k (zup sc 2 b.toNat c)
def aFit (pl sc ft : zF) (b c : Int) (i : Int) : Bool := decide (sc 0 0 + ft 1 i.toNat ≤ 999 ∧ aTr pl sc b c (ft 1 i.toNat).toNat 2 (ft 2 i.toNat).toNat = ft 3 i.toNat)
def aOK (pl sc ft : zF) (b c : Int) : Bool := decide (aFd (fun i => !aFit pl sc ft b c i) 0 (ft 0 0).toNat = -1)
def aLeft (pl sc ft : zF) (b c : Int) : Bool := decide (zcellAt (pl 0 1) (pl 0 2) (c % 8) (c / 8) ≠ -1) && aOK pl sc ft b c
theorem aFd_all {P : Int → Bool} : ∀ (n : Nat) (b : Int), 0 ≤ b → (aFd (fun i => !P i) b n = -1 ↔ ∀ k, b ≤ k → k < b + n → P k = true)
  | 0, b, h0 => ⟨fun _ k k1 k2 => by omega, fun _ => rfl⟩
  | n + 1, b, h0 => by
    have ih := aFd_all (P := P) n (b + 1) (by omega)
    cases hb : P b with
    | true =>
      rw [aFd_f (by simp [hb]), ih]
      constructor
      · intro h k k1 k2
        by_cases e : k = b
        · rw [e]; exact hb
        · exact h k (by omega) (by omega)
      · intro h k k1 k2
        exact h k (by omega) (by omega)
    | false =>
      rw [aFd_t (by simp [hb])]
      constructor
      · intro h; omega
      · intro h
        have := h b (by omega) (by omega)
        rw [hb] at this
        cases this
/-- what is felt: ft 0 0 rows; of each the second, the bubble, the cell -/
def FEp (pl ft : zF) : Prop := (0 ≤ ft 0 0 ∧ ft 0 0 ≤ 16) ∧ ∀ k : Int, 0 ≤ k → k < ft 0 0 → (0 ≤ ft 1 k.toNat ∧ ft 1 k.toNat ≤ 30) ∧ (0 ≤ ft 2 k.toNat ∧ ft 2 k.toNat < pl 1 2) ∧ (ft 3 k.toNat = -1 ∨ zic (pl 0 1) (pl 0 2) (ft 3 k.toNat))
def FEc (mem pl ft : zF) : Prop := mem 35 7 = ft 0 0 ∧ ∀ k : Int, 0 ≤ k → k < ft 0 0 → mem 48 (4 * k).toNat = ft 1 k.toNat ∧ mem 48 (4 * k + 1).toNat = ft 2 k.toNat ∧ zcellAt (pl 0 1) (pl 0 2) (mem 48 (4 * k + 2).toNat) (mem 48 (4 * k + 3).toNat) = ft 3 k.toNat ∧ inI (mem 48 (4 * k + 2).toNat) ∧ inI (mem 48 (4 * k + 3).toNat)
def FEr (mem ft : zF) : Prop := mem 261 70 = ft 0 0 ∧ ∀ k : Int, 0 ≤ k → k < ft 0 0 → mem 308 k.toNat = ft 1 k.toNat ∧ mem 309 k.toNat = ft 2 k.toNat ∧ mem 310 k.toNat = ft 3 k.toNat
theorem aOK_iff {pl sc ft : zF} {b c : Int} (hF : FEp pl ft) : aOK pl sc ft b c = true ↔ ∀ i : Int, 0 ≤ i → i < ft 0 0 → sc 0 0 + ft 1 i.toNat ≤ 999 ∧ aTr pl sc b c (ft 1 i.toNat).toNat 2 (ft 2 i.toNat).toNat = ft 3 i.toNat := by
  unfold aOK
  have h0 := hF.1
  rw [decide_eq_true_eq, aFd_all _ _ (by omega)]
  constructor
  · intro h i i1 i2
    have := h i i1 (by omega)
    unfold aFit at this
    exact of_decide_eq_true this
  · intro h i i1 i2
    unfold aFit
    exact decide_eq_true (h i i1 (by omega))
theorem FEc.q {mem mem' pl ft : zF} {p : Nat} (h : FEc mem pl ft) (hp : p = 8 ∨ p = 246) (hq : QC p mem mem') : FEc mem' pl ft := by
  unfold FEc
  rw [hq.2, hq.1 48 (by omega) (by omega) (by omega) (by omega)]
  exact h
theorem aTr_succ {pl sc : zF} {b c : Int} (k : Nat) : aTr pl sc b c (k + 1) = (aPass pl (zwind pl (aTr pl sc b c k 0 2)) (-1) (aTr pl sc b c k)).2 := aRun_succ k
theorem aRun_02 {pl : zF} : ∀ (n : Nat) {sc : zF}, aRun pl n sc 0 2 = sc 0 2
  | 0, _ => rfl
  | n + 1, sc => by
    show aRun pl n _ 0 2 = _
    rw [aRun_02 n, aPass_r0 (by decide) (by decide)]
theorem aTr_02 {pl sc : zF} {b c : Int} (k : Nat) : aTr pl sc b c k 0 2 = sc 0 2 := by
  unfold aTr
  rw [aRun_02, zup_row _ _ _ (by decide)]
theorem aTr_sec {pl sc : zF} {b c : Int} (k : Nat) : aTr pl sc b c k 0 0 = sc 0 0 + k := by
  unfold aTr
  rw [aRun_sec, zup_row _ _ _ (by decide)]
theorem WS.tr {pl sc : zF} (hP : WP pl) (hW : WS pl sc) {b c : Int} (hb : 0 ≤ b ∧ b < 6) (hf : sc 2 b.toNat ≠ -1) (hc : zic (pl 0 1) (pl 0 2) c) {k : Nat} (hk : sc 0 0 + k ≤ 1000) : WS pl (aTr pl sc b c k) := by
  unfold aTr
  exact WS.run hP k (hW.s2 hb hf hc) (by rw [zup_row _ _ _ (by decide)]; exact hk)
section FELT
variable {X : zX} {p : Nat} {rf pl sc ft : zF}
theorem u_lastFelt_4 {d : Nat} {Q : Int → zF → Prop} {mem : zF} (hR : zall rf zRK = true) (hF : FEp pl ft) (hf : FEc mem pl ft) : ∀ (n : Nat) {x t : Int}, 0 ≤ x → x + n = ft 0 0 → (0 ≤ t ∧ t ≤ 30) → (∀ i : Int, 0 ≤ i → i < x → ft 1 i.toNat ≤ t) → (t = 0 ∨ ∃ i : Int, 0 ≤ i ∧ i < x ∧ ft 1 i.toNat = t) → (∀ m : Int, (0 ≤ m ∧ m ≤ 30) → (∀ i : Int, 0 ≤ i → i < ft 0 0 → ft 1 i.toNat ≤ m) → (m = 0 ∨ ∃ i : Int, 0 ≤ i ∧ i < ft 0 0 ∧ ft 1 i.toNat = m) → Q m mem) → L_seer_lastFelt_4 X d rf Q mem t x
  | 0, x, t, h0, hx, ht, h1, h2, kk => by
    have h3 := hF.1
    refine s_seer_lastFelt_4 hR ?_
    rw [hf.1]
    have e : x = ft 0 0 := by omega
    rw [e] at h1 h2
    exact ⟨by omega, fun _ => kk t ht h1 h2, fun q => absurd q (by omega)⟩
  | n + 1, x, t, h0, hx, ht, h1, h2, kk => by
    have h3 := hF.1
    have h4 := (hF.2 x h0 (by omega)).1
    refine s_seer_lastFelt_4 hR ?_
    rw [hf.1]
    refine ⟨by omega, fun q => absurd q (by omega), fun _ => ⟨by omega, fun q => absurd q (by omega), fun _ => ⟨by omega, ?_⟩⟩⟩
    rw [(hf.2 x h0 (by omega)).1]
    refine u_max hR (by omega) (by omega) (u_lastFelt_4 hR hF hf n (by omega) (by omega) (by omega) (fun i i1 i2 => ?_) ?_ kk)
    · by_cases e : i = x
      · rw [e]; omega
      · have := h1 i i1 (by omega); omega
    · by_cases e : t ≤ ft 1 x.toNat
      · exact Or.inr ⟨x, h0, by omega, by omega⟩
      · have e2 : max t (ft 1 x.toNat) = t := by omega
        rw [e2]
        rcases h2 with h2 | ⟨i, i1, i2, i3⟩
        · exact Or.inl h2
        · exact Or.inr ⟨i, i1, by omega, i3⟩
theorem u_lastFelt {D : Nat} {Q : Int → zF → Prop} {mem : zF} (hR : zall rf zRK = true) (hD : 1 ≤ D) (hF : FEp pl ft) (hf : FEc mem pl ft) (kk : ∀ m : Int, (0 ≤ m ∧ m ≤ 30) → (∀ i : Int, 0 ≤ i → i < ft 0 0 → ft 1 i.toNat ≤ m) → (m = 0 ∨ ∃ i : Int, 0 ≤ i ∧ i < ft 0 0 ∧ ft 1 i.toNat = m) → Q m mem) : Ci X D 117 [(2, 35)] rf mem Q := by
  obtain ⟨d, rfl⟩ : ∃ d, D = d + 1 := ⟨D - 1, by omega⟩
  have h3 := hF.1
  exact s_seer_lastFelt hR (u_lastFelt_4 hR hF hf (ft 0 0).toNat (by omega) (by omega) (by decide) (fun i i1 i2 => by omega) (Or.inl rfl) kk)
theorem u_asFelt_2 {d : Nat} {Q : Int → zF → Prop} {mem s1 : zF} (hX : CX rf mem p pl sc) (hP : WP pl) (hD : 1 ≤ d) (hF : FEp pl ft) (hf : FEc mem pl ft) (hs : SC mem 39 s1) (hW : WS pl s1) {k : Int} (hk : inI k) : ∀ (n : Nat) {x : Int}, 0 ≤ x → x + n = ft 0 0 → ((∀ i : Int, x ≤ i → i < ft 0 0 → ft 1 i.toNat = k → s1 2 (ft 2 i.toNat).toNat = ft 3 i.toNat) → Q 1 mem) → (¬ (∀ i : Int, x ≤ i → i < ft 0 0 → ft 1 i.toNat = k → s1 2 (ft 2 i.toNat).toNat = ft 3 i.toNat) → Q 0 mem) → L_seer_isAsFelt_2 X d rf Q mem p k x
  | 0, x, h0, hx, k1, k0 => by
    have h3 := hF.1
    refine s_seer_isAsFelt_2 hX.r hX.p ?_
    rw [hf.1]
    exact ⟨by omega, fun _ => k1 (fun i i1 i2 => by omega), fun q => absurd q (by omega)⟩
  | n + 1, x, h0, hx, k1, k0 => by
    have h3 := hF.1
    have hN := hP.n
    have h4 := hF.2 x h0 (by omega)
    have h5 := hf.2 x h0 (by omega)
    have hcr := hP.cr
    have nxt : (ft 1 x.toNat = k → s1 2 (ft 2 x.toNat).toNat = ft 3 x.toNat) → L_seer_isAsFelt_2 X d rf Q mem p k (x + 1) := by
      intro hx1
      refine u_asFelt_2 hX hP hD hF hf hs hW hk n (by omega) (by omega) (fun h => k1 ?_) (fun h => k0 ?_)
      · intro i i1 i2 i3
        by_cases e : i = x
        · rw [e] at i3 ⊢
          exact hx1 i3
        · exact h i (by omega) i2 i3
      · intro h2
        exact h (fun i i1 i2 i3 => h2 i (by omega) i2 i3)
    refine s_seer_isAsFelt_2 hX.r hX.p ?_
    rw [hf.1]
    refine ⟨by omega, fun q => absurd q (by omega), fun _ => ⟨by omega, fun q => absurd q (by omega), fun _ => ⟨by omega, by omega, by omega, ?_⟩⟩⟩
    refine u_cellAt hX.r hX.p hX.pc hP h5.2.2.2.1 h5.2.2.2.2 ?_
    rw [h5.2.2.1, h5.1, h5.2.1]
    refine ⟨by omega, ⟨by omega, hk⟩, fun q => nxt (fun c => absurd c q), fun q => ?_⟩
    refine u_isThere hX.r hX.p hX.pc hP hD (by decide) (by omega) (fun _ => ?_) (fun c => absurd (show zthere pl 2 (ft 2 x.toNat) from ⟨h4.2.1.1, by omega, by decide, by decide, h4.2.1.2⟩) c)
    have e2 : mem 41 (ft 2 x.toNat).toNat = s1 2 (ft 2 x.toNat).toNat := hs.i 2 (by decide) (by omega)
    have hbI := hW.bubI (k := ft 2 x.toNat) (by omega)
    refine ⟨by decide, fun q => absurd q (by decide), fun _ => ⟨by omega, ?_⟩⟩
    rw [e2]
    refine ⟨⟨by omega, ?_⟩, fun q2 => nxt (fun _ => q2), fun q2 => k0 (fun h => q2 (h x (by omega) (by omega) q))⟩
    have := h4.2.2
    unfold zic at this
    omega
theorem u_asFelt {D : Nat} {Q : Int → zF → Prop} {mem s1 : zF} (hX : CX rf mem p pl sc) (hP : WP pl) (hD : 2 ≤ D) (hF : FEp pl ft) (hf : FEc mem pl ft) (hs : SC mem 39 s1) (hW : WS pl s1) {k : Int} (hk : inI k) (k1 : (∀ i : Int, 0 ≤ i → i < ft 0 0 → ft 1 i.toNat = k → s1 2 (ft 2 i.toNat).toNat = ft 3 i.toNat) → Q 1 mem) (k0 : ¬ (∀ i : Int, 0 ≤ i → i < ft 0 0 → ft 1 i.toNat = k → s1 2 (ft 2 i.toNat).toNat = ft 3 i.toNat) → Q 0 mem) : Ci X D 119 [(2, 35), (2, p), (0, k)] rf mem Q := by
  obtain ⟨d, rfl⟩ : ∃ d, D = d + 1 := ⟨D - 1, by omega⟩
  have h3 := hF.1
  exact s_seer_isAsFelt hX.r hX.p (u_asFelt_2 hX hP (by omega) hF hf hs hW hk (ft 0 0).toNat (by omega) (by omega) k1 k0)
/-- what following a path may change: the trial, the path -/
def QF (p : Nat) (mem mem' : zF) : Prop := QC p mem mem' ∧ mem' 35 = mem 35 ∧ mem' 37 = mem 37 ∧ mem' 50 = mem 50 ∧ mem' 51 = mem 51
theorem QF.rfl {mem : zF} : QF p mem mem := ⟨QC.rfl, Eq.refl _, Eq.refl _, Eq.refl _, Eq.refl _⟩
theorem QF.trans {m1 m2 m3 : zF} (h1 : QF p m1 m2) (h2 : QF p m2 m3) : QF p m1 m3 := ⟨h1.1.trans h2.1, h2.2.1.trans h1.2.1, h2.2.2.1.trans h1.2.2.1, h2.2.2.2.1.trans h1.2.2.2.1, h2.2.2.2.2.trans h1.2.2.2.2⟩
theorem FP.qf {m1 m2 : zF} (h : FP p 36 39 m1 m2) (hp : p = 8 ∨ p = 246) : QF p m1 m2 := ⟨h.qc hp, h 35 (by omega) (by omega) (by omega) (by omega) (by omega), h 37 (by omega) (by omega) (by omega) (by omega) (by omega), h 50 (by omega) (by omega) (by omega) (by omega) (by omega), h 51 (by omega) (by omega) (by omega) (by omega) (by omega)⟩
theorem FS.qf {m1 m2 : zF} (h : FS 39 m1 m2) : QF p m1 m2 := ⟨h.qc, h 35 (by omega), h 37 (by omega), h 50 (by omega), h 51 (by omega)⟩
theorem u_follow_52 {d : Nat} {Q : Int → zF → Prop} (hP : PX pl sc) (hD : 4 ≤ d) (hF : FEp pl ft) {b c nd la : Int} (hb : 0 ≤ b ∧ b < 6 ∧ b < pl 1 2) (hfl : sc 2 b.toNat ≠ -1) (hc : zic (pl 0 1) (pl 0 2) c) (hnd : 0 ≤ nd ∧ nd ≤ la) (hla : la ≤ 30 ∧ sc 0 0 + la ≤ 999) (hmx : ∀ i : Int, 0 ≤ i → i < ft 0 0 → ft 1 i.toNat ≤ nd) : ∀ (n : Nat) {x : Int} {mem s1 : zF}, CX rf mem p pl sc → FEc mem pl ft → SC mem 39 s1 → WR mem 36 (zwind pl (sc 0 2)) → WS pl s1 → 0 ≤ x → x + n = la + 1 → (s1 = aTr pl sc b c (x - 1).toNat ∨ (nd < x ∧ s1 2 b.toNat = -1 ∧ aTr pl sc b c (x - 1).toNat 2 b.toNat = -1)) → (∀ j : Int, 0 ≤ j → j < x → mem 49 j.toNat = aTr pl sc b c j.toNat 2 b.toNat) → (∀ i : Int, 0 ≤ i → i < ft 0 0 → ft 1 i.toNat < x → aTr pl sc b c (ft 1 i.toNat).toNat 2 (ft 2 i.toNat).toNat = ft 3 i.toNat) → (∀ mem', QF p mem mem' → aOK pl sc ft b c = true → (∀ j : Int, 0 ≤ j → j ≤ la → mem' 49 j.toNat = aTr pl sc b c j.toNat 2 b.toNat) → Q 1 mem') → (∀ mem', QF p mem mem' → aOK pl sc ft b c = false → Q 0 mem') → L_seer_follow_52 X d rf Q mem p 23 b la nd x
  | 0, x, mem, s1, hX, hf, hs, hr, hW, h0, hx, hI, hpa, hfe, k1, k0 => by
    refine s_seer_follow_52 hX.r hX.p (zScn_23 hX.r) ⟨by omega, fun _ => k1 mem QF.rfl ?_ (fun j j1 j2 => hpa j j1 (by omega)), fun q => absurd q (by omega)⟩
    rw [aOK_iff hF]
    intro i i1 i2
    have := hmx i i1 i2
    exact ⟨by omega, hfe i i1 i2 (by omega)⟩
  | n + 1, x, mem, s1, hX, hf, hs, hr, hW, h0, hx, hI, hpa, hfe, k1, k0 => by
    have hbI := hW.bubI (k := b) (by omega)
    have e2 : mem 41 b.toNat = s1 2 b.toNat := hs.i 2 (by decide) (by omega)
    have hsec := hP.2.2.1.sec
    -- behind the pass
    have g120 : ∀ (m1 s2 : zF), QF p mem m1 → m1 49 = mem 49 → SC m1 39 s2 → WS pl s2 → (s2 = aTr pl sc b c x.toNat ∨ (nd < x ∧ s2 2 b.toNat = -1 ∧ aTr pl sc b c x.toNat 2 b.toNat = -1)) → L_seer_follow_120 X d rf Q m1 p 23 b la nd x := by
      intro m1 s2 q1 e49 hs2 hW2 hI2
      have hX1 := hX.q q1.1
      have hf1 := hf.q hX.e q1.1
      have hbI2 := hW2.bubI (k := b) (by omega)
      have e22 : m1 41 b.toNat = s2 2 b.toNat := hs2.i 2 (by decide) (by omega)
      have hmatch : ∀ i : Int, 0 ≤ i → i < ft 0 0 → ft 1 i.toNat = x → s2 = aTr pl sc b c x.toNat := by
        intro i i1 i2 i3
        have := hmx i i1 i2
        rcases hI2 with h | h
        · exact h
        · omega
      refine s_seer_follow_120 hX.r hX.p (zScn_23 hX.r) (u_asFelt hX1 hP.1 (by omega) hF hf1 hs2 hW2 (by omega) (fun hall => ?_) (fun hall => ?_))
      · refine ⟨by decide, fun _ => ⟨by omega, by omega, ?_⟩, fun q => absurd q (by decide)⟩
        rw [e22]
        have hq2 : QF p mem (zup m1 49 x.toNat (s2 2 b.toNat)) := q1.trans ⟨⟨fun i a b c d => zup_row _ _ _ (by omega), by rw [zup_row _ _ _ (by decide)]⟩, zup_row _ _ _ (by decide), zup_row _ _ _ (by decide), zup_row _ _ _ (by decide), zup_row _ _ _ (by decide)⟩
        refine u_follow_52 hP hD hF hb hfl hc hnd hla hmx n (hX.q hq2.1) (hf.q hX.e hq2.1) (hs2.fr (fun i i1 i2 => zup_row _ _ _ (by omega))) ?_ hW2 (by omega) (by omega) ?_ ?_ ?_ (fun m3 f3 => k1 m3 (hq2.trans f3)) (fun m3 f3 => k0 m3 (hq2.trans f3))
        · intro c c1 c2
          show (zup m1 49 x.toNat (s2 2 b.toNat)) 37 c.toNat = _
          rw [zup_row _ _ _ (by decide), q1.2.2.1]
          exact hr c c1 c2
        · have ex : (x + 1 - 1).toNat = x.toNat := by omega
          rw [ex]
          rcases hI2 with h | h
          · exact Or.inl h
          · exact Or.inr ⟨by omega, h.2⟩
        · intro j j1 j2
          rw [zupk h0 j1]
          by_cases e : j = x
          · rw [if_pos ⟨rfl, e⟩, e]
            rcases hI2 with h | h
            · rw [h]
            · rw [h.2.1, h.2.2]
          · rw [if_neg (fun q => e q.2), e49]
            exact hpa j j1 (by omega)
        · intro i i1 i2 i3
          by_cases e : ft 1 i.toNat = x
          · have h5 := hall i i1 i2 e
            rw [hmatch i i1 i2 e] at h5
            rw [e]
            exact h5
          · exact hfe i i1 i2 (by omega)
      · refine ⟨by decide, fun q => absurd rfl q, fun _ => k0 m1 q1 ?_⟩
        cases hok : aOK pl sc ft b c with
        | false => rfl
        | true =>
          exfalso
          apply hall
          rw [aOK_iff hF] at hok
          intro i i1 i2 i3
          have h5 := (hok i i1 i2).2
          rw [hmatch i i1 i2 i3]
          rw [i3] at h5
          exact h5
    -- the pass, where there is one
    have g94 : ∀ f : Int, (f = 1 ∧ nd < x ∧ s1 2 b.toNat = -1) ∨ (f = 0 ∧ ¬ (nd < x ∧ s1 2 b.toNat = -1)) → L_seer_follow_94 X d rf Q mem p 23 b la nd x f := by
      intro f hfv
      refine s_seer_follow_94 hX.r hX.p (zScn_23 hX.r) ⟨by omega, fun q => ?_, fun q => ⟨by omega, fun q2 => ?_, fun q2 => ?_⟩⟩
      · refine g120 mem s1 QF.rfl rfl hs hW ?_
        have ex : x = 0 := by omega
        rw [ex] at hI ⊢
        exact hI
      · have h1 : nd < x ∧ s1 2 b.toNat = -1 := by omega
        refine g120 mem s1 QF.rfl rfl hs hW (Or.inr ⟨h1.1, h1.2, ?_⟩)
        have ex : x.toNat = (x - 1).toNat + 1 := by omega
        rw [ex, aTr_succ]
        refine aPass_gone hb.1 ?_
        rcases hI with h | h
        · rw [← h]; exact h1.2
        · exact h.2.2
      · have h1 : s1 = aTr pl sc b c (x - 1).toNat := by
          rcases hI with h | h
          · exact h
          · omega
        have ex : x.toNat = (x - 1).toNat + 1 := by omega
        have h02 : s1 0 2 = sc 0 2 := by rw [h1]; exact aTr_02 _
        have hse : s1 0 0 = sc 0 0 + ((x - 1).toNat : Int) := by rw [h1]; exact aTr_sec _
        refine u_pass (o := 39) (w := 36) hX.r hX.p hX.u (zWrk_36 hX.r) (zScn_39 hX.r) hX.dj hD hP.1 hP.2.1 (zwind_rng hP.1 (sc 0 2)) (fun c hc => zwind_neg hP.1 (sc 0 2) hc) (by decide) hX.pc hs hr hW (by omega) ?_
        intro m1 g1 f1
        have ea : (aPass pl (zwind pl (sc 0 2)) (-1) s1).2 = aTr pl sc b c x.toNat := by
          rw [ex, aTr_succ, aTr_02, h1]
        refine g120 m1 _ (f1.qf hX.e) ?_ g1 (hW.pass hP.1 _ _ (by omega)) (Or.inl ea)
        have he := hX.e
        exact f1 49 (by omega) (by omega) (by omega) (by omega) (by omega)
    refine s_seer_follow_52 hX.r hX.p (zScn_23 hX.r) ⟨by omega, fun q => absurd q (by omega), fun _ => ⟨by omega, fun q => absurd q (by omega), fun _ => ⟨by omega, fun q => g94 0 (Or.inr ⟨rfl, by omega⟩), fun q => ⟨by omega, ?_⟩⟩⟩⟩
    rw [e2]
    exact ⟨by omega, fun q2 => g94 0 (Or.inr ⟨rfl, fun c => q2 c.2⟩), fun q2 => g94 1 (Or.inl ⟨rfl, by omega, q2⟩)⟩
theorem u_follow {D : Nat} {Q : Int → zF → Prop} {mem : zF} (hX : CX rf mem p pl sc) (hP : PX pl sc) (hD : 5 ≤ D) (hF : FEp pl ft) (hf : FEc mem pl ft) (hr : WR mem 36 (zwind pl (sc 0 2))) {b c la : Int} (hb : 0 ≤ b ∧ b < 6 ∧ b < pl 1 2) (hfl : sc 2 b.toNat ≠ -1) (hc : zic (pl 0 1) (pl 0 2) c) (hl0 : 0 ≤ la ∧ la ≤ 30) (hla : (sc 0 0 + la ≤ 999 ∧ ∀ i : Int, 0 ≤ i → i < ft 0 0 → sc 0 0 + ft 1 i.toNat ≤ 999 → ft 1 i.toNat ≤ la) ∨ ((∀ i : Int, 0 ≤ i → i < ft 0 0 → ft 1 i.toNat ≤ la) ∧ (la = 0 ∨ ∃ i : Int, 0 ≤ i ∧ i < ft 0 0 ∧ ft 1 i.toNat = la))) (k1 : ∀ mem', QF p mem mem' → aOK pl sc ft b c = true → (∀ j : Int, 0 ≤ j → j ≤ la → mem' 49 j.toNat = aTr pl sc b c j.toNat 2 b.toNat) → Q 1 mem') (k0 : ∀ mem', QF p mem mem' → aOK pl sc ft b c = false → Q 0 mem') : Ci X D 118 [(2, 35), (2, p), (2, 23), (0, b), (0, c), (0, la)] rf mem Q := by
  obtain ⟨d, rfl⟩ : ∃ d, D = d + 1 := ⟨D - 1, by omega⟩
  have hsec := hP.2.2.1.sec
  have h9 := hP.2.2.2
  refine s_seer_follow hX.r hX.p (zScn_23 hX.r) (u_lastFelt hX.r (by omega) hF hf ?_)
  intro nd n1 n2 n3
  refine u_isThere hX.r hX.p hX.pc hP.1 (by omega) (by decide) (by omega) (fun _ => ?_) (fun q => absurd (show zthere pl 2 b from ⟨hb.1, hb.2.1, by decide, by decide, hb.2.2⟩) q)
  refine ⟨by decide, fun q => absurd q (by decide), fun _ => ?_⟩
  rw [hX.s.z 0 (by decide)]
  refine ⟨by omega, fun q => ?_, fun q => k0 mem QF.rfl ?_⟩
  · have hlb : nd ≤ la ∧ sc 0 0 + la ≤ 999 := by
      rcases hla with h | h
      · refine ⟨?_, h.1⟩
        rcases n3 with h3 | ⟨i, i1, i2, i3⟩
        · omega
        · have := h.2 i i1 i2 (by omega)
          omega
      · have h4 : nd ≤ la := by
          rcases n3 with h3 | ⟨i, i1, i2, i3⟩
          · omega
          · have := h.1 i i1 i2
            omega
        rcases h.2 with h3 | ⟨i, i1, i2, i3⟩
        · omega
        · have := n2 i i1 i2
          omega
    refine u_copyT hX ?_
    intro m1 g1 f1
    refine ⟨by omega, ?_⟩
    have hs2 : SC (zup m1 41 b.toNat c) 39 (zup sc 2 b.toNat c) := g1.up 2 _ _
    have hF2 : FS 39 mem (zup m1 41 b.toNat c) := f1.up (s := 2) (by decide)
    have hW2 := hP.2.2.1.s2 (b := b) (by omega) hfl hc
    refine u_follow_52 hP (by omega) hF hb hfl hc ⟨n1.1, hlb.1⟩ ⟨hl0.2, hlb.2⟩ n2 (la + 1).toNat (x := 0) (hX.q hF2.qc) (hf.q hX.e hF2.qc) hs2 ?_ hW2 (by omega) (by omega) (Or.inl rfl) (fun j j1 j2 => by omega) (fun i i1 i2 i3 => ?_) (fun m3 f3 => k1 m3 (hF2.qf.trans f3)) (fun m3 f3 => k0 m3 (hF2.qf.trans f3))
    · intro c c1 c2
      rw [hF2 (36 + 1) (by omega)]
      exact hr c c1 c2
    · have := (hF.2 i i1 i2).1
      omega
  · cases hok : aOK pl sc ft b c with
    | false => rfl
    | true =>
      exfalso
      rw [aOK_iff hF] at hok
      rcases n3 with h3 | ⟨i, i1, i2, i3⟩
      · omega
      · have := (hok i i1 i2).1
        omega
end FELT
