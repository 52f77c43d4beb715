/-! tells of the program; from and tells of the reference -/
section TELL2
variable {X : zX} {p : Nat} {rf pl sc ft : zF}
theorem aC_step {P : Int → Bool} {c : Int} {n : Nat} : aC P c (n + 1) = (if P c = true then 1 else 0) + aC P (c + 1) n := rfl
theorem aTr_rng (hP : PX pl sc) {b c : Int} (hb : 0 ≤ b ∧ b < 6) (hf : sc 2 b.toNat ≠ -1) (hc : zic (pl 0 1) (pl 0 2) c) {k : Nat} (hk : sc 0 0 + k ≤ 1000) : -1 ≤ aTr pl sc b c k 2 b.toNat ∧ aTr pl sc b c k 2 b.toNat < 64 := (WS.tr hP.1 hP.2.2.1 hb hf hc hk).bubI hb
theorem u_telling_35 {d : Nat} {Q : Int → zF → Prop} (hP : PX pl sc) (hD : 5 ≤ d) (hF : FEp pl ft) {b : Int} (hb : 0 ≤ b ∧ b < 6 ∧ b < pl 1 2) (hfl : sc 2 b.toNat ≠ -1) : ∀ (m : Nat) {x t : Int} {mem : zF}, CX rf mem p pl sc → FEc mem pl ft → WR mem 36 (zwind pl (sc 0 2)) → 0 ≤ x → x + m = 64 → (∀ mem', QC p mem mem' → (∀ n g : Int, 1 ≤ n → n ≤ aSoon sc → -1 ≤ g → g < 64 → mem' 50 (65 * n + zgi g).toNat = mem 50 (65 * n + zgi g).toNat + aC (aIn pl sc ft b n g) x m) → L_seer_findTelling_96 X d rf Q (zup (zup mem' 35 10 (-1)) 35 11 (t + aC (aLeft pl sc ft b) x m + 1)) p 23 (aSoon sc) (t + aC (aLeft pl sc ft b) x m) 1) → L_seer_findTelling_35 X d rf Q mem p 23 b (aSoon sc) t x
  | 0, x, t, mem, hX, hf, hr, h0, hx, kk => by
    have := kk mem QC.rfl (fun n g _ _ _ _ => by unfold aC; omega)
    have e : t + aC (aLeft pl sc ft b) x 0 = t := by unfold aC; omega
    rw [e] at this
    exact s_seer_findTelling_35 hX.r hX.p (zScn_23 hX.r) ⟨by omega, fun _ => this, fun q => absurd q (by omega)⟩
  | m + 1, x, t, mem, hX, hf, hr, h0, hx, kk => by
    have hcr := hP.1.cr
    have hsec := hP.2.2.1.sec
    have h9 := hP.2.2.2
    have hso : 0 ≤ aSoon sc ∧ aSoon sc ≤ 30 ∧ sc 0 0 + aSoon sc ≤ 999 := by unfold aSoon; omega
    have hic := zic_iff (C := pl 0 1) (R := pl 0 2) (c := x) (by omega) (by omega) (by omega)
    have skip : ∀ m1, QF p mem m1 → aLeft pl sc ft b x = false → L_seer_findTelling_35 X d rf Q m1 p 23 b (aSoon sc) t (x + 1) := by
      intro m1 q1 hno
      refine u_telling_35 hP hD hF hb hfl m (hX.q q1.1) (hf.q hX.e q1.1) ?_ (by omega) (by omega) ?_
      · intro c c1 c2
        show m1 37 c.toNat = _
        rw [q1.2.2.1]
        exact hr c c1 c2
      · intro m2 f2 g2
        have := kk m2 (q1.1.trans f2) (fun n g n1 n2 b1 b2 => ?_)
        · rw [aC_step, if_neg (by rw [hno]; decide), Int.zero_add] at this
          exact this
        · rw [g2 n g n1 n2 b1 b2, q1.2.2.2.1, aC_step, if_neg, Int.zero_add]
          unfold aIn
          rw [hno, Bool.false_and]
          decide
    refine s_seer_findTelling_35 hX.r hX.p (zScn_23 hX.r) ⟨by omega, fun q => absurd q (by omega), fun _ => u_isCell hX.r hX.p hX.pc hP.1 (by omega) (by omega) (fun c1 => ?_) (fun c1 => ?_)⟩
    · refine ⟨by decide, fun q => absurd q (by decide), fun _ => u_follow hX hP hD hF hf hr hb hfl c1 ⟨hso.1, hso.2.1⟩ (Or.inl ⟨hso.2.2, fun i i1 i2 i3 => ?_⟩) (fun m1 q1 hok hpa => ?_) (fun m1 q1 hok => ?_)⟩
      · have := (hF.2 i i1 i2).1
        unfold aSoon
        omega
      · have hyes : aLeft pl sc ft b x = true := by
          unfold aLeft
          rw [hok, Bool.and_true]
          exact decide_eq_true (hic.mpr c1)
        refine ⟨by decide, fun q => absurd q (by decide), fun _ => s_seer_countPath hX.r (u_count_2 hX.r hso.2.1 (aSoon sc).toNat (by omega) (by omega) (fun n n1 n2 => ?_) ?_)⟩
        · rw [hpa n n1 n2]
          exact aTr_rng hP (by omega) hfl c1 (by omega)
        · intro m2 f2 g2
          have hq2 : QC p mem m2 := q1.1.trans ⟨fun i a b c d => f2 i (by omega), by rw [f2 35 (by decide)]⟩
          refine u_telling_35 hP hD hF hb hfl m (hX.q hq2) (hf.q hX.e hq2) ?_ (by omega) (by omega) ?_
          · intro c c1 c2
            show m2 37 c.toNat = _
            rw [f2 37 (by decide), q1.2.2.1]
            exact hr c c1 c2
          · intro m3 f3 g3
            have := kk m3 (hq2.trans f3) (fun n g n1 n2 b1 b2 => ?_)
            · rw [aC_step, if_pos hyes] at this
              have e : t + (1 + aC (aLeft pl sc ft b) (x + 1) m) = t + 1 + aC (aLeft pl sc ft b) (x + 1) m := by omega
              rw [e] at this
              exact this
            · rw [g3 n g n1 n2 b1 b2, g2 n g n1 n2 b1 b2, q1.2.2.2.1, aC_step, hpa n (by omega) n2]
              have e : (if aIn pl sc ft b n g x = true then (1 : Int) else 0) = if 1 ≤ n ∧ aTr pl sc b x n.toNat 2 b.toNat = g then 1 else 0 := by
                unfold aIn
                rw [hyes, Bool.true_and]
                by_cases q : aTr pl sc b x n.toNat 2 b.toNat = g
                · rw [if_pos (decide_eq_true q), if_pos ⟨n1, q⟩]
                · rw [if_neg (by rw [decide_eq_false q]; decide), if_neg (fun c => q c.2)]
              rw [e]
              omega
      · refine ⟨by decide, fun _ => skip m1 q1 ?_, fun q => absurd rfl q⟩
        unfold aLeft
        rw [hok, Bool.and_false]
    · refine ⟨by decide, fun _ => skip mem QF.rfl ?_, fun q => absurd rfl q⟩
      unfold aLeft
      rw [decide_eq_false (fun c => c1 (hic.mp c)), Bool.false_and]
theorem aCnt_rng {b n : Int} (g : Int) : 0 ≤ aCnt pl sc ft b n g ∧ aCnt pl sc ft b n g ≤ 64 := aC_rng 64 0
theorem u_telling_96 {d : Nat} {Q : Int → zF → Prop} (hD : 1 ≤ d) {b left : Int} (hl : 0 < left ∧ left ≤ 64) : ∀ (m : Nat) {n : Int} {mem : zF} {s : Int × Int}, CX rf mem p pl sc → 1 ≤ n → n + m = aSoon sc + 1 → aSoon sc ≤ 30 → mem 35 10 = s.1 → mem 35 11 = s.2 → inI s.1 → inI s.2 → (∀ n g : Int, 1 ≤ n → n ≤ aSoon sc → -1 ≤ g → g < 64 → mem 50 (65 * n + zgi g).toNat = aCnt pl sc ft b n g) → (∀ mem', QC p mem mem' → mem' 35 10 = (aIt (aTell1 pl sc ft b) n m s).1 → mem' 35 11 = (aIt (aTell1 pl sc ft b) n m s).2 → Q (if (aIt (aTell1 pl sc ft b) n m s).1 = -1 then 0 else 1) mem') → L_seer_findTelling_96 X d rf Q mem p 23 (aSoon sc) left n
  | 0, n, mem, s, hX, h1, hn, h30, h10, h11, i1, i2, hg, kk => by
    refine s_seer_findTelling_96 hX.r hX.p (zScn_23 hX.r) ⟨by omega, fun _ => ?_, fun q => absurd q (by omega)⟩
    have := kk mem QC.rfl h10 h11
    unfold aIt at this
    refine s_seer_findTelling_143 hX.r hX.p (zScn_23 hX.r) ?_
    rw [h10]
    refine ⟨i1, fun q => ?_, fun q => ?_⟩
    · rwa [if_pos q] at this
    · rwa [if_neg q] at this
  | m + 1, n, mem, s, hX, h1, hn, h30, h10, h11, i1, i2, hg, kk => by
    unfold aIt at kk
    obtain ⟨d, rfl⟩ : ∃ e, d = e + 1 := ⟨d - 1, by omega⟩
    refine s_seer_findTelling_96 hX.r hX.p (zScn_23 hX.r) ⟨by omega, fun q => absurd q (by omega), fun _ => ⟨by omega, fun q => absurd q (by omega), fun _ => ?_⟩⟩
    refine s_seer_largestGroup hX.r ?_
    have e0 : 65 * n = 65 * n + 0 := by omega
    rw [e0]
    refine u_largest_7 hX.r (by omega) (f := aCnt pl sc ft b n) (fun g g1 g2 => hg n g h1 (by omega) g1 g2) (fun g => aCnt_rng g) 65 (by omega) (by omega) (fun g g1 g2 g3 => by have := zgi_rng ⟨g1, g2⟩; omega) (by decide) (Or.inl rfl) ?_
    intro v hv hv64
    have ev : v = aMx (aCnt pl sc ft b n) := hv.unique (aMx_ok _)
    have hv0 := hv.2.1
    rw [h11]
    refine ⟨⟨by omega, i2⟩, fun q => ?_, fun q => ?_⟩
    · have ea : aTell1 pl sc ft b n s = s := by
        unfold aTell1
        rw [if_neg (by omega)]
      rw [ea] at kk
      exact u_telling_96 (by omega) hl m hX (by omega) (by omega) h30 h10 h11 i1 i2 hg kk
    · have ea : aTell1 pl sc ft b n s = (n, v) := by
        unfold aTell1
        rw [if_pos (by omega), ev]
      rw [ea] at kk
      have hq2 : QC p mem (zup (zup mem 35 10 n) 35 11 v) := ⟨fun i a b c d => by rw [zup_row _ _ _ (by omega), zup_row _ _ _ (by omega)], by rw [zup_ne _ _ _ _ (by decide), zup_ne _ _ _ _ (by decide)]⟩
      refine u_telling_96 (s := (n, v)) (by omega) hl m (hX.q hq2) (by omega) (by omega) h30 (by rw [zup_ne _ _ _ _ (by decide), zup_at]) (by rw [zup_at]) (by show inI n; omega) (by show inI v; omega) (fun n g n1 n2 b1 b2 => by rw [zup_row _ _ _ (by decide), zup_row _ _ _ (by decide)]; exact hg n g n1 n2 b1 b2) (fun m3 f3 => kk m3 (hq2.trans f3))
theorem u_startF {D : Nat} {Q : zF → Prop} {mem : zF} (hX : CX rf mem p pl sc) (hP : PX pl sc) (hD : 5 ≤ D) (kk : ∀ mem', SC mem' 39 sc → WR mem' 36 (zwind pl (sc 0 2)) → (∀ i, (i < 39 ∨ 47 < i) → i ≠ 37 → mem' i = mem i) → Q mem') : Cv X D 100 [(2, 35), (2, p), (2, 23)] rf mem Q := by
  obtain ⟨d, rfl⟩ : ∃ d, D = d + 1 := ⟨D - 1, by omega⟩
  have hp := hX.e
  refine s_seer_start hX.r hX.p (zScn_23 hX.r) (u_copyT hX ?_)
  intro m1 g1 f1
  have hX1 := hX.q (f1.qc (p := p))
  refine u_prepare (o := 39) (w := 36) hX.r (zWrk_36 hX.r) hX.p (zScn_39 hX.r) hP.1 (by omega) (by decide) (by omega) hP.2.2.1.opn hX1.pc (g1.z 2 (by decide)) ?_
  intro m2 f2 g2
  exact kk m2 (g1.fr (fun i h1 h2 => f2 i (by omega))) g2 (fun i i1 i2 => (f2 i (by omega)).trans (f1 i (by omega)))
theorem u_tells {D : Nat} {Q : Int → zF → Prop} {mem : zF} (hX : CX rf mem p pl sc) (hP : PX pl sc) (hF : FEp pl ft) (hf : FEc mem pl ft) (hD : 8 ≤ D) {b w : Int} (hb : inI b) (hw : inI w) (kk : ∀ mem', QC p mem mem' → Q (aTells pl sc ft b w) mem') : Ci X D 171 [(2, 0), (0, b), (0, w)] rf mem Q := by
  obtain ⟨d, rfl⟩ : ∃ d, D = d + 1 := ⟨D - 1, by omega⟩
  obtain ⟨d, rfl⟩ : ∃ e, d = e + 1 := ⟨d - 1, by omega⟩
  have hN := hP.1.n
  have hsec := hP.2.2.1.sec
  have h9 := hP.2.2.2
  have hso : 0 ≤ aSoon sc ∧ aSoon sc ≤ 30 := by unfold aSoon; omega
  have hcr := aC_rng (P := aLeft pl sc ft b) 64 0
  unfold aTells at kk
  refine s_c_tells hX.r hX.p hX.f (u_floats hX hP (by omega) hb (fun h => ?_) (fun h => ?_))
  · refine ⟨by decide, fun q => absurd q (by decide), fun _ => ⟨hw, fun q => ?_, fun q => ⟨hw, fun q2 => ?_, fun q2 => ?_⟩⟩⟩
    · have := kk mem QC.rfl
      rwa [if_neg (fun c => by omega)] at this
    · have := kk mem QC.rfl
      rwa [if_neg (fun c => by omega)] at this
    · refine s_seer_findTelling hX.r hX.p (zScn_23 hX.r) ?_
      rw [hX.s.z 0 (by decide)]
      refine u_min hX.r (by decide) (by omega) (u_fill (q := 50) (n := 2015) rfl (by decide) ?_)
      intro m1 f1 g1
      have hq1 : QC p mem m1 := ⟨fun i a b c d => f1 i (by omega), by rw [f1 35 (by decide)]⟩
      refine u_startF (hX.q hq1) hP (by omega) ?_
      intro m2 g2 g3 f2
      have hq2 : QC p mem m2 := hq1.trans ⟨fun i a b c d => f2 i (by omega) (by omega), by rw [f2 35 (by decide) (by decide)]⟩
      have h50 : ∀ n g : Int, 1 ≤ n → n ≤ aSoon sc → -1 ≤ g → g < 64 → m2 50 (65 * n + zgi g).toNat = 0 := by
        intro n g n1 n2 b1 b2
        have := zgi_rng ⟨b1, b2⟩
        rw [f2 50 (by decide) (by decide)]
        exact g1 _ (by omega)
      refine u_telling_35 hP (by omega) hF (b := b) (by omega) h.2.2 64 (hX.q hq2) (hf.q hX.e hq2) g3 (by omega) (by omega) ?_
      intro m3 f3 g4
      have hq3 := hq2.trans f3
      have e0 : (0 : Int) + aC (aLeft pl sc ft b) 0 64 = aC (aLeft pl sc ft b) 0 64 := by omega
      rw [e0]
      have hq4 : QC p mem (zup (zup m3 35 10 (-1)) 35 11 (aC (aLeft pl sc ft b) 0 64 + 1)) := hq3.trans ⟨fun i a b c d => by rw [zup_row _ _ _ (by omega), zup_row _ _ _ (by omega)], by rw [zup_ne _ _ _ _ (by decide), zup_ne _ _ _ _ (by decide)]⟩
      by_cases hle : 0 < aC (aLeft pl sc ft b) 0 64
      · rw [if_pos ⟨h, by omega, hle⟩] at kk
        refine u_telling_96 (s := (-1, aC (aLeft pl sc ft b) 0 64 + 1)) (ft := ft) (b := b) (by omega) ⟨hle, hcr.2⟩ (aSoon sc).toNat (hX.q hq4) (by omega) (by omega) hso.2 (by rw [zup_ne _ _ _ _ (by decide), zup_at]) (by rw [zup_at]) (by show inI (-1); decide) (by show inI (aC (aLeft pl sc ft b) 0 64 + 1); omega) (fun n g n1 n2 b1 b2 => ?_) ?_
        · rw [zup_row _ _ _ (by decide), zup_row _ _ _ (by decide), g4 n g n1 n2 b1 b2, h50 n g n1 n2 b1 b2, Int.zero_add]
          rfl
        · intro m5 f5 a10 a11
          have := kk m5 (hq4.trans f5)
          unfold aTellS at this
          by_cases q5 : (aIt (aTell1 pl sc ft b) 1 (aSoon sc).toNat (-1, aC (aLeft pl sc ft b) 0 64 + 1)).1 = -1
          · rw [if_pos q5]
            rw [if_pos (Or.inl q5), q5] at this
            exact ⟨by decide, fun q => absurd rfl q, fun _ => this⟩
          · rw [if_neg q5]
            rw [a10, a11]
            refine ⟨by decide, fun _ => ⟨hw, fun q6 => ?_, fun q6 => ?_⟩, fun q => absurd q (by decide)⟩
            · rwa [if_neg (by omega)] at this
            · rwa [if_pos (Or.inr q6)] at this
      · rw [if_neg (fun c => hle c.2.2)] at kk
        have g143 : L_seer_findTelling_143 X d rf (fun r6 mem7 => inI r6 ∧ (¬r6 = 0 → inI w ∧ (¬w = 0 → Q (mem7 35 11) mem7) ∧ (w = 0 → Q (mem7 35 10) mem7)) ∧ (r6 = 0 → Q (-1) mem7)) (zup (zup m3 35 10 (-1)) 35 11 (aC (aLeft pl sc ft b) 0 64 + 1)) p 23 := by
          refine s_seer_findTelling_143 hX.r hX.p (zScn_23 hX.r) ?_
          rw [zup_ne _ _ _ _ (by decide), zup_at]
          exact ⟨by decide, fun _ => ⟨by decide, fun q => absurd rfl q, fun _ => kk _ hq4⟩, fun q => absurd rfl q⟩
        exact s_seer_findTelling_96 hX.r hX.p (zScn_23 hX.r) ⟨by omega, fun _ => g143, fun _ => ⟨by omega, fun _ => g143, fun q => absurd q (by omega)⟩⟩
  · refine ⟨by decide, fun _ => ?_, fun q => absurd rfl q⟩
    have := kk mem QC.rfl
    rwa [if_neg (fun c => h c.1)] at this
end TELL2
