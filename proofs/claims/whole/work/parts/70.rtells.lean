/-! tells of the reference -/
section RTELLS
variable {X : zX} {rf pl sc ft : zF}
theorem t_most_25 {d : Nat} {Q : Int → zF → Prop} (hP : PX pl sc) {b n : Int} (hb : 0 ≤ b ∧ b < 6) (hfl : sc 2 b.toNat ≠ -1) (hn : 1 ≤ n ∧ n ≤ aSoon sc) : ∀ (m : Nat) {x : Nat} {t : Int} {mem : zF}, RX rf mem pl sc → LF mem pl sc ft b 64 → x + m = 64 → (∀ g : Int, -1 ≤ g → g < 64 → mem 313 (g + 1).toNat = aC (aIn pl sc ft b n g) 0 x) → MX (fun g => aC (aIn pl sc ft b n g) 0 x) t → t ≤ x → (∀ mem', (∀ i, i ≠ 313 → mem' i = mem i) → Q (aMx (aCnt pl sc ft b n)) mem') → L_m_mostBy_25 X d rf Q mem n t x
  | 0, x, t, mem, hX, hl, hx, hg, hm, ht, kk => by
    have e : x = 64 := by omega
    subst e
    have ev : t = aMx (aCnt pl sc ft b n) := hm.unique (aMx_ok (aCnt pl sc ft b n))
    refine s_m_mostBy_25 hX.1 ⟨by decide, fun _ => ?_, fun q => absurd q (by decide)⟩
    rw [ev]
    exact kk mem (fun _ _ => rfl)
  | m + 1, x, t, mem, hX, hl, hx, hg, hm, ht, kk => by
    have hso : aSoon sc ≤ 30 ∧ sc 0 0 + aSoon sc ≤ 999 := by unfold aSoon; omega
    have hcr := hP.1.cr
    have h5 := hl (x : Int) (by omega) (by omega)
    have ex : (x : Int) + 1 = ((x + 1 : Nat) : Int) := by omega
    refine s_m_mostBy_25 hX.1 ⟨by omega, fun q => absurd q (by omega), fun _ => ⟨by omega, ?_⟩⟩
    rw [h5.1]
    have hsucc : ∀ g : Int, aC (aIn pl sc ft b n g) 0 (x + 1) = aC (aIn pl sc ft b n g) 0 x + (if aIn pl sc ft b n g x = true then 1 else 0) := by
      intro g
      rw [aC_succ, Int.zero_add]
    cases hy : aLeft pl sc ft b x with
    | false =>
      rw [if_neg (by decide)]
      have hno : ∀ g : Int, aC (aIn pl sc ft b n g) 0 (x + 1) = aC (aIn pl sc ft b n g) 0 x := by
        intro g
        rw [hsucc g, if_neg, Int.add_zero]
        unfold aIn
        rw [hy, Bool.false_and]
        decide
      refine ⟨by decide, fun q => absurd rfl q, fun _ => ?_⟩
      rw [ex]
      refine t_most_25 hP hb hfl hn m hX hl (by omega) (fun g g1 g2 => by rw [hno g]; exact hg g g1 g2) ?_ (by omega) kk
      have : (fun g => aC (aIn pl sc ft b n g) 0 (x + 1)) = fun g => aC (aIn pl sc ft b n g) 0 x := funext hno
      rw [this]
      exact hm
    | true =>
      rw [if_pos rfl]
      have e1 := h5.2 hy n (by omega) hn.2
      have hcx : zic (pl 0 1) (pl 0 2) (x : Int) := by
        unfold aLeft at hy
        simp only [Bool.and_eq_true] at hy
        exact (zic_iff (C := pl 0 1) (R := pl 0 2) (c := (x : Int)) (by omega) (by omega) (by omega)).mp (of_decide_eq_true hy.1)
      have hgr := aTr_rng hP hb hfl hcx (k := n.toNat) (by omega)
      rw [e1]
      generalize hg0 : aTr pl sc b (x : Int) n.toNat 2 b.toNat = g0 at hgr
      have hg1 := hg g0 hgr.1 hgr.2
      have hcr2 := aC_rng (P := aIn pl sc ft b n g0) x 0
      rw [hg1, zup_at]
      have hin : ∀ g : Int, aC (aIn pl sc ft b n g) 0 (x + 1) = aC (aIn pl sc ft b n g) 0 x + (if g = g0 then 1 else 0) := by
        intro g
        rw [hsucc g]
        have : (aIn pl sc ft b n g x = true) ↔ g = g0 := by
          unfold aIn
          rw [hy, Bool.true_and, hg0, decide_eq_true_eq]
          exact ⟨fun q => q.symm, fun q => q.symm⟩
        by_cases q : g = g0
        · rw [if_pos (this.mpr q), if_pos q]
        · rw [if_neg (fun c => q (this.mp c)), if_neg q]
      have fin : ∀ t2 : Int, t2 = max t (aC (aIn pl sc ft b n g0) 0 x + 1) → L_m_mostBy_25 X d rf Q (zup mem 313 (g0 + 1).toNat (aC (aIn pl sc ft b n g0) 0 x + 1)) n t2 ((x : Int) + 1) := by
        intro t2 ht2
        rw [ex]
        have hX2 : RX rf (zup mem 313 (g0 + 1).toNat (aC (aIn pl sc ft b n g0) 0 x + 1)) pl sc := hX.q hP (fun a j _ _ a2 => by rw [zup_row _ _ _ (by omega)])
        refine t_most_25 hP hb hfl hn m hX2 ?_ (by omega) (fun g g1 g2 => ?_) ?_ (by omega) (fun m2 f2 => kk m2 (fun i hi => (f2 i hi).trans (zup_row _ _ _ hi)))
        · unfold LF
          rw [zup_row _ _ _ (show (312 : Nat) ≠ 313 by decide), zup_row _ _ _ (show (311 : Nat) ≠ 313 by decide)]
          exact hl
        · rw [hin g, zup_get]
          by_cases q : g = g0
          · rw [if_pos ⟨rfl, by rw [q]⟩, if_pos q, q]
          · rw [if_neg (by omega), if_neg q, Int.add_zero]
            exact hg g g1 g2
        · refine ⟨fun g g1 g2 => ?_, by have := hm.2.1; omega, ?_⟩
          · have h6 := hm.1 g g1 g2
            dsimp only at h6 ⊢
            rw [hin g]
            by_cases q : g = g0
            · rw [if_pos q, q]; omega
            · rw [if_neg q]; omega
          · by_cases q : t ≤ aC (aIn pl sc ft b n g0) 0 x + 1
            · refine Or.inr ⟨g0, hgr.1, hgr.2, ?_⟩
              dsimp only
              rw [hin g0, if_pos rfl]
              omega
            · rcases hm.2.2 with h7 | ⟨g, g1, g2, g3⟩
              · omega
              · refine Or.inr ⟨g, g1, g2, ?_⟩
                dsimp only at g3 ⊢
                rw [hin g, if_neg]
                · omega
                · intro q2
                  rw [q2] at g3
                  omega
      have hm0 := hm.2.1
      refine ⟨by decide, fun _ => ⟨by omega, by omega, by omega, by omega, by omega, fun q => fin t (by omega), fun q => ⟨by omega, fin _ (by omega)⟩⟩, fun q => absurd q (by decide)⟩
theorem t_most_2 {d : Nat} {Q : Int → zF → Prop} (hR : zall rf zRK = true) {n : Int} : ∀ (m : Nat) {x : Int} {mem : zF}, 0 ≤ x → x + m = 65 → (∀ j : Int, 0 ≤ j → j < x → mem 313 j.toNat = 0) → (∀ mem', (∀ i, i ≠ 313 → mem' i = mem i) → (∀ j : Int, 0 ≤ j → j < 65 → mem' 313 j.toNat = 0) → L_m_mostBy_25 X d rf Q mem' n 0 0) → L_m_mostBy_2 X d rf Q mem n x
  | 0, x, mem, h0, hx, hz, kk => s_m_mostBy_2 hR ⟨by omega, fun _ => kk mem (fun _ _ => rfl) (fun j j1 j2 => hz j j1 (by omega)), fun q => absurd q (by omega)⟩
  | m + 1, x, mem, h0, hx, hz, kk => by
    refine s_m_mostBy_2 hR ⟨by omega, fun q => absurd q (by omega), fun _ => ⟨by omega, ?_⟩⟩
    refine t_most_2 hR m (by omega) (by omega) (fun j j1 j2 => ?_) (fun m1 f1 => kk m1 (fun i hi => (f1 i hi).trans (zup_row _ _ _ hi)))
    rw [zupk h0 j1]
    by_cases e : j = x
    · rw [if_pos ⟨rfl, e⟩]
    · rw [if_neg (fun q => e q.2)]
      exact hz j j1 (by omega)
theorem t_mostBy {d : Nat} {Q : Int → zF → Prop} {mem : zF} (hX : RX rf mem pl sc) (hP : PX pl sc) {b n : Int} (hb : 0 ≤ b ∧ b < 6) (hfl : sc 2 b.toNat ≠ -1) (hn : 1 ≤ n ∧ n ≤ aSoon sc) (hl : LF mem pl sc ft b 64) (kk : ∀ mem', (∀ i, i ≠ 313 → mem' i = mem i) → Q (aMx (aCnt pl sc ft b n)) mem') : Ci X d 297 [(2, 261), (0, n)] rf mem Q := by
  refine s_m_mostBy hX.1 (t_most_2 hX.1 65 (by omega) (by omega) (fun j j1 j2 => by omega) ?_)
  intro m1 f1 g1
  have hX1 : RX rf m1 pl sc := hX.q hP (fun a j _ _ a2 => by rw [f1 a (by omega)])
  refine t_most_25 (x := 0) hP hb hfl hn 64 hX1 ?_ (by omega) (fun g g1' g2 => g1 (g + 1) (by omega) (by omega)) ⟨fun g _ _ => Int.le_refl 0, Int.le_refl 0, Or.inl rfl⟩ (Int.le_refl 0) (fun m2 f2 => kk m2 (fun i hi => (f2 i hi).trans (f1 i hi)))
  unfold LF
  rw [f1 312 (by decide), f1 311 (by decide)]
  exact hl
theorem t_tells_45 {d : Nat} {Q : Int → zF → Prop} (hP : PX pl sc) (hD : 1 ≤ d) {b w left : Int} (hb : 0 ≤ b ∧ b < pl 1 2) (hfl : sc 2 b.toNat ≠ -1) (hl0 : left = aC (aLeft pl sc ft b) 0 64) (hlp : 0 < left) (hw : 0 ≤ w ∧ w ≤ 1) : ∀ (m : Nat) {n : Int} {mem : zF} {s : Int × Int} {x4 x5 : Int}, RX rf mem pl sc → LF mem pl sc ft b 64 → 1 ≤ n → n + m = aSoon sc + 1 → ((x4 = s.1 ∧ x5 = s.2) ∨ (x4 = -1 ∧ x5 = 100000000 ∧ s = (-1, left + 1))) → inI x4 → (0 ≤ x5 ∧ x5 ≤ 100000000) → (∀ mem', QR mem mem' → Q (if (aIt (aTell1 pl sc ft b) n m s).1 = -1 ∨ w = 0 then (aIt (aTell1 pl sc ft b) n m s).1 else (aIt (aTell1 pl sc ft b) n m s).2) mem') → L_m_tells_45 X d rf Q mem w left x4 x5 n
  | m, n, mem, s, x4, x5, hX, hl, h1, hn, hs, i4, i5, kk => by
    have hc0 := hP.1.c0
    have hN := hP.1.n
    have hsec := hP.2.2.1.sec
    have h9 := hP.2.2.2
    have hcr := aC_rng (P := aLeft pl sc ft b) 64 0
    have hso : aSoon sc = min 30 (999 - sc 0 0) := rfl
    have hmx := aMx_le (pl := pl) (sc := sc) (ft := ft) (b := b) (n := n)
    have hm0 := (aMx_ok (aCnt pl sc ft b n)).2.1
    refine s_m_tells_45 hX.1 (t_isAhead hX hP hD (by omega) (by decide) (by decide) (fun hq => ?_) (fun hq => ?_) (by decide))
    · have hq2 := hq.2
      unfold zcan at hq2
      obtain ⟨m1, rfl⟩ : ∃ m1, m = m1 + 1 := ⟨m - 1, by omega⟩
      unfold aIt at kk
      refine ⟨by decide, fun q => absurd q (by decide), fun _ => ⟨by omega, fun q => absurd q (by omega), fun _ => ?_⟩⟩
      refine t_mostBy hX hP (by omega) hfl ⟨h1, by omega⟩ hl ?_
      intro m2 f2
      have hq3 : QR mem m2 := fun a j _ _ a2 => by rw [f2 a (by omega)]
      have hl2 : LF m2 pl sc ft b 64 := by
        unfold LF
        rw [f2 312 (by decide), f2 311 (by decide)]
        exact hl
      refine ⟨by omega, fun q => ?_, fun q => ?_⟩
      · have ea : aTell1 pl sc ft b n s = (n, aMx (aCnt pl sc ft b n)) := by
          unfold aTell1
          rw [if_pos]
          rcases hs with h | h
          · omega
          · rw [h.2.2]; show aMx (aCnt pl sc ft b n) < left + 1; omega
        rw [ea] at kk
        exact t_tells_45 hP hD hb hfl hl0 hlp hw m1 (s := (n, aMx (aCnt pl sc ft b n))) (hX.q hP hq3) hl2 (by omega) (by omega) (Or.inl ⟨rfl, rfl⟩) (by omega) (by omega) (fun m3 f3 => kk m3 (hq3.trans f3))
      · rcases hs with h | h
        · have ea : aTell1 pl sc ft b n s = s := by
            unfold aTell1
            rw [if_neg (by omega)]
          rw [ea] at kk
          exact t_tells_45 hP hD hb hfl hl0 hlp hw m1 (hX.q hP hq3) hl2 (by omega) (by omega) (Or.inl h) i4 i5 (fun m3 f3 => kk m3 (hq3.trans f3))
        · omega
    · unfold zcan at hq
      have e : m = 0 := by omega
      subst e
      have := kk mem QR.rfl
      unfold aIt at this
      refine ⟨by decide, fun _ => s_m_tells_93 hX.1 ⟨i4, fun q => ?_, fun q => ⟨by omega, fun q2 => ?_, fun q2 => ?_⟩⟩, fun q => absurd rfl q⟩
      · rcases hs with h | h
        · rw [if_pos (Or.inl (by omega)), ← h.1] at this
          exact this
        · rw [h.2.2, if_pos (Or.inl rfl)] at this
          rw [q]
          exact this
      · rcases hs with h | h
        · rw [if_neg (by omega), ← h.2] at this
          exact this
        · exact absurd h.1 q
      · rcases hs with h | h
        · rw [if_pos (Or.inr q2), ← h.1] at this
          exact this
        · exact absurd h.1 q
theorem t_tells {D : Nat} {Q : Int → zF → Prop} {mem : zF} (hX : RX rf mem pl sc) (hP : PX pl sc) (hF : FEp pl ft) (hf : FEr mem ft) (hD : 9 ≤ D) {b w : Int} (hb : inI b) (hw : inI w) (kk : ∀ mem', QR mem mem' → Q (aTells pl sc ft b w) mem') : Ci X D 298 [(2, 261), (0, b), (0, w)] rf mem Q := by
  obtain ⟨d, rfl⟩ : ∃ d, D = d + 1 := ⟨D - 1, by omega⟩
  have hsec := hP.2.2.1.sec
  have h9 := hP.2.2.2
  have hso : aSoon sc = min 30 (999 - sc 0 0) := rfl
  have hcr := aC_rng (P := aLeft pl sc ft b) 64 0
  unfold aTells at kk
  refine s_m_tells hX.1 (t_isBubble hX hP.1 hb (fun q1 => ?_) (fun q1 => ?_))
  · refine ⟨by decide, fun q => absurd q (by decide), fun _ => t_floatsV hX.1 hP.1 hP.2.2.1 (by decide) hX.2.2 q1 (fun q2 => ?_) (fun q2 => ?_)⟩
    · refine ⟨by decide, fun q => absurd q (by decide), fun _ => t_is hX.1 hw (by decide) (by decide) ?_⟩
      by_cases hw2 : 0 ≤ w ∧ w ≤ 1
      · rw [if_pos hw2]
        refine ⟨by decide, fun _ => t_leaves hX hP (by omega) hF hf q1 q2 ?_, fun q => absurd q (by decide)⟩
        intro m1 f1 g1
        by_cases hle : 0 < aC (aLeft pl sc ft b) 0 64
        · rw [if_pos ⟨⟨q1.1, q1.2, q2⟩, hw2, hle⟩] at kk
          unfold aTellS at kk
          exact t_tells_45 hP (by omega) q1 q2 rfl hle hw2 (aSoon sc).toNat (s := (-1, aC (aLeft pl sc ft b) 0 64 + 1)) (hX.q hP f1) g1 (by omega) (by omega) (Or.inr ⟨rfl, rfl, rfl⟩) (by decide) (by decide) (fun m3 f3 => kk m3 (f1.trans f3))
        · rw [if_neg (fun c => hle c.2.2)] at kk
          have g93 : L_m_tells_93 X d rf Q m1 w (-1) 100000000 := s_m_tells_93 hX.1 ⟨by decide, fun _ => kk m1 f1, fun q => absurd rfl q⟩
          refine s_m_tells_45 hX.1 (t_isAhead (hX.q hP f1) hP (by omega) (by decide) (by decide) (by decide) (fun _ => ?_) (fun _ => ?_) (by decide))
          · exact ⟨by decide, fun q => absurd q (by decide), fun _ => ⟨by omega, fun _ => g93, fun q => absurd q (by omega)⟩⟩
          · exact ⟨by decide, fun _ => g93, fun q => absurd rfl q⟩
      · rw [if_neg hw2]
        refine ⟨by decide, fun q => absurd rfl q, fun _ => ?_⟩
        have := kk mem QR.rfl
        rwa [if_neg (fun c => hw2 c.2.1)] at this
    · refine ⟨by decide, fun _ => ?_, fun q => absurd rfl q⟩
      have := kk mem QR.rfl
      rwa [if_neg (fun c => c.1.2.2 q2)] at this
  · refine ⟨by decide, fun _ => ?_, fun q => absurd rfl q⟩
    have := kk mem QR.rfl
    rwa [if_neg (fun c => q1 ⟨c.1.1, c.1.2.1⟩)] at this
end RTELLS
