/-! the small questions of the reference -/
section RASK2
variable {X : zX} {rf pl sc : zF}
theorem RX.b {mem : zF} (h : RX rf mem pl sc) (s : Nat) (h1 : 2 ≤ s) (h2 : s ≤ 7) {k : Int} (k1 : 0 ≤ k) (k2 : k < pl 1 2) : mem (295 + s) k.toNat = sc s k.toNat := by
  have := h.2.2.b s h1 h2 k1 k2
  have e : (6 * 0 + k).toNat = k.toNat := by omega
  rwa [e] at this
theorem RX.h {mem : zF} (h : RX rf mem pl sc) {k : Int} (k1 : 0 ≤ k) (k2 : k < pl 1 1) : mem 296 k.toNat = sc 1 k.toNat := by
  have := h.2.2.2.1 k k1 k2
  have e : (6 * 0 + k).toNat = k.toNat := by omega
  rwa [e] at this
theorem t_inB_2 {d : Nat} {Q : Int → zF → Prop} {mem : zF} (hX : RX rf mem pl sc) (hP : PX pl sc) {k : Int} (hk : 0 ≤ k ∧ k < 6) : ∀ (n : Nat) {x : Int}, 0 ≤ x → x + n = 6 → Q (aFd (fun b => decide (zbit (sc 5 b.toNat) k = 1)) x n) mem → L_m_inBubble_2 X d rf Q mem k x
  | n, x, h0, hx, kk => by
    have hN := hP.1.n
    have hW := hP.2.2.1
    refine s_m_inBubble_2 hX.1 ⟨hX.2.1.bank, ?_⟩
    rw [hX.2.1.n.2.2.1]
    refine ⟨by omega, fun q => ?_, fun q => ⟨by omega, ?_⟩⟩
    · rw [aFd_no] at kk
      · exact kk
      · intro b b1 b2
        rcases hW.bub (k := b) (by omega) with h | h
        · rw [h.2.2.2, zbit_z hk]; rfl
        · omega
    · obtain ⟨m, rfl⟩ : ∃ m, n = m + 1 := ⟨n - 1, by omega⟩
      have e5 : mem 300 x.toNat = sc 5 x.toNat := hX.b 5 (by decide) (by decide) h0 (by omega)
      have hd := hW.deeds (k := x) (by omega)
      have h01 := zbit_01 hd hk
      rw [e5]
      refine t_has2 hX.1 hd hk ⟨by omega, fun q => ?_, fun q => ?_⟩
      · rw [aFd_f (decide_eq_false (by omega))] at kk
        exact t_inB_2 hX hP hk m (by omega) (by omega) kk
      · rw [aFd_t (decide_eq_true (by omega))] at kk
        exact kk
theorem t_inB {D : Nat} {Q : Int → zF → Prop} {mem : zF} (hX : RX rf mem pl sc) (hP : PX pl sc) (hD : 1 ≤ D) {k : Int} (hk : 0 ≤ k ∧ k < 6) (kk : Q (aBW sc k) mem) : Ci X D 272 [(2, 261), (0, k)] rf mem Q := by
  obtain ⟨d, rfl⟩ : ∃ d, D = d + 1 := ⟨D - 1, by omega⟩
  exact s_m_inBubble hX.1 (t_inB_2 hX hP hk 6 (by omega) (by omega) kk)
theorem t_has_127 {d : Nat} {Q : Int → zF → Prop} {mem : zF} (hX : RX rf mem pl sc) (hP : PX pl sc) : ∀ (n : Nat) {x c : Int}, 0 ≤ x → x + n = 6 → Q (c + aS (aFl sc) x n) mem → L_m_has_127 X d rf Q mem c x
  | n, x, c, h0, hx, kk => by
    have hN := hP.1.n
    have hW := hP.2.2.1
    refine s_m_has_127 hX.1 ⟨hX.2.1.bank, ?_⟩
    rw [hX.2.1.n.2.2.1]
    refine ⟨by omega, fun q => ?_, fun q => ?_⟩
    · rw [aS_zero] at kk
      · rwa [Int.add_zero] at kk
      · intro k k1 k2
        unfold aFl
        rw [if_pos (hW.bubN (by omega) (by omega))]
    · obtain ⟨m, rfl⟩ : ∃ m, n = m + 1 := ⟨n - 1, by omega⟩
      rw [aS_s, ← Int.add_assoc] at kk
      unfold aFl at kk
      refine t_floatsV hX.1 hP.1 hW (by decide) hX.2.2 ⟨h0, by omega⟩ (fun q2 => ?_) (fun q2 => ?_)
      · rw [if_neg q2] at kk
        exact ⟨by decide, fun q => absurd q (by decide), fun _ => t_has_127 hX hP m (by omega) (by omega) kk⟩
      · rw [if_pos q2] at kk
        exact ⟨by decide, fun _ => t_has_127 hX hP m (by omega) (by omega) kk, fun q => absurd rfl q⟩
theorem t_has_167 {d : Nat} {Q : Int → zF → Prop} {mem : zF} (hX : RX rf mem pl sc) (hP : PX pl sc) : ∀ (n : Nat) {x c : Int}, 0 ≤ x → x + n = pl 1 2 → Q (c + aS (aOw sc) x n) mem → L_m_has_167 X d rf Q mem c x
  | 0, x, c, h0, hx, kk => by
    have hN := hP.1.n
    refine s_m_has_167 hX.1 ⟨hX.2.1.bank, ?_⟩
    rw [hX.2.1.n.2.2.1]
    rw [aS_0, Int.add_zero] at kk
    exact ⟨by omega, fun _ => kk, fun q => absurd q (by omega)⟩
  | n + 1, x, c, h0, hx, kk => by
    have hN := hP.1.n
    have e6 : mem 301 x.toNat = sc 6 x.toNat := hX.b 6 (by decide) (by decide) h0 (by omega)
    have ho := (hP.2.2.1.owner (k := x) (by omega)).1
    rw [aS_s, ← Int.add_assoc] at kk
    unfold aOw at kk
    refine s_m_has_167 hX.1 ⟨hX.2.1.bank, ?_⟩
    rw [hX.2.1.n.2.2.1]
    refine ⟨by omega, fun q => absurd q (by omega), fun _ => ⟨by omega, ?_⟩⟩
    rw [e6]
    refine ⟨by omega, fun q => ?_, fun q => ?_⟩
    · rw [if_neg q] at kk
      exact t_has_167 hX hP n (by omega) (by omega) kk
    · rw [if_pos q] at kk
      exact t_has_167 hX hP n (by omega) (by omega) kk
theorem t_has_208 {d : Nat} {Q : Int → zF → Prop} {mem : zF} (hX : RX rf mem pl sc) (hP : PX pl sc) (hD : 1 ≤ d) : ∀ (n : Nat) {x c : Int}, 0 ≤ x → x + n = pl 1 2 → Q (c + aS (aLo sc) x n) mem → L_m_has_208 X d rf Q mem c x
  | 0, x, c, h0, hx, kk => by
    have hN := hP.1.n
    refine s_m_has_208 hX.1 ⟨hX.2.1.bank, ?_⟩
    rw [hX.2.1.n.2.2.1]
    rw [aS_0, Int.add_zero] at kk
    exact ⟨by omega, fun _ => kk, fun q => absurd q (by omega)⟩
  | n + 1, x, c, h0, hx, kk => by
    have hN := hP.1.n
    have e6 : mem 301 x.toNat = sc 6 x.toNat := hX.b 6 (by decide) (by decide) h0 (by omega)
    have ho := (hP.2.2.1.owner (k := x) (by omega)).1
    rw [aS_s, ← Int.add_assoc] at kk
    unfold aLo at kk
    refine s_m_has_208 hX.1 ⟨hX.2.1.bank, ?_⟩
    rw [hX.2.1.n.2.2.1]
    refine ⟨by omega, fun q => absurd q (by omega), fun _ => ⟨by omega, ?_⟩⟩
    rw [e6]
    refine ⟨by omega, fun q => ?_, fun q => ?_⟩
    · rw [if_neg (fun c => q c.1)] at kk
      exact t_has_208 hX hP hD n (by omega) (by omega) kk
    · refine t_inB hX hP hD (by omega) ?_
      have hr := aFd_rng (P := fun b => decide (zbit (sc 5 b.toNat) x = 1)) 6 0
      refine ⟨by unfold aBW; omega, fun q2 => ?_, fun q2 => ?_⟩
      · rw [if_neg (fun c => q2 c.2)] at kk
        exact t_has_208 hX hP hD n (by omega) (by omega) kk
      · rw [if_pos ⟨q, q2⟩] at kk
        exact t_has_208 hX hP hD n (by omega) (by omega) kk
theorem t_has {D : Nat} {Q : Int → zF → Prop} {mem : zF} (hX : RX rf mem pl sc) (hP : PX pl sc) (hD : 3 ≤ D) {nf nu sd w : Int} (hw : inI w) (h10 : mem 261 70 = nf) (h11 : mem 261 65 = nu) (h12 : mem 261 66 = sd) (kk : Q (aHas pl sc nf nu sd w) mem) : Ci X D 273 [(2, 261), (0, w)] rf mem Q := by
  obtain ⟨d, rfl⟩ : ∃ d, D = d + 1 := ⟨D - 1, by omega⟩
  have hN := hP.1.n
  have e0 : mem 293 0 = sc 0 0 := hX.2.2.1.1
  have e3 : mem 303 0 = sc 0 11 := hX.2.2.1.2.2.2
  unfold aHas at kk
  refine s_m_has hX.1 ?_
  rw [h10, h11, h12, e0, e3, hX.2.1.cr.1, hX.2.1.cr.2, hX.2.1.n.1, hX.2.1.n.2.1, hX.2.1.n.2.2.1]
  refine ⟨hw, fun q => ⟨hX.2.1.bank, ?_⟩, fun q => ⟨hX.2.1.bank, ?_⟩, fun q => ⟨hX.2.1.bank, ?_⟩, fun q => ⟨hX.2.1.bank, ?_⟩, fun q => ⟨hX.2.1.bank, ?_⟩, fun q => ?_, fun q => ?_, fun q => ?_, fun q => ?_, fun q => ?_, fun q => ?_, fun q => ?_, fun q => ?_, fun q => ?_⟩
  · rwa [if_pos q] at kk
  · rwa [if_neg (by omega), if_pos q] at kk
  · rwa [if_neg (by omega), if_neg (by omega), if_pos q] at kk
  · rwa [if_neg (by omega), if_neg (by omega), if_neg (by omega), if_pos q] at kk
  · rwa [if_neg (by omega), if_neg (by omega), if_neg (by omega), if_neg (by omega), if_pos q] at kk
  · rwa [if_neg (by omega), if_neg (by omega), if_neg (by omega), if_neg (by omega), if_neg (by omega), if_pos q] at kk
  · rw [if_neg (by omega), if_neg (by omega), if_neg (by omega), if_neg (by omega), if_neg (by omega), if_neg (by omega), if_pos q] at kk
    exact t_has_127 hX hP 6 (by omega) (by omega) (by rwa [Int.zero_add])
  · rw [if_neg (by omega), if_neg (by omega), if_neg (by omega), if_neg (by omega), if_neg (by omega), if_neg (by omega), if_neg (by omega), if_pos q] at kk
    exact t_has_167 hX hP (pl 1 2).toNat (by omega) (by omega) (by rwa [Int.zero_add])
  · rw [if_neg (by omega), if_neg (by omega), if_neg (by omega), if_neg (by omega), if_neg (by omega), if_neg (by omega), if_neg (by omega), if_neg (by omega), if_pos q] at kk
    exact t_has_208 hX hP (by omega) (pl 1 2).toNat (by omega) (by omega) (by rwa [Int.zero_add])
  · rwa [if_neg (by omega), if_neg (by omega), if_neg (by omega), if_neg (by omega), if_neg (by omega), if_neg (by omega), if_neg (by omega), if_neg (by omega), if_neg (by omega), if_pos q] at kk
  · rwa [if_neg (by omega), if_neg (by omega), if_neg (by omega), if_neg (by omega), if_neg (by omega), if_neg (by omega), if_neg (by omega), if_neg (by omega), if_neg (by omega), if_neg (by omega), if_pos q] at kk
  · rwa [if_neg (by omega), if_neg (by omega), if_neg (by omega), if_neg (by omega), if_neg (by omega), if_neg (by omega), if_neg (by omega), if_neg (by omega), if_neg (by omega), if_neg (by omega), if_neg (by omega), if_pos q] at kk
  · rwa [if_neg (by omega), if_neg (by omega), if_neg (by omega), if_neg (by omega), if_neg (by omega), if_neg (by omega), if_neg (by omega), if_neg (by omega), if_neg (by omega), if_neg (by omega), if_neg (by omega), if_neg (by omega), if_pos q] at kk
  · rwa [if_neg q.1, if_neg q.2.1, if_neg q.2.2.1, if_neg q.2.2.2.1, if_neg q.2.2.2.2.1, if_neg q.2.2.2.2.2.1, if_neg q.2.2.2.2.2.2.1, if_neg q.2.2.2.2.2.2.2.1, if_neg q.2.2.2.2.2.2.2.2.1, if_neg q.2.2.2.2.2.2.2.2.2.1, if_neg q.2.2.2.2.2.2.2.2.2.2.1, if_neg q.2.2.2.2.2.2.2.2.2.2.2.1, if_neg q.2.2.2.2.2.2.2.2.2.2.2.2] at kk
theorem t_lamp {D : Nat} {Q : Int → zF → Prop} {mem : zF} (hX : RX rf mem pl sc) (hP : PX pl sc) (hD : 1 ≤ D) {w : Int} (hw : inI w) (kk : Q (zpart (sc 0 1) w) mem) : Ci X D 276 [(2, 261), (0, w)] rf mem Q := by
  obtain ⟨d, rfl⟩ : ∃ d, D = d + 1 := ⟨D - 1, by omega⟩
  have hl := hP.2.2.1.lamp
  unfold zic at hl
  have e1 : mem 294 0 = sc 0 1 := hX.2.2.1.2.1
  refine s_m_lamp hX.1 (t_is hX.1 hw (by decide) (by decide) ?_)
  by_cases q : 0 ≤ w ∧ w ≤ 1
  · rw [if_pos q]
    refine ⟨by decide, fun q => absurd q (by decide), fun _ => ?_⟩
    rw [e1]
    exact t_partOf hX.1 (by omega) (by omega) kk
  · rw [if_neg q]
    rw [zpart_no q] at kk
    exact ⟨by decide, fun _ => kk, fun q => absurd rfl q⟩
theorem t_door {D : Nat} {Q : Int → zF → Prop} {mem : zF} (hX : RX rf mem pl sc) (hP : PX pl sc) (hD : 1 ≤ D) {k w : Int} (hk : inI k) (hw : inI w) (kk : Q (aDoor pl sc k w) mem) : Ci X D 277 [(2, 261), (0, k), (0, w)] rf mem Q := by
  obtain ⟨d, rfl⟩ : ∃ d, D = d + 1 := ⟨D - 1, by omega⟩
  have hN := hP.1.n
  have hb := hX.2.1.bank
  unfold aDoor at kk
  refine s_m_door hX.1 (t_isDoor hX hP.1 hk (fun h => ?_) (fun h => ?_))
  · have hd := hP.1.door h.1 h.2
    have hd1 := hd.1
    unfold zic at hd1
    have hr := hX.2.1.door h.1 h.2
    have e5 : mem 295 0 = sc 0 2 := hX.2.2.1.2.2.1
    rw [if_pos h] at kk
    rw [hr.1, hr.2.1, hr.2.2, e5]
    refine ⟨by decide, fun _ => ⟨hw, fun q => ⟨by omega, ?_⟩, fun q => ⟨by omega, ?_⟩, fun q => ⟨by omega, ?_⟩, fun q => ⟨by omega, ?_⟩, fun q => ?_, fun q => ?_⟩, fun q => absurd q (by decide)⟩
    · rw [if_neg (by omega), if_neg (by omega), if_neg (by omega)] at kk
      exact t_partOf hX.1 (by omega) (by omega) kk
    · rw [if_neg (by omega), if_neg (by omega), if_neg (by omega)] at kk
      exact t_partOf hX.1 (by omega) (by omega) kk
    · rwa [if_pos q] at kk
    · rwa [if_neg (by omega), if_pos q] at kk
    · rw [if_neg (by omega), if_neg (by omega), if_pos q] at kk
      have h01 := zbit_01 hP.2.2.1.opn (k := k) (by omega)
      refine t_has2 hX.1 hP.2.2.1.opn (by omega) ⟨by omega, fun q2 => ?_, fun q2 => ?_⟩
      · rwa [q2] at kk
      · have e : zbit (sc 0 2) k = 1 := by omega
        rwa [e] at kk
    · rw [if_neg q.2.2.1, if_neg q.2.2.2.1, if_neg q.2.2.2.2, zpart_no (by omega)] at kk
      exact kk
  · rw [if_neg h] at kk
    exact ⟨by decide, fun q => absurd rfl q, fun _ => kk⟩
theorem t_heir_84 {d : Nat} {Q : Int → zF → Prop} {mem : zF} (hX : RX rf mem pl sc) (hP : PX pl sc) {h : Int} (hh : 0 ≤ h ∧ h < 6) : ∀ (n : Nat) {x c : Int}, 0 ≤ x → x + n = 6 → Q (c + aS (aHR sc h) x n) mem → L_m_heir_84 X d rf Q mem h c x
  | n, x, c, h0, hx, kk => by
    have hN := hP.1.n
    refine s_m_heir_84 hX.1 ⟨hX.2.1.bank, ?_⟩
    rw [hX.2.1.n.2.2.1]
    refine ⟨by omega, fun q => ?_, fun q => ⟨by omega, ?_⟩⟩
    · rw [aS_zero] at kk
      · rwa [Int.add_zero] at kk
      · intro k k1 k2
        have := (hP.2.2.1.owner (k := k) (by omega)).2 (by omega)
        unfold aHR
        rw [if_neg (by omega)]
    · obtain ⟨m, rfl⟩ : ∃ m, n = m + 1 := ⟨n - 1, by omega⟩
      have e6 : mem 301 x.toNat = sc 6 x.toNat := hX.b 6 (by decide) (by decide) h0 (by omega)
      have e7 : mem 302 x.toNat = sc 7 x.toNat := hX.b 7 (by decide) (by decide) h0 (by omega)
      have ho := (hP.2.2.1.owner (k := x) (by omega)).1
      rw [aS_s, ← Int.add_assoc] at kk
      unfold aHR at kk
      rw [e6, e7]
      refine ⟨by omega, fun q => ?_, fun q => ⟨by omega, ?_⟩⟩
      · rw [if_neg q] at kk
        exact t_heir_84 hX hP hh m (by omega) (by omega) kk
      · rw [if_pos q] at kk
        exact t_heir_84 hX hP hh m (by omega) (by omega) kk
theorem t_heir {D : Nat} {Q : Int → zF → Prop} {mem : zF} (hX : RX rf mem pl sc) (hP : PX pl sc) (hD : 1 ≤ D) {k w : Int} (hk : inI k) (hw : inI w) (kk : Q (aHeir pl sc k w) mem) : Ci X D 279 [(2, 261), (0, k), (0, w)] rf mem Q := by
  obtain ⟨d, rfl⟩ : ∃ d, D = d + 1 := ⟨D - 1, by omega⟩
  have hN := hP.1.n
  have hb := hX.2.1.bank
  unfold aHeir at kk
  refine s_m_heir hX.1 (t_isHeir hX hP.1 hk (fun h => ?_) (fun h => ?_))
  · have hI := hP.2.2.1.heirI (k := k) (by omega)
    rw [if_pos h] at kk
    rw [hX.h h.1 h.2, hX.2.1.tall h.1 h.2]
    refine ⟨by decide, fun _ => ⟨hw, fun q => ⟨by omega, ?_⟩, fun q => ⟨by omega, ?_⟩, fun q => ⟨by omega, ?_⟩, fun q => ?_, fun q => ?_, fun q => ?_⟩, fun q => absurd q (by decide)⟩
    · rw [if_neg (by omega), if_neg (by omega), if_neg (by omega)] at kk
      exact t_partOf hX.1 hI (by omega) kk
    · rw [if_neg (by omega), if_neg (by omega), if_neg (by omega)] at kk
      exact t_partOf hX.1 hI (by omega) kk
    · rwa [if_pos q] at kk
    · rw [if_neg (by omega), if_pos q] at kk
      exact t_owned hX.1 hX.2.1 (by decide) hX.2.2 hP.1 hP.2.2.1 (by omega) kk
    · rw [if_neg (by omega), if_neg (by omega), if_pos q] at kk
      exact t_heir_84 hX hP (by omega) 6 (by omega) (by omega) (by rwa [Int.zero_add])
    · rw [if_neg q.2.2.1, if_neg q.2.2.2.1, if_neg q.2.2.2.2, zpart_no (by omega)] at kk
      exact kk
  · rw [if_neg h] at kk
    exact ⟨by decide, fun q => absurd rfl q, fun _ => kk⟩
theorem t_bubble {D : Nat} {Q : Int → zF → Prop} {mem : zF} (hX : RX rf mem pl sc) (hP : PX pl sc) (hD : 1 ≤ D) {k w : Int} (hk : inI k) (hw : inI w) (kk : Q (aBub pl sc k w) mem) : Ci X D 280 [(2, 261), (0, k), (0, w)] rf mem Q := by
  obtain ⟨d, rfl⟩ : ∃ d, D = d + 1 := ⟨D - 1, by omega⟩
  have hN := hP.1.n
  unfold aBub at kk
  refine s_m_bubble hX.1 (t_isBubble hX hP.1 hk (fun h => ?_) (fun h => ?_))
  · have hI := hP.2.2.1.bubI (k := k) (by omega)
    have e2 : mem 297 k.toNat = sc 2 k.toNat := hX.b 2 (by decide) (by decide) h.1 h.2
    have e3 : mem 298 k.toNat = sc 3 k.toNat := hX.b 3 (by decide) (by decide) h.1 h.2
    have e4 : mem 299 k.toNat = sc 4 k.toNat := hX.b 4 (by decide) (by decide) h.1 h.2
    have e5 : mem 300 k.toNat = sc 5 k.toNat := hX.b 5 (by decide) (by decide) h.1 h.2
    rw [if_pos h] at kk
    rw [e2, e3, e4, e5]
    refine ⟨by decide, fun _ => ⟨hw, fun q => ⟨by omega, ?_⟩, fun q => ⟨by omega, ?_⟩, fun q => ⟨by omega, ?_⟩, fun q => ⟨by omega, ?_⟩, fun q => ⟨by omega, ?_⟩, fun q => ?_⟩, fun q => absurd q (by decide)⟩
    · rw [if_neg (by omega), if_neg (by omega), if_neg (by omega)] at kk
      exact t_partOf hX.1 hI (by omega) kk
    · rw [if_neg (by omega), if_neg (by omega), if_neg (by omega)] at kk
      exact t_partOf hX.1 hI (by omega) kk
    · rwa [if_pos q] at kk
    · rwa [if_neg (by omega), if_pos q] at kk
    · rwa [if_neg (by omega), if_neg (by omega), if_pos q] at kk
    · rw [if_neg q.2.2.1, if_neg q.2.2.2.1, if_neg q.2.2.2.2, zpart_no (by omega)] at kk
      exact kk
  · rw [if_neg h] at kk
    exact ⟨by decide, fun q => absurd rfl q, fun _ => kk⟩
theorem t_deed {D : Nat} {Q : Int → zF → Prop} {mem : zF} (hX : RX rf mem pl sc) (hP : PX pl sc) (hD : 2 ≤ D) {k w : Int} (hk : inI k) (hw : inI w) (kk : Q (aDeed pl sc k w) mem) : Ci X D 281 [(2, 261), (0, k), (0, w)] rf mem Q := by
  obtain ⟨d, rfl⟩ : ∃ d, D = d + 1 := ⟨D - 1, by omega⟩
  have hN := hP.1.n
  unfold aDeed at kk
  refine s_m_deed hX.1 (t_isBubble hX hP.1 hk (fun h => ?_) (fun h => ?_))
  · have e6 : mem 301 k.toNat = sc 6 k.toNat := hX.b 6 (by decide) (by decide) h.1 h.2
    have e7 : mem 302 k.toNat = sc 7 k.toNat := hX.b 7 (by decide) (by decide) h.1 h.2
    rw [if_pos h] at kk
    rw [e6, e7]
    refine ⟨by decide, fun _ => ⟨hw, fun q => ⟨hw, fun q2 => ⟨hw, fun q3 => ?_, fun q3 => ⟨by omega, ?_⟩⟩, fun q2 => ?_⟩, fun q => ⟨by omega, ?_⟩⟩, fun q => absurd q (by decide)⟩
    · rwa [if_neg q, if_neg q2, if_neg q3] at kk
    · rwa [if_neg q, if_neg q2, if_pos q3] at kk
    · rw [if_neg q, if_pos q2] at kk
      exact t_inB hX hP (by omega) (by omega) kk
    · rwa [if_pos q] at kk
  · rw [if_neg h] at kk
    exact ⟨by decide, fun q => absurd rfl q, fun _ => kk⟩
theorem t_draught {D : Nat} {Q : Int → zF → Prop} {mem : zF} (hX : RX rf mem pl sc) (hP : PX pl sc) (hD : 5 ≤ D) {x y : Int} (hx : inI x) (hy : inI y) (kk : Q (aDraught pl sc x y) mem) : Ci X D 282 [(2, 261), (0, x), (0, y)] rf mem Q := by
  obtain ⟨d, rfl⟩ : ∃ d, D = d + 1 := ⟨D - 1, by omega⟩
  have hcr := hP.1.cr
  have e5 : mem 295 0 = sc 0 2 := hX.2.2.1.2.2.1
  unfold aDraught at kk
  refine s_m_draught hX.1 (t_cell hX.1 (by omega) hX.2.1 hP.1 hx hy (fun q => ?_) (fun q => ?_))
  · rw [if_neg q] at kk
    have e : zcellAt (pl 0 1) (pl 0 2) x y = 8 * y + x := by
      unfold zcellAt at q ⊢
      split
      · rfl
      · next q2 => rw [if_neg q2] at q; exact absurd rfl q
    have hin : 0 ≤ x ∧ x < pl 0 1 ∧ 0 ≤ y ∧ y < pl 0 2 := by
      unfold zcellAt at q
      by_cases c : 0 ≤ x ∧ x < pl 0 1 ∧ 0 ≤ y ∧ y < pl 0 2
      · exact c
      · rw [if_neg c] at q; exact absurd rfl q
    rw [e] at kk
    exact ⟨by decide, fun q => absurd q (by decide), fun _ => t_draughtIn hX.1 (by omega) hX.2.1 hP.1 (by decide) e5 hP.2.2.1.opn (by omega) kk⟩
  · rw [if_pos q] at kk
    exact ⟨by decide, fun _ => kk, fun q => absurd rfl q⟩
theorem t_kept {D : Nat} {Q : Int → zF → Prop} {mem : zF} (hX : RX rf mem pl sc) (hP : PX pl sc) (hD : 1 ≤ D) {k w : Int} (hk : inI k) (hw : inI w) (kk : Q (aKept sc k w) mem) : Ci X D 306 [(2, 261), (0, k), (0, w)] rf mem Q := by
  obtain ⟨d, rfl⟩ : ∃ d, D = d + 1 := ⟨D - 1, by omega⟩
  have h6 := hP.2.2.1.k6
  have e3 : mem 303 0 = sc 0 11 := hX.2.2.1.2.2.2
  unfold aKept at kk
  refine s_m_kept hX.1 ?_
  rw [e3]
  refine t_is hX.1 hk (by decide) (by omega) ?_
  by_cases q1 : 0 ≤ k ∧ k ≤ sc 0 11 - 1
  · rw [if_pos q1]
    refine ⟨by decide, fun q => absurd q (by decide), fun _ => t_is hX.1 hw (by decide) (by decide) ?_⟩
    by_cases q2 : 0 ≤ w ∧ w ≤ 3
    · rw [if_pos q2]
      refine ⟨by decide, fun q => absurd q (by decide), fun _ => ⟨by omega, ?_⟩⟩
      rw [if_pos (by omega)] at kk
      have := hX.2.2.2.2.2 (4 * k + w) (by omega) (by omega)
      have e : (160 * 0 + (4 * k + w)).toNat = (4 * k + w).toNat := by omega
      rw [e] at this
      rwa [this]
    · rw [if_neg q2]
      rw [if_neg (by omega)] at kk
      exact ⟨by decide, fun _ => kk, fun q => absurd rfl q⟩
  · rw [if_neg q1]
    rw [if_neg (by omega)] at kk
    exact ⟨by decide, fun _ => kk, fun q => absurd rfl q⟩
end RASK2
