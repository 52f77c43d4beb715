/-! copies and runs of the reference's versions -/
section RCOPY
variable {X : zX} {rf pl : zF}
theorem zc7 {mem : zF} {i j : Nat} (a k : Nat) : zup (zup (zup (zup (zup (zup (zup mem 296 i (mem 296 j)) 297 i (mem 297 j)) 298 i (mem 298 j)) 299 i (mem 299 j)) 300 i (mem 300 j)) 301 i (mem 301 j)) 302 i (mem 302 j) a k = if (296 ≤ a ∧ a ≤ 302) ∧ k = i then mem a j else mem a k := by
  simp only [zup_get]
  by_cases h302 : a = 302 ∧ k = i
  · rw [if_pos h302, if_pos ⟨by omega, h302.2⟩, h302.1]
  · rw [if_neg h302]
    by_cases h301 : a = 301 ∧ k = i
    · rw [if_pos h301, if_pos ⟨by omega, h301.2⟩, h301.1]
    · rw [if_neg h301]
      by_cases h300 : a = 300 ∧ k = i
      · rw [if_pos h300, if_pos ⟨by omega, h300.2⟩, h300.1]
      · rw [if_neg h300]
        by_cases h299 : a = 299 ∧ k = i
        · rw [if_pos h299, if_pos ⟨by omega, h299.2⟩, h299.1]
        · rw [if_neg h299]
          by_cases h298 : a = 298 ∧ k = i
          · rw [if_pos h298, if_pos ⟨by omega, h298.2⟩, h298.1]
          · rw [if_neg h298]
            by_cases h297 : a = 297 ∧ k = i
            · rw [if_pos h297, if_pos ⟨by omega, h297.2⟩, h297.1]
            · rw [if_neg h297]
              by_cases h296 : a = 296 ∧ k = i
              · rw [if_pos h296, if_pos ⟨by omega, h296.2⟩, h296.1]
              · rw [if_neg h296]
                rw [if_neg (by omega)]
theorem t_copies_178 {d : Nat} {Q : zF → Prop} (hR : zall rf zRK = true) {v w : Int} (hv : 0 ≤ v ∧ v < 22) (hw : 0 ≤ w ∧ w < 22) (hne : v ≠ w) {c : Int} (hc : 0 ≤ c ∧ c ≤ 24) : ∀ (n : Nat) {x : Int} {mem : zF}, 0 ≤ x → x + n = c → mem 303 w.toNat * 4 = c → (∀ mem', RF v mem mem' → (∀ a, a ≠ 304 → mem' a = mem a) → (∀ j : Int, 0 ≤ j → j < x → mem' 304 (160 * v + j).toNat = mem 304 (160 * v + j).toNat) → (∀ j : Int, x ≤ j → j < c → mem' 304 (160 * v + j).toNat = mem 304 (160 * w + j).toNat) → Q mem') → L_m_copies_178 X d rf Q mem v w x
  | 0, x, mem, h0, hx, h3, kk => by
    refine s_m_copies_178 hR ⟨hw, by omega, fun _ => kk mem RF.rfl (fun _ _ => rfl) (fun _ _ _ => rfl) (fun j j1 j2 => by omega), fun q => absurd q (by omega)⟩
  | n + 1, x, mem, h0, hx, h3, kk => by
    refine s_m_copies_178 hR ⟨hw, by omega, fun q => absurd q (by omega), fun _ => ⟨by omega, by omega, ?_⟩⟩
    refine t_copies_178 hR hv hw hne hc n (by omega) (by omega) (by rw [zup_row _ _ _ (by decide)]; exact h3) ?_
    intro m1 f1 f2 f3 f4
    refine kk m1 ((RF.rfl.up (by unfold zofv; omega)).trans f1) (fun a ha => (f2 a ha).trans (zup_row _ _ _ ha)) (fun j j1 j2 => ?_) (fun j j1 j2 => ?_)
    · rw [f3 j j1 (by omega), zup_ne _ _ _ _ (by omega)]
    · by_cases e : j = x
      · rw [f3 j (by omega) (by omega), e, zup_at]
      · rw [f4 j (by omega) j2, zup_ne _ _ _ _ (by omega)]
theorem t_copies_38 {d : Nat} {Q : zF → Prop} (hR : zall rf zRK = true) {v w : Int} (hv : 0 ≤ v ∧ v < 22) (hw : 0 ≤ w ∧ w < 22) (hne : v ≠ w) : ∀ (n : Nat) {x : Int} {mem : zF}, 0 ≤ x → x + n = 6 → (∀ mem', RF v mem mem' → (∀ a, (a < 296 ∨ 302 < a) → mem' a = mem a) → (∀ (a : Nat) (j : Int), 296 ≤ a → a ≤ 302 → 0 ≤ j → j < x → mem' a (6 * v + j).toNat = mem a (6 * v + j).toNat) → (∀ (a : Nat) (j : Int), 296 ≤ a → a ≤ 302 → x ≤ j → j < 6 → mem' a (6 * v + j).toNat = mem a (6 * w + j).toNat) → L_m_copies_178 X d rf Q (zup mem' 303 v.toNat (mem' 303 w.toNat)) v w 0) → L_m_copies_38 X d rf Q mem v w x
  | 0, x, mem, h0, hx, kk => by
    refine s_m_copies_38 hR ⟨by omega, fun _ => ⟨hw, hv, kk mem RF.rfl (fun _ _ => rfl) (fun _ _ _ _ _ _ => rfl) (fun a j _ _ j1 j2 => by omega)⟩, fun q => absurd q (by omega)⟩
  | n + 1, x, mem, h0, hx, kk => by
    refine s_m_copies_38 hR ⟨by omega, fun q => absurd q (by omega), fun _ => ⟨by omega, by omega, by omega, by omega, by omega, by omega, by omega, by omega, by omega, by omega, by omega, by omega, by omega, by omega, ?_⟩⟩
    refine t_copies_38 hR hv hw hne n (by omega) (by omega) ?_
    intro m1 f1 f2 f3 f4
    refine kk m1 (RF.trans ?_ f1) (fun a ha => ?_) (fun a j a1 a2 j1 j2 => ?_) (fun a j a1 a2 j1 j2 => ?_)
    · intro a k hz _ _
      rw [zc7, if_neg]
      rintro ⟨q1, q2⟩
      apply hz
      unfold zofv
      omega
    · rw [f2 a ha]
      funext k
      rw [zc7, if_neg (by omega)]
    · rw [f3 a j a1 a2 j1 (by omega), zc7, if_neg (by omega)]
    · by_cases e : j = x
      · rw [f3 a j a1 a2 (by omega) (by omega), e, zc7, if_pos ⟨⟨a1, a2⟩, rfl⟩]
      · rw [f4 a j a1 a2 (by omega) j2, zc7, if_neg (by omega)]
theorem t_copies {d : Nat} {Q : zF → Prop} {mem sc : zF} (hR : zall rf zRK = true) (hP : WP pl) (hW : WS pl sc) {v w : Int} (hv : 0 ≤ v ∧ v < 22) (hw : 0 ≤ w ∧ w < 22) (hne : v ≠ w) (hs : RV mem w pl sc) (kk : ∀ mem', RV mem' v pl sc → RF v mem mem' → Q mem') : Cv X d 242 [(2, 261), (0, v), (0, w)] rf mem Q := by
  have hn := hP.n
  have hk := hW.kept
  have hz := zfl_rng sc
  refine s_m_copies hR ⟨hw, hv, hw, hv, hw, hv, ?_⟩
  refine t_copies_38 hR hv hw hne 6 (by omega) (by omega) ?_
  intro m1 f1 f2 f3 f4
  have hF0 : RF v mem (zup (zup (zup mem 293 v.toNat (mem 293 w.toNat)) 294 v.toNat (mem 294 w.toNat)) 295 v.toNat (mem 295 w.toNat)) := ((RF.rfl.up (by unfold zofv; omega)).up (by unfold zofv; omega)).up (by unfold zofv; omega)
  have hF1 := hF0.trans f1
  have e3 : m1 303 w.toNat = sc 0 11 := by
    rw [f2 303 (by omega), zup_row _ _ _ (by decide), zup_row _ _ _ (by decide), zup_row _ _ _ (by decide)]
    exact hs.1.2.2.2
  rw [e3]
  refine t_copies_178 hR hv hw hne (c := 4 * sc 0 11) (by omega) (4 * sc 0 11).toNat (by omega) (by omega) ?_ ?_
  · rw [zup_ne _ _ _ _ (by omega), e3]
    omega
  · intro m2 g1 g2 g3 g4
    have hF2 : RF v mem m2 := (hF1.up (by unfold zofv; omega)).trans g1
    refine kk m2 ⟨⟨?_, ?_, ?_, ?_⟩, fun k k1 k2 => ?_, fun s k s1 s2 k1 k2 => ?_, fun j j1 j2 => ?_⟩ hF2
    · rw [g2 293 (by decide), zup_row _ _ _ (by decide), f2 293 (by omega), zup_row _ _ _ (by decide), zup_row _ _ _ (by decide), zup_at]
      exact hs.1.1
    · rw [g2 294 (by decide), zup_row _ _ _ (by decide), f2 294 (by omega), zup_row _ _ _ (by decide), zup_at]
      exact hs.1.2.1
    · rw [g2 295 (by decide), zup_row _ _ _ (by decide), f2 295 (by omega), zup_at]
      exact hs.1.2.2.1
    · rw [g2 303 (by decide), zup_at]
    · rw [g2 296 (by decide), zup_row _ _ _ (by decide), f4 296 k (by decide) (by decide) k1 (by omega), zup_row _ _ _ (by decide), zup_row _ _ _ (by decide), zup_row _ _ _ (by decide)]
      exact hs.2.1 k k1 k2
    · rw [g2 (295 + s) (by omega), zup_row _ _ _ (by omega), f4 (295 + s) k (by omega) (by omega) k1 (by omega), zup_row _ _ _ (by omega), zup_row _ _ _ (by omega), zup_row _ _ _ (by omega)]
      exact hs.2.2.1 s k s1 s2 k1 k2
    · rw [g4 j j1 (by omega), zup_row _ _ _ (by decide), f2 304 (by omega), zup_row _ _ _ (by decide), zup_row _ _ _ (by decide), zup_row _ _ _ (by decide)]
      exact hs.2.2.2 j j1 j2
theorem t_run_2 {d : Nat} {Q : zF → Prop} (hR : zall rf zRK = true) (hD : 6 ≤ d) (hP : WP pl) (hrk : WR3 pl) {nn : Int} : ∀ (n : Nat) {x : Int} {mem sc : zF}, RP mem pl → RV mem 1 pl sc → WS pl sc → sc 0 0 + n ≤ 1000 → 0 ≤ x → x + n = nn → nn ≤ 1000 → (∀ mem', RV mem' 1 pl (aRun pl n sc) → R7 1 mem mem' → Q mem') → L_m_goesOn_284_2 X d rf Q mem nn x
  | 0, x, mem, sc, hp, hs, hW, h9, h0, hx, hn, kk => s_m_goesOn_284_2 hR ⟨by omega, fun _ => kk mem hs R7.rfl, fun q => absurd q (by omega)⟩
  | n + 1, x, mem, sc, hp, hs, hW, h9, h0, hx, hn, kk => by
    refine s_m_goesOn_284_2 hR ⟨by omega, fun q => absurd q (by omega), fun _ => ?_⟩
    refine t_ticks hR hD hP hrk (by decide) (by decide) hp hs hW ?_
    intro m1 g1 f1
    refine t_run_2 hR hD hP hrk n (f1.rp hp) g1 (hW.pass hP _ _ (by omega)) (by rw [aPass_sec]; omega) (by omega) (by omega) hn ?_
    intro m2 g2 f2
    exact kk m2 g2 (f1.trans f2)
theorem t_run {D : Nat} {Q : zF → Prop} {mem sc : zF} (hR : zall rf zRK = true) (hD : 7 ≤ D) (hP : WP pl) (hrk : WR3 pl) {n : Int} (hn : 0 ≤ n ∧ n ≤ 1000) (hp : RP mem pl) (hs : RV mem 1 pl sc) (hW : WS pl sc) (h9 : sc 0 0 + n ≤ 1000) (kk : ∀ mem', RV mem' 1 pl (aRun pl n.toNat sc) → R7 1 mem mem' → Q mem') : Cv X D 284 [(2, 261), (0, n)] rf mem Q := by
  obtain ⟨d, rfl⟩ : ∃ d, D = d + 1 := ⟨D - 1, by omega⟩
  exact s_m_goesOn_284 hR (t_run_2 hR (by omega) hP hrk n.toNat hp hs hW (by omega) (by omega) (by omega) (by omega) kk)
end RCOPY
/-! the reference's frame of a question -/
def QR (mem mem' : zF) : Prop := ∀ a j, ¬ zofv 1 a j → (a < 305 ∨ 307 < a) → (a < 311 ∨ 313 < a) → mem' a j = mem a j
theorem QR.rfl {mem : zF} : QR mem mem := fun _ _ _ _ _ => Eq.refl _
theorem QR.trans {m1 m2 m3 : zF} (h1 : QR m1 m2) (h2 : QR m2 m3) : QR m1 m3 := fun a j p q r => (h2 a j p q r).trans (h1 a j p q r)
theorem R7.qr {m1 m2 : zF} (h : R7 1 m1 m2) : QR m1 m2 := fun a j p q r => h a j p (by omega) (by omega) (by omega)
theorem RF.qr {m1 m2 : zF} (h : RF 1 m1 m2) : QR m1 m2 := h.r7.qr
theorem QR.row {m1 m2 : zF} (h : QR m1 m2) {a : Nat} (ha : a < 293 ∨ (307 < a ∧ a < 311) ∨ 313 < a) : m2 a = m1 a := by
  funext j
  refine h a j ?_ (by omega) (by omega)
  unfold zofv
  omega
theorem QR.rp {m1 m2 pl : zF} (h : QR m1 m2) (hp : RP m1 pl) : RP m2 pl := hp.fr (by rw [h.row (by decide)]) (by rw [h.row (by decide)]) (fun a h1 h2 => h.row (by omega))
theorem QR.rv {m1 m2 pl sc : zF} {v : Int} (h : QR m1 m2) (hv : 0 ≤ v) (hne : v ≠ 1) (hn : pl 1 1 ≤ 6 ∧ pl 1 2 ≤ 6) (hk : sc 0 11 ≤ 6) (hr : RV m1 v pl sc) : RV m2 v pl sc := by
  refine ⟨?_, fun k k1 k2 => ?_, fun s k k1 k2 k3 k4 => ?_, fun j j1 j2 => ?_⟩
  · rw [h 293 _ (by unfold zofv; omega) (by decide) (by decide), h 294 _ (by unfold zofv; omega) (by decide) (by decide), h 295 _ (by unfold zofv; omega) (by decide) (by decide), h 303 _ (by unfold zofv; omega) (by decide) (by decide)]
    exact hr.1
  · rw [h 296 _ (by unfold zofv; omega) (by decide) (by decide)]
    exact hr.2.1 k k1 k2
  · rw [h (295 + s) _ (by unfold zofv; omega) (by omega) (by omega)]
    exact hr.2.2.1 s k k1 k2 k3 k4
  · rw [h 304 _ (by unfold zofv; omega) (by decide) (by decide)]
    exact hr.2.2.2 j j1 j2
def RX (rf mem pl sc : zF) : Prop := zall rf zRK = true ∧ RP mem pl ∧ RV mem 0 pl sc
theorem WS.k6 {pl sc : zF} (h : WS pl sc) : 0 ≤ sc 0 11 ∧ sc 0 11 ≤ 6 := by
  have h1 := h.kept
  have h2 := zfl_rng sc
  omega
theorem RX.q {rf mem mem' pl sc : zF} (h : RX rf mem pl sc) (hP : PX pl sc) (hq : QR mem mem') : RX rf mem' pl sc := by
  have hn := hP.1.n
  exact ⟨h.1, hq.rp h.2.1, hq.rv (by decide) (by decide) (by omega) hP.2.2.1.k6.2 h.2.2⟩
section RASK
variable {X : zX} {rf pl sc : zF}
theorem t_isBubble {d : Nat} {Q : Int → zF → Prop} {mem : zF} (hX : RX rf mem pl sc) (hP : WP pl) {b : Int} (hb : inI b) (k1 : (0 ≤ b ∧ b < pl 1 2) → Q 1 mem) (k0 : ¬ (0 ≤ b ∧ b < pl 1 2) → Q 0 mem) : Ci X d 271 [(2, 261), (0, b)] rf mem Q := by
  have hn := hP.n
  refine s_m_isBubble hX.1 ?_
  rw [hX.2.1.n.2.2.1]
  exact ⟨hb, fun _ => k0 (by omega), fun _ => ⟨hX.2.1.bank, by omega, fun _ => k0 (by omega), fun _ => k1 (by omega)⟩⟩
theorem t_isHeir {d : Nat} {Q : Int → zF → Prop} {mem : zF} (hX : RX rf mem pl sc) (hP : WP pl) {b : Int} (hb : inI b) (k1 : (0 ≤ b ∧ b < pl 1 1) → Q 1 mem) (k0 : ¬ (0 ≤ b ∧ b < pl 1 1) → Q 0 mem) : Ci X d 270 [(2, 261), (0, b)] rf mem Q := by
  have hn := hP.n
  refine s_m_isHeir hX.1 ?_
  rw [hX.2.1.n.2.1]
  exact ⟨hb, fun _ => k0 (by omega), fun _ => ⟨hX.2.1.bank, by omega, fun _ => k0 (by omega), fun _ => k1 (by omega)⟩⟩
theorem t_isDoor {d : Nat} {Q : Int → zF → Prop} {mem : zF} (hX : RX rf mem pl sc) (hP : WP pl) {b : Int} (hb : inI b) (k1 : (0 ≤ b ∧ b < pl 1 0) → Q 1 mem) (k0 : ¬ (0 ≤ b ∧ b < pl 1 0) → Q 0 mem) : Ci X d 269 [(2, 261), (0, b)] rf mem Q := by
  have hn := hP.n
  refine s_m_isDoor hX.1 ?_
  rw [hX.2.1.n.1]
  exact ⟨hb, fun _ => k0 (by omega), fun _ => ⟨hX.2.1.bank, by omega, fun _ => k0 (by omega), fun _ => k1 (by omega)⟩⟩
theorem t_isAhead {D : Nat} {Q : Int → zF → Prop} {mem : zF} (hX : RX rf mem pl sc) (hP : PX pl sc) (hD : 1 ≤ D) {n lo hi : Int} (hn : inI n) (hl : inI lo) (hh : inI hi) (k1 : pl 0 1 ≠ 0 ∧ zcan sc n lo hi → Q 1 mem) (k0 : ¬ (pl 0 1 ≠ 0 ∧ zcan sc n lo hi) → Q 0 mem) (hlh : -1000 ≤ lo ∧ hi ≤ 1000) : Ci X D 283 [(2, 261), (0, n), (0, lo), (0, hi)] rf mem Q := by
  obtain ⟨d, rfl⟩ : ∃ d, D = d + 1 := ⟨D - 1, by omega⟩
  unfold zcan at k1 k0
  have h1 := hP.2.2.1.sec
  have hr := hX.2.1.room
  refine s_m_isAhead hX.1 ?_
  rw [hr]
  by_cases e : pl 0 1 = 0
  · rw [if_pos e]
    exact ⟨by decide, fun _ => k0 (fun c => c.1 e), fun q => absurd rfl q⟩
  · rw [if_neg e]
    refine ⟨by decide, fun q => absurd q (by decide), fun _ => t_is hX.1 hn hl hh ?_⟩
    have e3 : mem 293 0 = sc 0 0 := hX.2.2.1.1
    by_cases c : lo ≤ n ∧ n ≤ hi
    · rw [if_pos c]
      refine ⟨by decide, fun q => absurd q (by decide), fun _ => ?_⟩
      rw [e3]
      exact ⟨by omega, fun _ => k0 (by omega), fun _ => k1 ⟨e, by omega⟩⟩
    · rw [if_neg c]
      exact ⟨by decide, fun _ => k0 (by omega), fun q => absurd rfl q⟩
theorem t_partOf {d : Nat} {Q : Int → zF → Prop} {mem : zF} (hR : zall rf zRK = true) {c w : Int} (hc : -1 ≤ c ∧ c < 64) (hw : w = 0 ∨ w = 1) (kk : Q (zpart c w) mem) : Ci X d 275 [(0, c), (0, w)] rf mem Q := by
  unfold zpart at kk
  refine s_m_partOf hR ⟨by omega, fun q => ⟨by omega, fun q2 => ⟨by omega, ?_⟩, fun q2 => ⟨by omega, ?_⟩⟩, fun q => ?_⟩
  · rw [tdiv8 (by omega)]
    rwa [if_neg q, if_neg q2, if_pos (by omega)] at kk
  · rw [tmod8 (by omega)]
    rwa [if_neg q, if_pos q2] at kk
  · rwa [if_pos q] at kk
end RASK
