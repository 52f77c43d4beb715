/-! a room begins: the scene, the reference's begin -/
theorem zsb_tab : ∀ k : Fin 6, ∀ d : Fin 6, zbit (zshl 1 (k.val : Int)) (d.val : Int) = 1 → d = k := by decide +kernel
theorem zsb {k d : Int} (hk : 0 ≤ k ∧ k < 6) (hd : 0 ≤ d ∧ d < 6) (h : zbit (zshl 1 k) d = 1) : d = k := by
  have h2 := zsb_tab ⟨k.toNat, by omega⟩ ⟨d.toNat, by omega⟩
  simp only at h2
  rw [Int.toNat_of_nonneg hk.1, Int.toNat_of_nonneg hd.1] at h2
  have h3 := congrArg Fin.val (h2 h)
  simp only at h3
  omega
theorem WS_beg {pl : zF} {r8 : Nat → Int} (hP : WP pl) (h8 : ∀ j : Nat, j < 24 → inI (r8 j)) : WS pl (aBeg pl r8) := by
  have hN := hP.n
  have fl := aFlo_6 (aBeg pl r8)
  have b1 : ∀ k : Int, 0 ≤ k → aBeg pl r8 1 k.toNat = zcel pl 1 k := fun k h => by show zcel pl 1 ((k.toNat : Nat) : Int) = _; rw [Int.toNat_of_nonneg h]
  have b2 : ∀ k : Int, 0 ≤ k → aBeg pl r8 2 k.toNat = zcel pl 2 k := fun k h => by show zcel pl 2 ((k.toNat : Nat) : Int) = _; rw [Int.toNat_of_nonneg h]
  have b3 : ∀ k : Int, 0 ≤ k → aBeg pl r8 3 k.toNat = if k < pl 1 2 then pl 7 k.toNat else 0 := fun k h => by show (if ((k.toNat : Nat) : Int) < pl 1 2 then pl 7 k.toNat else 0) = _; rw [Int.toNat_of_nonneg h]
  have b4 : ∀ k : Int, 0 ≤ k → aBeg pl r8 4 k.toNat = if k < pl 1 2 then pl 8 k.toNat else 0 := fun k h => by show (if ((k.toNat : Nat) : Int) < pl 1 2 then pl 8 k.toNat else 0) = _; rw [Int.toNat_of_nonneg h]
  have b5 : ∀ k : Int, 0 ≤ k → aBeg pl r8 5 k.toNat = if k < pl 1 2 then zshl 1 k else 0 := fun k h => by show (if ((k.toNat : Nat) : Int) < pl 1 2 then zshl 1 ((k.toNat : Nat) : Int) else 0) = _; rw [Int.toNat_of_nonneg h]
  have b6 : ∀ k : Nat, aBeg pl r8 6 k = -1 := fun _ => rfl
  have b7 : ∀ k : Nat, aBeg pl r8 7 k = 0 := fun _ => rfl
  have e00 : aBeg pl r8 0 0 = 0 := rfl
  have e01 : aBeg pl r8 0 1 = pl 0 3 := rfl
  have e02 : aBeg pl r8 0 2 = pl 0 5 := rfl
  have e011 : aBeg pl r8 0 11 = 0 := rfl
  refine ⟨by rw [e00]; decide, by rw [e01]; exact hP.lamp, by rw [e02]; exact hP.opn, by rw [e011]; omega, fun k k0 k6 => ?_, fun k d k0 k6 d0 d6 hb => ?_, fun j hj => h8 j hj⟩
  · unfold WB
    rw [b1 k k0, b2 k k0, b3 k k0, b4 k k0, b5 k k0, b6, b7]
    refine ⟨fun q => ?_, fun q => ?_, ?_, ?_, ?_, ?_, by omega, fun _ => rfl, by decide, fun _ => rfl⟩
    · have := (hP.heir k0 q).1
      unfold zcel
      have e : 6 * 1 + k = 6 + k := by omega
      rw [if_pos (show k < pl 1 (1 : Int).toNat from q), e]
      exact this
    · unfold zcel
      rw [if_neg (show ¬ k < pl 1 (1 : Int).toNat from by show ¬ k < pl 1 1; omega)]
    · by_cases q : k < pl 1 2
      · right
        have := (hP.bub k0 q).1
        unfold zcel
        have e : 6 * 2 + k = 12 + k := by omega
        rw [if_pos (show k < pl 1 (2 : Int).toNat from q), e]
        exact ⟨q, this⟩
      · left
        unfold zcel
        rw [if_neg (show ¬ k < pl 1 (2 : Int).toNat from q), if_neg q, if_neg q, if_neg q]
        exact ⟨rfl, rfl, rfl, rfl⟩
    · split
      · next q => have := (hP.bub k0 q).2.1; omega
      · decide
    · split
      · next q => have := (hP.bub k0 q).2.2; omega
      · decide
    · split
      · exact zshl1_rng ⟨k0, k6⟩
      · decide
  · rw [b5 k k0] at hb
    by_cases q : k < pl 1 2
    · rw [if_pos q] at hb
      have e := zsb ⟨k0, k6⟩ ⟨d0, d6⟩ hb
      refine ⟨by omega, b6 _, fun k2 k20 k26 hb2 => ?_⟩
      rw [b5 k2 k20] at hb2
      by_cases q2 : k2 < pl 1 2
      · rw [if_pos q2] at hb2
        have := zsb ⟨k20, k26⟩ ⟨d0, d6⟩ hb2
        omega
      · rw [if_neg q2, zbit_z ⟨d0, d6⟩] at hb2
        omega
    · rw [if_neg q, zbit_z ⟨d0, d6⟩] at hb
      omega
section TBEG
variable {X : zX} {rf : zF} {D : Nat} {b : Int} {pl : zF}
theorem t_beg39 {Q : zF → Prop} (hR : zall rf zRK = true) (hb : 0 ≤ b ∧ b < 2) {m0 : zF} (h13 : m0 261 13 = b) (kk : ∀ mem', (∀ i, i ≠ 261 → (i < 296 ∨ 303 < i) → mem' i = m0 i) → (∀ j, j ≠ 65 → j ≠ 70 → mem' 261 j = m0 261 j) → mem' 261 65 = 0 → mem' 261 70 = 0 → mem' 303 0 = 0 → (∀ k : Int, 0 ≤ k → k < 6 → mem' 296 k.toNat = m0 272 (6 * b + k).toNat ∧ mem' 297 k.toNat = m0 275 (6 * b + k).toNat ∧ mem' 298 k.toNat = m0 276 (6 * b + k).toNat ∧ mem' 299 k.toNat = m0 277 (6 * b + k).toNat ∧ mem' 300 k.toNat = zshl 1 k ∧ mem' 301 k.toNat = -1 ∧ mem' 302 k.toNat = 0) → Q mem') : ∀ (m : Nat) {x : Int} {mem : zF}, 0 ≤ x → x + m = 6 → (∀ i, (i < 296 ∨ 302 < i) → mem i = m0 i) → (∀ k : Int, 0 ≤ k → k < x → mem 296 k.toNat = m0 272 (6 * b + k).toNat ∧ mem 297 k.toNat = m0 275 (6 * b + k).toNat ∧ mem 298 k.toNat = m0 276 (6 * b + k).toNat ∧ mem 299 k.toNat = m0 277 (6 * b + k).toNat ∧ mem 300 k.toNat = zshl 1 k ∧ mem 301 k.toNat = -1 ∧ mem 302 k.toNat = 0) → L_m_begin_39 X D rf Q mem x
  | 0, x, mem, h0, hx, hf, hk => by
    refine s_m_begin_39 hR ⟨by omega, fun _ => ?_, fun q => absurd (by omega) q⟩
    refine kk _ (fun i h1 h2 => ?_) (fun j h1 h2 => ?_) ?_ (zup_at _ _ _ _) ?_ (fun k k0 k6 => ?_)
    · rw [zup_row _ _ _ h1, zup_row _ _ _ h1, zup_row _ _ _ (by omega)]
      exact hf i (by omega)
    · rw [zup_ne _ _ _ _ h2, zup_ne _ _ _ _ h1, zup_row _ _ _ (by decide), hf 261 (by decide)]
    · rw [zup_ne _ _ _ _ (by decide), zup_at]
    · rw [zup_row _ _ _ (by decide), zup_row _ _ _ (by decide), zup_at]
    · have r : ∀ i, i ≠ 261 → i ≠ 303 → (zup (zup (zup mem 303 0 0) 261 65 0) 261 70 0) i = mem i := fun i a c => by rw [zup_row _ _ _ a, zup_row _ _ _ a, zup_row _ _ _ c]
      rw [r 296 (by decide) (by decide), r 297 (by decide) (by decide), r 298 (by decide) (by decide), r 299 (by decide) (by decide), r 300 (by decide) (by decide), r 301 (by decide) (by decide), r 302 (by decide) (by decide)]
      exact hk k k0 (by omega)
  | m + 1, x, mem, h0, hx, hf, hk => by
    refine s_m_begin_39 hR ?_
    rw [hf 261 (by decide), h13, hf 272 (by decide), hf 275 (by decide), hf 276 (by decide), hf 277 (by decide)]
    refine ⟨by omega, fun q => absurd q (by omega), fun _ => ⟨by omega, by omega, by omega, by omega, by omega, by omega, by omega, by omega, by omega, by omega, by omega, ?_⟩⟩
    generalize hm2 : zup (zup (zup (zup (zup (zup (zup mem 296 x.toNat (m0 272 (6 * b + x).toNat)) 297 x.toNat (m0 275 (6 * b + x).toNat)) 298 x.toNat (m0 276 (6 * b + x).toNat)) 299 x.toNat (m0 277 (6 * b + x).toNat)) 300 x.toNat (zshl 1 x)) 301 x.toNat (-1)) 302 x.toNat 0 = m2
    refine t_beg39 hR hb h13 kk m (by omega) (by omega) (fun i hi => ?_) (fun k k0 k1 => ?_)
    · rw [← hm2, zup_row _ _ _ (by omega), zup_row _ _ _ (by omega), zup_row _ _ _ (by omega), zup_row _ _ _ (by omega), zup_row _ _ _ (by omega), zup_row _ _ _ (by omega), zup_row _ _ _ (by omega)]
      exact hf i hi
    · by_cases e : k = x
      · subst e
        refine ⟨?_, ?_, ?_, ?_, ?_, ?_, ?_⟩
        · rw [← hm2, zup_row _ _ _ (by decide), zup_row _ _ _ (by decide), zup_row _ _ _ (by decide), zup_row _ _ _ (by decide), zup_row _ _ _ (by decide), zup_row _ _ _ (by decide), zup_at]
        · rw [← hm2, zup_row _ _ _ (by decide), zup_row _ _ _ (by decide), zup_row _ _ _ (by decide), zup_row _ _ _ (by decide), zup_row _ _ _ (by decide), zup_at]
        · rw [← hm2, zup_row _ _ _ (by decide), zup_row _ _ _ (by decide), zup_row _ _ _ (by decide), zup_row _ _ _ (by decide), zup_at]
        · rw [← hm2, zup_row _ _ _ (by decide), zup_row _ _ _ (by decide), zup_row _ _ _ (by decide), zup_at]
        · rw [← hm2, zup_row _ _ _ (by decide), zup_row _ _ _ (by decide), zup_at]
        · rw [← hm2, zup_row _ _ _ (by decide), zup_at]
        · rw [← hm2, zup_at]
      · have r : ∀ i, m2 i k.toNat = mem i k.toNat := fun i => by
          have ne : k.toNat ≠ x.toNat := by omega
          rw [← hm2, zup_ne _ _ _ _ ne, zup_ne _ _ _ _ ne, zup_ne _ _ _ _ ne, zup_ne _ _ _ _ ne, zup_ne _ _ _ _ ne, zup_ne _ _ _ _ ne, zup_ne _ _ _ _ ne]
        rw [r, r, r, r, r, r, r]
        exact hk k k0 (by omega)
theorem t_begin {Q : zF → Prop} {mem : zF} (hR : zall rf zRK = true) (hb : 0 ≤ b ∧ b < 2) (h13 : mem 261 13 = b) (hq : RQ mem b pl) (hP : WP pl) (kk : ∀ mem', (∀ i, i ≠ 261 → (i < 293 ∨ 303 < i) → mem' i = mem i) → (∀ j, j ≠ 65 → j ≠ 70 → mem' 261 j = mem 261 j) → mem' 261 65 = 0 → mem' 261 70 = 0 → (∀ r8 : Nat → Int, RV mem' 0 pl (aBeg pl r8)) → Q mem') : Cv X D 243 [(2, 261)] rf mem Q := by
  have hN := hP.n
  obtain ⟨q1, q2, q3, q4, q5, q6, q7, q8⟩ := hq
  refine s_m_begin hR ?_
  rw [h13, q2.1, q2.2.2]
  refine ⟨by omega, by omega, ?_⟩
  generalize hm1 : zup (zup (zup mem 293 0 0) 294 0 (pl 0 3)) 295 0 (pl 0 5) = m1
  have r1 : ∀ i, i ≠ 293 → i ≠ 294 → i ≠ 295 → m1 i = mem i := fun i a c d => by rw [← hm1, zup_row _ _ _ d, zup_row _ _ _ c, zup_row _ _ _ a]
  refine t_beg39 (m0 := m1) hR hb (by rw [r1 261 (by decide) (by decide) (by decide)]; exact h13) (fun m2 f2 g2 e65 e70 e303 hk => ?_) 6 (by decide) (by decide) (fun i _ => rfl) (fun k k0 k1 => by omega)
  refine kk m2 (fun i h1 h2 => by rw [f2 i h1 (by omega), r1 i (by omega) (by omega) (by omega)]) (fun j h1 h2 => by rw [g2 j h1 h2, r1 261 (by decide) (by decide) (by decide)]) e65 e70 (fun r8 => ⟨⟨?_, ?_, ?_, e303⟩, fun k k0 k1 => ?_, fun s k s1 s2 k0 k1 => ?_, fun j j0 j1 => ?_⟩)
  · show m2 293 0 = 0
    rw [f2 293 (by decide) (by decide), ← hm1, zup_row _ _ _ (by decide), zup_row _ _ _ (by decide), zup_at]
  · show m2 294 0 = pl 0 3
    rw [f2 294 (by decide) (by decide), ← hm1, zup_row _ _ _ (by decide), zup_at]
  · show m2 295 0 = pl 0 5
    rw [f2 295 (by decide) (by decide), ← hm1, zup_at]
  · have e0 : (6 * (0 : Int) + k).toNat = k.toNat := by omega
    rw [e0, (hk k k0 (by omega)).1, r1 272 (by decide) (by decide) (by decide), (q5 k k0 k1).1]
    show _ = zcel pl 1 ((k.toNat : Nat) : Int)
    rw [Int.toNat_of_nonneg k0]
    unfold zcel
    have e : 6 * 1 + k = 6 + k := by omega
    rw [if_pos (show k < pl 1 (1 : Int).toNat from k1), e]
  · have e0 : (6 * (0 : Int) + k).toNat = k.toNat := by omega
    have h9 := hk k k0 (by omega)
    have h6 := q6 k k0 k1
    rw [r1 275 (by decide) (by decide) (by decide), r1 276 (by decide) (by decide) (by decide), r1 277 (by decide) (by decide) (by decide)] at h9
    rw [e0]
    have : s = 2 ∨ s = 3 ∨ s = 4 ∨ s = 5 ∨ s = 6 ∨ s = 7 := by omega
    rcases this with rfl | rfl | rfl | rfl | rfl | rfl
    · show m2 297 k.toNat = zcel pl 2 ((k.toNat : Nat) : Int)
      rw [h9.2.1, h6.1, Int.toNat_of_nonneg k0]
      unfold zcel
      have e : 6 * 2 + k = 12 + k := by omega
      rw [if_pos (show k < pl 1 (2 : Int).toNat from k1), e]
    · show m2 298 k.toNat = if ((k.toNat : Nat) : Int) < pl 1 2 then pl 7 k.toNat else 0
      rw [h9.2.2.1, h6.2.1, if_pos (by omega)]
    · show m2 299 k.toNat = if ((k.toNat : Nat) : Int) < pl 1 2 then pl 8 k.toNat else 0
      rw [h9.2.2.2.1, h6.2.2, if_pos (by omega)]
    · show m2 300 k.toNat = if ((k.toNat : Nat) : Int) < pl 1 2 then zshl 1 ((k.toNat : Nat) : Int) else 0
      rw [h9.2.2.2.2.1, if_pos (by omega), Int.toNat_of_nonneg k0]
    · show m2 301 k.toNat = -1
      exact h9.2.2.2.2.2.1
    · show m2 302 k.toNat = 0
      exact h9.2.2.2.2.2.2
  · have : aBeg pl r8 0 11 = 0 := rfl
    rw [this] at j1
    omega
end TBEG
/-- the codes as a list and as rows -/
theorem zcks_tck {r : Int} {so va : Nat → Int} : ∀ (C : zC) (a : Nat) (st : List Bool), (∀ i : Nat, i < C.length → so (a + i) = (C.getD i (0, 0)).1 ∧ va (a + i) = (C.getD i (0, 0)).2) → zcks r so va a C.length st = tck r C st
  | [], _, _, _ => rfl
  | x :: C, a, st, h => by
    have h0 := h 0 (by simp)
    have e1 : so a = x.1 := h0.1
    have e2 : va a = x.2 := h0.2
    show (match ztc r (so a) (va a) st with | none => none | some st' => zcks r so va (a + 1) C.length st') = (match ztc r x.1 x.2 st with | none => none | some st' => tck r C st')
    rw [e1, e2]
    cases ztc r x.1 x.2 st with
    | none => rfl
    | some st' =>
      refine zcks_tck C (a + 1) st' (fun i hi => ?_)
      have := h (i + 1) (by simp; omega)
      have e : a + (i + 1) = a + 1 + i := by omega
      rw [e] at this
      exact this
theorem getD_mid {A C B : zC} {i : Nat} (h : i < C.length) : (A ++ C ++ B).getD (A.length + i) (0, 0) = C.getD i (0, 0) := by
  rw [List.getD_eq_getElem?_getD, List.getD_eq_getElem?_getD, List.append_assoc, List.getElem?_append_right (by omega), Nat.add_sub_cancel_left, List.getElem?_append_left h]
