/-! from and tells -/
def aList (P : Int → Bool) : Int → Nat → List Int
  | _, 0 => []
  | c, n + 1 => if P c = true then c :: aList P (c + 1) n else aList P (c + 1) n
def aC (P : Int → Bool) : Int → Nat → Int
  | _, 0 => 0
  | c, n + 1 => (if P c = true then 1 else 0) + aC P (c + 1) n
theorem aC_rng {P : Int → Bool} : ∀ (n : Nat) (c : Int), 0 ≤ aC P c n ∧ aC P c n ≤ n
  | 0, _ => by unfold aC; omega
  | n + 1, c => by
    have := aC_rng (P := P) n (c + 1)
    unfold aC
    split <;> omega
theorem aList_len {P : Int → Bool} : ∀ (n : Nat) (c : Int), ((aList P c n).length : Int) = aC P c n
  | 0, _ => rfl
  | n + 1, c => by
    have := aList_len (P := P) n (c + 1)
    unfold aList aC
    split
    · rw [List.length_cons]; omega
    · omega
theorem aC_le {P R : Int → Bool} (h : ∀ k, P k = true → R k = true) : ∀ (n : Nat) (c : Int), aC P c n ≤ aC R c n
  | 0, _ => by unfold aC; omega
  | n + 1, c => by
    have := aC_le h n (c + 1)
    unfold aC
    cases hp : P c with
    | true => rw [if_pos rfl, if_pos (h c hp)]; omega
    | false =>
      rw [if_neg (by decide)]
      split <;> omega
def MX (f : Int → Int) (m : Int) : Prop := (∀ g : Int, -1 ≤ g → g < 64 → f g ≤ m) ∧ 0 ≤ m ∧ (m = 0 ∨ ∃ g : Int, -1 ≤ g ∧ g < 64 ∧ f g = m)
theorem MX.unique {f : Int → Int} {m1 m2 : Int} (h1 : MX f m1) (h2 : MX f m2) : m1 = m2 := by
  have a : m1 ≤ m2 := by
    rcases h1.2.2 with h | ⟨g, g1, g2, g3⟩
    · have := h2.2.1; omega
    · have := h2.1 g g1 g2; omega
  have b : m2 ≤ m1 := by
    rcases h2.2.2 with h | ⟨g, g1, g2, g3⟩
    · have := h1.2.1; omega
    · have := h1.1 g g1 g2; omega
  omega
def aMx (f : Int → Int) : Int := aIt (fun g m => max m (f g)) (-1) 65 0
theorem aMx_ok (f : Int → Int) : MX f (aMx f) := by
  have := aIt_inv (f := fun g m => max m (f g)) (I := fun x m => (∀ g : Int, -1 ≤ g → g < x → f g ≤ m) ∧ 0 ≤ m ∧ (m = 0 ∨ ∃ g : Int, -1 ≤ g ∧ g < x ∧ f g = m)) (lo := -1) (m := 64) ?_ 65 (-1) 0 (by omega) (by omega) ⟨fun g g1 g2 => by omega, by omega, Or.inl rfl⟩
  · exact this
  · intro k m k1 k2 h
    refine ⟨fun g g1 g2 => ?_, by omega, ?_⟩
    · by_cases e : g = k
      · rw [e]; omega
      · have := h.1 g g1 (by omega); omega
    · by_cases e : m ≤ f k
      · exact Or.inr ⟨k, k1, by omega, by omega⟩
      · have e2 : max m (f k) = m := by omega
        rw [e2]
        rcases h.2.2 with h3 | ⟨g, g1, g2, g3⟩
        · exact Or.inl h3
        · exact Or.inr ⟨g, g1, by omega, g3⟩
def aIn (pl sc ft : zF) (b n g c : Int) : Bool := aLeft pl sc ft b c && decide (aTr pl sc b c n.toNat 2 b.toNat = g)
def aCnt (pl sc ft : zF) (b n g : Int) : Int := aC (aIn pl sc ft b n g) 0 64
def aTell1 (pl sc ft : zF) (b n : Int) (s : Int × Int) : Int × Int := if aMx (aCnt pl sc ft b n) < s.2 then (n, aMx (aCnt pl sc ft b n)) else s
def aSoon (sc : zF) : Int := min 30 (999 - sc 0 0)
def aFrom (pl sc ft : zF) (b k : Int) : Int := if 0 ≤ b ∧ b < pl 1 2 ∧ sc 2 b.toNat ≠ -1 then (if k = -1 then aC (aLeft pl sc ft b) 0 64 else if k < 0 then -1 else (aList (aLeft pl sc ft b) 0 64).getD k.toNat (-1)) else -1
def aTellS (pl sc ft : zF) (b : Int) : Int × Int := aIt (aTell1 pl sc ft b) 1 (aSoon sc).toNat (-1, aC (aLeft pl sc ft b) 0 64 + 1)
def aTells (pl sc ft : zF) (b w : Int) : Int := if (0 ≤ b ∧ b < pl 1 2 ∧ sc 2 b.toNat ≠ -1) ∧ (0 ≤ w ∧ w ≤ 1) ∧ 0 < aC (aLeft pl sc ft b) 0 64 then (if (aTellS pl sc ft b).1 = -1 ∨ w = 0 then (aTellS pl sc ft b).1 else (aTellS pl sc ft b).2) else -1
theorem aMx_le {pl sc ft : zF} {b n : Int} : aMx (aCnt pl sc ft b n) ≤ aC (aLeft pl sc ft b) 0 64 := by
  have h := aMx_ok (aCnt pl sc ft b n)
  rcases h.2.2 with h3 | ⟨g, g1, g2, g3⟩
  · have := aC_rng (P := aLeft pl sc ft b) 64 0
    omega
  · rw [← g3]
    unfold aCnt
    refine aC_le (fun k hk => ?_) 64 0
    unfold aIn at hk
    simp only [Bool.and_eq_true] at hk
    exact hk.1
section TELLS
variable {X : zX} {p : Nat} {rf pl sc ft : zF}
theorem u_from_20 {d : Nat} {Q : zF → Prop} (hP : PX pl sc) (hD : 5 ≤ d) (hF : FEp pl ft) {b la : Int} (hb : 0 ≤ b ∧ b < 6 ∧ b < pl 1 2) (hfl : sc 2 b.toNat ≠ -1) (hl0 : 0 ≤ la ∧ la ≤ 30) (hla : (∀ i : Int, 0 ≤ i → i < ft 0 0 → ft 1 i.toNat ≤ la) ∧ (la = 0 ∨ ∃ i : Int, 0 ≤ i ∧ i < ft 0 0 ∧ ft 1 i.toNat = la)) : ∀ (n : Nat) {x : Int} {cn : Nat} {mem : zF}, CX rf mem p pl sc → FEc mem pl ft → WR mem 36 (zwind pl (sc 0 2)) → mem 35 6 = cn → (cn : Int) ≤ x → 0 ≤ x → x + n = 64 → (∀ mem', QC p mem mem' → mem' 35 6 = cn + ((aList (aLeft pl sc ft b) x n).length : Int) → (∀ j : Nat, j < cn → mem' 51 j = mem 51 j) → (∀ j : Nat, j < (aList (aLeft pl sc ft b) x n).length → mem' 51 (cn + j) = (aList (aLeft pl sc ft b) x n).getD j (-1)) → Q mem') → L_seer_findFrom_20 X d rf Q mem p 23 b la x
  | 0, x, cn, mem, hX, hf, hr, h6, hcn, h0, hx, kk => s_seer_findFrom_20 hX.r hX.p (zScn_23 hX.r) ⟨by omega, fun _ => kk mem QC.rfl (by rw [h6]; show (cn : Int) = cn + ((0 : Nat) : Int); omega) (fun _ _ => rfl) (fun j hj => by unfold aList at hj; simp at hj), fun q => absurd q (by omega)⟩
  | n + 1, x, cn, mem, hX, hf, hr, h6, hcn, h0, hx, kk => by
    have hcr := hP.1.cr
    have hic := zic_iff (C := pl 0 1) (R := pl 0 2) (c := x) (by omega) (by omega) (by omega)
    have skip : ∀ m1, QF p mem m1 → aLeft pl sc ft b x = false → L_seer_findFrom_55 X d rf Q m1 p 23 b la x 0 := by
      intro m1 q1 hno
      have el : aList (aLeft pl sc ft b) x (n + 1) = aList (aLeft pl sc ft b) (x + 1) n := by
        conv => lhs; unfold aList
        rw [if_neg (by rw [hno]; decide)]
      rw [el] at kk
      refine s_seer_findFrom_55 hX.r hX.p (zScn_23 hX.r) ⟨by decide, fun _ => ?_, fun q => absurd rfl q⟩
      refine u_from_20 hP hD hF hb hfl hl0 hla n (cn := cn) (hX.q q1.1) (hf.q hX.e q1.1) ?_ (by rw [q1.2.1]; exact h6) (by omega) (by omega) (by omega) ?_
      · intro c c1 c2
        show m1 37 c.toNat = _
        rw [q1.2.2.1]
        exact hr c c1 c2
      · intro m2 f2 g1 g2 g3
        exact kk m2 (q1.1.trans f2) g1 (fun j hj => by rw [g2 j hj, q1.2.2.2.2]) g3
    refine s_seer_findFrom_20 hX.r hX.p (zScn_23 hX.r) ⟨by omega, fun q => absurd q (by omega), fun _ => u_isCell hX.r hX.p hX.pc hP.1 (by omega) (by omega) (fun c1 => ?_) (fun c1 => ?_)⟩
    · refine ⟨by decide, fun q => absurd q (by decide), fun _ => u_follow hX hP hD hF hf hr hb hfl c1 hl0 (Or.inr hla) (fun m1 q1 hok _ => ?_) (fun m1 q1 hok => ?_)⟩
      · have hyes : aLeft pl sc ft b x = true := by
          unfold aLeft
          rw [hok, Bool.and_true]
          exact decide_eq_true (hic.mpr c1)
        have el : aList (aLeft pl sc ft b) x (n + 1) = x :: aList (aLeft pl sc ft b) (x + 1) n := by
          conv => lhs; unfold aList
          rw [if_pos hyes]
        rw [el] at kk
        refine ⟨by decide, fun q => absurd q (by decide), fun _ => s_seer_findFrom_55 hX.r hX.p (zScn_23 hX.r) ⟨by decide, fun q => absurd q (by decide), fun _ => ?_⟩⟩
        have e6 : m1 35 6 = cn := by rw [q1.2.1]; exact h6
        rw [e6]
        refine ⟨by omega, fun q => absurd q (by omega), fun _ => ⟨by omega, ?_⟩⟩
        rw [Int.toNat_natCast]
        have hq2 : QC p mem (zup (zup m1 51 cn x) 35 6 ((cn : Int) + 1)) := q1.1.trans ⟨fun i a b c d => by rw [zup_row _ _ _ (by omega), zup_row _ _ _ (by omega)], by rw [zup_ne _ _ _ _ (by decide), zup_row _ _ _ (by decide)]⟩
        refine u_from_20 hP hD hF hb hfl hl0 hla n (cn := cn + 1) (hX.q hq2) (hf.q hX.e hq2) ?_ (by rw [zup_at]; omega) (by omega) (by omega) (by omega) ?_
        · intro c c1 c2
          show (zup (zup m1 51 cn x) 35 6 ((cn : Int) + 1)) 37 c.toNat = _
          rw [zup_row _ _ _ (by decide), zup_row _ _ _ (by decide), q1.2.2.1]
          exact hr c c1 c2
        · intro m2 f2 g1 g2 g3
          refine kk m2 (hq2.trans f2) ?_ (fun j hj => ?_) (fun j hj => ?_)
          · rw [g1, List.length_cons]; omega
          · rw [g2 j (by omega), zup_row _ _ _ (by decide), zup_ne _ _ _ _ (by omega), q1.2.2.2.2]
          · cases j with
            | zero =>
              rw [Nat.add_zero, g2 cn (by omega), zup_row _ _ _ (by decide), zup_at]
              rfl
            | succ j =>
              have e : cn + (j + 1) = cn + 1 + j := by omega
              rw [e, g3 j (by rw [List.length_cons] at hj; omega)]
              rfl
      · refine ⟨by decide, fun _ => skip m1 q1 ?_, fun q => absurd rfl q⟩
        unfold aLeft
        rw [hok, Bool.and_false]
    · refine ⟨by decide, fun _ => skip mem QF.rfl ?_, fun q => absurd rfl q⟩
      unfold aLeft
      rw [decide_eq_false (fun c => c1 (hic.mp c)), Bool.false_and]
theorem u_from {D : Nat} {Q : Int → zF → Prop} {mem : zF} (hX : CX rf mem p pl sc) (hP : PX pl sc) (hF : FEp pl ft) (hf : FEc mem pl ft) (hD : 8 ≤ D) {b k : Int} (hb : inI b) (hk : inI k) (kk : ∀ mem', QC p mem mem' → Q (aFrom pl sc ft b k) mem') : Ci X D 170 [(2, 0), (0, b), (0, k)] rf mem Q := by
  obtain ⟨d, rfl⟩ : ∃ d, D = d + 1 := ⟨D - 1, by omega⟩
  obtain ⟨d, rfl⟩ : ∃ e, d = e + 1 := ⟨d - 1, by omega⟩
  have hN := hP.1.n
  unfold aFrom at kk
  refine s_c_from hX.r hX.p hX.f (u_floats hX hP (by omega) hb (fun h => ?_) (fun h => ?_))
  · rw [if_pos h] at kk
    refine ⟨by decide, fun _ => ?_, fun q => absurd q (by decide)⟩
    refine s_seer_findFrom hX.r hX.p (zScn_23 hX.r) (u_lastFelt hX.r (by omega) hF hf ?_)
    intro la n1 n2 n3
    have hq1 : QC p mem (zup mem 35 6 0) := ⟨fun i a b c d => zup_row _ _ _ (by omega), zup_ne _ _ _ _ (by decide)⟩
    refine u_startT (hX.q hq1) hP (by omega) ?_
    intro m2 g2 g3 f2 e35
    have hq2 := hq1.trans f2
    refine u_from_20 hP (by omega) hF (b := b) (by omega) h.2.2 n1 ⟨n2, n3⟩ 64 (cn := 0) (hX.q hq2) (hf.q hX.e hq2) g3 (by rw [e35, zup_at]; rfl) (by omega) (by omega) (by omega) ?_
    intro m3 f3 a1 a2 a3
    have hq3 := hq2.trans f3
    have hl := aList_len (P := aLeft pl sc ft b) 64 0
    have hcr := aC_rng (P := aLeft pl sc ft b) 64 0
    have := kk m3 hq3
    have a1' : m3 35 6 = aC (aLeft pl sc ft b) 0 64 := by rw [a1, hl]; show (0 : Int) + _ = _; omega
    refine ⟨hk, fun q => ?_, fun q => ?_⟩
    · rw [if_neg q] at this
      refine s_seer_fromAt hX.r ?_
      rw [a1']
      refine ⟨hk, fun q2 => ?_, fun q2 => ⟨⟨hk, by omega⟩, fun q3 => ?_, fun q3 => ⟨hk, fun q4 => absurd q4 (by omega), fun q4 => ⟨by omega, ?_⟩⟩⟩⟩
      · rwa [if_pos q2] at this
      · rw [if_neg q2, List.getD_eq_getElem?_getD, List.getElem?_eq_none (by omega)] at this
        exact this
      · rw [if_neg q2] at this
        have e := a3 k.toNat (by omega)
        rw [Nat.zero_add] at e
        rwa [e]
    · rw [if_pos q] at this
      rwa [a1']
  · rw [if_neg h] at kk
    exact ⟨by decide, fun q => absurd rfl q, fun _ => kk mem QC.rfl⟩
/-! tells -/
def zgi (g : Int) : Int := if g = -1 then 64 else g
theorem zgi_inj {n n2 g g2 : Int} (h1 : -1 ≤ g ∧ g < 64) (h2 : -1 ≤ g2 ∧ g2 < 64) (hn : 0 ≤ n) (hn2 : 0 ≤ n2) (h : (65 * n + zgi g).toNat = (65 * n2 + zgi g2).toNat) : n = n2 ∧ g = g2 := by
  unfold zgi at h
  split at h <;> split at h <;> omega
theorem zgi_rng {g : Int} (h : -1 ≤ g ∧ g < 64) : 0 ≤ zgi g ∧ zgi g < 65 := by
  unfold zgi
  split <;> omega
theorem u_count_2 {d : Nat} {Q : zF → Prop} (hR : zall rf zRK = true) {la : Int} (hl : la ≤ 30) : ∀ (m : Nat) {k : Int} {mem : zF}, 1 ≤ k → k + m = la + 1 → (∀ n : Int, 0 ≤ n → n ≤ la → -1 ≤ mem 49 n.toNat ∧ mem 49 n.toNat < 64) → (∀ mem', (∀ i, i ≠ 50 → mem' i = mem i) → (∀ n g : Int, 1 ≤ n → n ≤ la → -1 ≤ g → g < 64 → mem' 50 (65 * n + zgi g).toNat = mem 50 (65 * n + zgi g).toNat + (if k ≤ n ∧ mem 49 n.toNat = g then 1 else 0)) → Q mem') → L_seer_countPath_2 X d rf Q mem la k
  | 0, k, mem, h1, hk, hp, kk => s_seer_countPath_2 hR ⟨by omega, fun _ => kk mem (fun _ _ => rfl) (fun n g n1 n2 _ _ => by rw [if_neg (by omega), Int.add_zero]), fun q => absurd q (by omega)⟩
  | m + 1, k, mem, h1, hk, hp, kk => by
    have hpk := hp k (by omega) (by omega)
    have g37 : ∀ v, v = zgi (mem 49 k.toNat) → L_seer_countPath_37 X d rf Q mem la k v := by
      intro v hv
      have hvr := zgi_rng hpk
      rw [← hv] at hvr
      refine s_seer_countPath_37 hR ⟨by omega, fun q => absurd q (by omega), fun _ => ⟨by omega, fun q => absurd q (by omega), fun _ => ⟨by omega, by omega, ?_⟩⟩⟩
      refine u_count_2 hR hl m (by omega) (by omega) (fun n n1 n2 => by rw [zup_row _ _ _ (by decide)]; exact hp n n1 n2) ?_
      intro m1 f1 g1
      refine kk m1 (fun i hi => (f1 i hi).trans (zup_row _ _ _ hi)) (fun n g n1 n2 b1 b2 => ?_)
      rw [g1 n g n1 n2 b1 b2, zup_row _ _ _ (show (49 : Nat) ≠ 50 by decide), zup_get]
      by_cases e : n = k ∧ g = mem 49 k.toNat
      · obtain ⟨rfl, rfl⟩ := e
        rw [if_pos ⟨rfl, by rw [hv]⟩, if_neg (by omega), if_pos ⟨Int.le_refl n, rfl⟩, hv]
        omega
      · rw [if_neg]
        · by_cases c : k ≤ n ∧ mem 49 n.toNat = g
          · rw [if_pos c, if_pos]
            refine ⟨?_, c.2⟩
            by_cases e2 : n = k
            · exfalso
              apply e
              rw [e2] at c
              exact ⟨e2, c.2.symm⟩
            · omega
          · rw [if_neg c, if_neg (fun c2 => c ⟨by omega, c2.2⟩)]
        · rintro ⟨_, q⟩
          rw [hv] at q
          exact e (zgi_inj ⟨b1, b2⟩ hpk (by omega) (by omega) q)
    refine s_seer_countPath_2 hR ⟨by omega, fun q => absurd q (by omega), fun _ => ⟨by omega, fun q => absurd q (by omega), fun _ => ⟨by omega, by omega, fun q => ⟨by omega, g37 _ ?_⟩, fun q => g37 _ ?_⟩⟩⟩
    · unfold zgi
      rw [if_neg q]
    · unfold zgi
      rw [if_pos q]
theorem u_largest_7 {d : Nat} {Q : Int → zF → Prop} {mem : zF} (hR : zall rf zRK = true) {n : Int} (hn : 1 ≤ n ∧ n ≤ 30) {f : Int → Int} (hg : ∀ g : Int, -1 ≤ g → g < 64 → mem 50 (65 * n + zgi g).toNat = f g) (hf : ∀ g, 0 ≤ f g ∧ f g ≤ 64) : ∀ (m : Nat) {i t : Int}, 0 ≤ i → i + m = 65 → (∀ g : Int, -1 ≤ g → g < 64 → zgi g < i → f g ≤ t) → (0 ≤ t ∧ t ≤ 64) → (t = 0 ∨ ∃ g : Int, -1 ≤ g ∧ g < 64 ∧ f g = t) → (∀ v, MX f v → v ≤ 64 → Q v mem) → L_seer_largestGroup_7 X d rf Q mem n t (65 * n + i)
  | 0, i, t, h0, hi, h1, h2, h3, kk => s_seer_largestGroup_7 hR ⟨by omega, fun _ => kk t ⟨fun g g1 g2 => h1 g g1 g2 (by have := zgi_rng ⟨g1, g2⟩; omega), h2.1, h3⟩ h2.2, fun q => absurd q (by omega)⟩
  | m + 1, i, t, h0, hi, h1, h2, h3, kk => by
    refine s_seer_largestGroup_7 hR ⟨by omega, fun q => absurd q (by omega), fun _ => ⟨by omega, fun q => absurd q (by omega), fun _ => ⟨by omega, fun q => absurd q (by omega), fun _ => ⟨by omega, ?_⟩⟩⟩⟩
    obtain ⟨g0, ga, gb, gc⟩ : ∃ g0 : Int, -1 ≤ g0 ∧ g0 < 64 ∧ zgi g0 = i := by
      by_cases e : i = 64
      · exact ⟨-1, by decide, by decide, by rw [e]; rfl⟩
      · refine ⟨i, by omega, by omega, ?_⟩
        unfold zgi
        rw [if_neg (by omega)]
    have e1 := hg g0 ga gb
    rw [gc] at e1
    rw [e1]
    have hf0 := hf g0
    refine u_max hR (by omega) (by omega) ?_
    have e2 : 65 * n + i + 1 = 65 * n + (i + 1) := by omega
    rw [e2]
    refine u_largest_7 hR hn hg hf m (by omega) (by omega) (fun g g1 g2 g3 => ?_) (by omega) ?_ kk
    · by_cases e : zgi g = i
      · have : n = n ∧ g = g0 := zgi_inj (n := n) (n2 := n) ⟨g1, g2⟩ ⟨ga, gb⟩ (by omega) (by omega) (by rw [e, gc])
        rw [this.2]
        omega
      · have := h1 g g1 g2 (by omega)
        omega
    · by_cases e : t ≤ f g0
      · exact Or.inr ⟨g0, ga, gb, by omega⟩
      · have e3 : max t (f g0) = t := by omega
        rw [e3]
        exact h3
end TELLS
