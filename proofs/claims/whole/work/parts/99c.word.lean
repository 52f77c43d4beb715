/-! words: the two ways to keep them are one -/
theorem zn5_inj : ∀ (l r : List Int), (∀ x ∈ l, 1 ≤ x ∧ x ≤ 26) → (∀ x ∈ r, 1 ≤ x ∧ x ≤ 26) → zn5 l = zn5 r → l = r
  | [], [], _, _, _ => rfl
  | [], b :: r, _, h2, h => by
    have hb := h2 b (List.mem_cons_self ..)
    have hr := zn5_rng r (fun x hx => h2 x (List.mem_cons_of_mem _ hx))
    have h : (0 : Int) = b + 32 * zn5 r := h
    omega
  | a :: l, [], h1, _, h => by
    have ha := h1 a (List.mem_cons_self ..)
    have hr := zn5_rng l (fun x hx => h1 x (List.mem_cons_of_mem _ hx))
    have h : a + 32 * zn5 l = (0 : Int) := h
    omega
  | a :: l, b :: r, h1, h2, h => by
    have ha := h1 a (List.mem_cons_self ..)
    have hb := h2 b (List.mem_cons_self ..)
    have h : a + 32 * zn5 l = b + 32 * zn5 r := h
    have e : a = b := by omega
    have e2 : zn5 l = zn5 r := by omega
    rw [e, zn5_inj l r (fun x hx => h1 x (List.mem_cons_of_mem _ hx)) (fun x hx => h2 x (List.mem_cons_of_mem _ hx)) e2]
theorem zn8_snoc (x : Int) : ∀ (l : List Int) (a : Int), zn8 a (l ++ [x]) = 256 * zn8 a l + 96 + x
  | [], _ => rfl
  | b :: l, a => zn8_snoc x l (256 * a + 96 + b)
theorem zn8_pos : ∀ (l : List Int) (a : Int), 0 ≤ a → (∀ x ∈ l, 1 ≤ x ∧ x ≤ 26) → 0 ≤ zn8 a l
  | [], a, h, _ => h
  | b :: l, a, h, h1 => zn8_pos l (256 * a + 96 + b) (by have := h1 b (List.mem_cons_self ..); omega) (fun x hx => h1 x (List.mem_cons_of_mem _ hx))
theorem zn8_inj : ∀ (m : Nat) (l r : List Int), l.length ≤ m → (∀ x ∈ l, 1 ≤ x ∧ x ≤ 26) → (∀ x ∈ r, 1 ≤ x ∧ x ≤ 26) → zn8 0 l = zn8 0 r → l = r := by
  intro m
  induction m with
  | zero =>
    intro l r hm h1 h2 h
    have el : l = [] := List.eq_nil_of_length_eq_zero (by omega)
    rcases List.eq_nil_or_concat r with er | ⟨R, b, er⟩
    · rw [el, er]
    · rw [List.concat_eq_append] at er
      rw [el, er, zn8_snoc] at h
      have hb := h2 b (by rw [er]; simp)
      have hp := zn8_pos R 0 (by decide) (fun x hx => h2 x (by rw [er]; simp [hx]))
      have h : (0 : Int) = 256 * zn8 0 R + 96 + b := h
      omega
  | succ m ih =>
    intro l r hm h1 h2 h
    rcases List.eq_nil_or_concat l with el | ⟨L, a, el⟩
    · rcases List.eq_nil_or_concat r with er | ⟨R, b, er⟩
      · rw [el, er]
      · rw [List.concat_eq_append] at er
        rw [el, er, zn8_snoc] at h
        have hb := h2 b (by rw [er]; simp)
        have hp := zn8_pos R 0 (by decide) (fun x hx => h2 x (by rw [er]; simp [hx]))
        have h : (0 : Int) = 256 * zn8 0 R + 96 + b := h
        omega
    · rw [List.concat_eq_append] at el
      have ha := h1 a (by rw [el]; simp)
      have hpl := zn8_pos L 0 (by decide) (fun x hx => h1 x (by rw [el]; simp [hx]))
      rcases List.eq_nil_or_concat r with er | ⟨R, b, er⟩
      · rw [el, er, zn8_snoc] at h
        have h : 256 * zn8 0 L + 96 + a = (0 : Int) := h
        omega
      · rw [List.concat_eq_append] at er
        rw [el, er, zn8_snoc, zn8_snoc] at h
        have hb := h2 b (by rw [er]; simp)
        have e : a = b := by omega
        have e2 : zn8 0 L = zn8 0 R := by omega
        have hl : L.length ≤ m := by rw [el, List.length_append] at hm; simp at hm; omega
        rw [el, er, e, ih L R hl (fun x hx => h1 x (by rw [el]; simp [hx])) (fun x hx => h2 x (by rw [er]; simp [hx])) e2]
theorem NR.iff {a w b v : Int} (h1 : NR a w) (h2 : NR b v) : a = b ↔ w = v := by
  obtain ⟨l, _, _, hl, rfl, rfl⟩ := h1
  obtain ⟨r, _, _, hr, rfl, rfl⟩ := h2
  constructor
  · intro h
    rw [zn5_inj l r hl hr h]
  · intro h
    rw [zn8_inj l.length l r (Nat.le_refl _) hl hr h]
/-- the own words: letters, and as the reference has them -/
def zlw : List (List Int) := [[18, 15, 15, 13], [2, 25], [12, 1, 13, 16], [4, 15, 15, 18], [1, 20], [2, 12, 15, 23, 19], [18, 5, 1, 3, 8], [15, 16, 5, 14], [8, 5, 9, 18], [20, 1, 12, 12], [2, 21, 2, 2, 12, 5], [6, 9, 12, 13], [19, 9, 26, 5], [20, 8, 9, 14, 19], [2, 21, 18, 19, 20, 19], [8, 21, 5], [2, 18, 5, 1, 20, 8], [19, 5, 3, 15, 14, 4], [4, 18, 9, 6, 20], [4, 5, 5, 4, 19], [9, 6], [15, 18], [1, 14, 4], [14, 15, 20], [1, 12, 12], [13, 9, 14], [13, 1, 24]]
def zo8 : List Int := [1919905645, 25209, 1818324336, 1685024626, 24948, 422726039411, 491327153000, 1869636974, 1751476594, 1952541804, 108256301313125, 1718185069, 1936292453, 499967946355, 108256570864755, 6845797, 108243466679400, 126879297138276, 431416239732, 431197873267, 26982, 28530, 6385252, 7237492, 6384748, 7170414, 7168376]
theorem zlw_tab : ∀ k : Fin 27, zow.getD k.val 0 = zn5 (zlw.getD k.val []) ∧ zo8.getD k.val 0 = zn8 0 (zlw.getD k.val []) ∧ (1 ≤ (zlw.getD k.val []).length ∧ (zlw.getD k.val []).length ≤ 6) ∧ ∀ x ∈ zlw.getD k.val [], 1 ≤ x ∧ x ≤ 26 := by decide +kernel
theorem zow_inj : ∀ j k : Fin 27, zow.getD j.val 0 = zow.getD k.val 0 → j = k := by decide +kernel
theorem zlw_nr {k : Nat} (hk : k < 27) : NR (zow.getD k 0) (zo8.getD k 0) := by
  have h := zlw_tab ⟨k, hk⟩
  exact ⟨_, h.2.2.1.1, h.2.2.1.2, h.2.2.2, h.1, h.2.1⟩
theorem tOwn_iff {v : Int} {k : Nat} (hk : k < 27) : tOwn v = (k : Int) ↔ zow.getD k 0 = v := by
  have h := aFd_rng (P := fun k => decide (zow.getD k.toNat 0 = v)) 27 0
  constructor
  · intro e
    have h : aFd (fun k => decide (zow.getD k.toNat 0 = v)) 0 27 = -1 ∨ _ := h
    unfold tOwn at e
    rw [e] at h
    rcases h with h | h
    · omega
    · have := of_decide_eq_true h.2.2
      rw [Int.toNat_natCast] at this
      exact this
  · intro e
    rcases h with h | h
    · exfalso
      have hx : ∀ (m : Nat) (b : Int), 0 ≤ b → b ≤ k → (k : Int) < b + m → aFd (fun k => decide (zow.getD k.toNat 0 = v)) b m ≠ -1 := by
        intro m
        induction m with
        | zero => intro b h0 h1 h2; omega
        | succ m ih =>
          intro b h0 h1 h2
          unfold aFd
          split
          · omega
          · next q =>
            have : b ≠ k := by
              intro eb
              apply q
              rw [eb, Int.toNat_natCast]
              exact decide_eq_true e
            exact ih (b + 1) (by omega) (by omega) (by omega)
      exact hx 27 0 (by decide) (by omega) (by omega) h
    · have h2 := of_decide_eq_true h.2.2
      have := zow_inj ⟨(tOwn v).toNat, by unfold tOwn; omega⟩ ⟨k, hk⟩ (by show zow.getD (tOwn v).toNat 0 = zow.getD k 0; rw [e]; exact h2)
      have e3 : (tOwn v).toNat = k := congrArg Fin.val this
      have h0 : 0 ≤ tOwn v := by unfold tOwn; omega
      omega
theorem tOwn_no {v : Int} (h : tOwn v = -1) {k : Nat} (hk : k < 27) : zow.getD k 0 ≠ v := fun e => by
  have := (tOwn_iff (v := v) hk).mpr e
  omega
theorem tOwn_rng {v : Int} : tOwn v = -1 ∨ (0 ≤ tOwn v ∧ tOwn v < 27) := by
  have h := aFd_rng (P := fun k => decide (zow.getD k.toNat 0 = v)) 27 0
  unfold tOwn
  omega
theorem tWc_own {v : Int} {k : Nat} (hv : 0 ≤ v) (hk : k < 27) : tWc v = 20000 + (k : Int) ↔ zow.getD k 0 = v := by
  rw [← tOwn_iff hk]
  unfold tWc
  have := tOwn_rng (v := v)
  split
  · omega
  · omega
