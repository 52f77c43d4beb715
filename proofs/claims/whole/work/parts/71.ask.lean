/-! THE SMALL QUESTIONS -/
def aS (f : Int → Int) : Int → Nat → Int
  | _, 0 => 0
  | b, n + 1 => f b + aS f (b + 1) n
theorem aS_0 {f : Int → Int} {b : Int} : aS f b 0 = 0 := rfl
theorem aS_s {f : Int → Int} {b : Int} {n : Nat} : aS f b (n + 1) = f b + aS f (b + 1) n := rfl
theorem aS_same {f g : Int → Int} : ∀ (n : Nat) (b : Int), (∀ k, b ≤ k → k < b + n → f k = g k) → aS f b n = aS g b n
  | 0, _, _ => rfl
  | n + 1, b, h => by
    unfold aS
    rw [h b (by omega) (by omega), aS_same n (b + 1) (fun k k1 k2 => h k (by omega) (by omega))]
theorem aS_zero {f : Int → Int} : ∀ (n : Nat) (b : Int), (∀ k, b ≤ k → k < b + n → f k = 0) → aS f b n = 0
  | 0, _, _ => rfl
  | n + 1, b, h => by
    unfold aS
    rw [h b (by omega) (by omega), aS_zero n (b + 1) (fun k k1 k2 => h k (by omega) (by omega))]
    rfl
theorem aS_add {f g : Int → Int} : ∀ (n : Nat) (b : Int), aS (fun k => f k + g k) b n = aS f b n + aS g b n
  | 0, _ => rfl
  | n + 1, b => by
    unfold aS
    rw [aS_add n (b + 1)]
    omega
theorem aS_swap {f : Int → Int → Int} (m : Nat) (c : Int) : ∀ (n : Nat) (b : Int), aS (fun k => aS (f k) c m) b n = aS (fun j => aS (fun k => f k j) b n) c m
  | 0, b => by
    rw [aS_zero (f := fun j => aS (fun k => f k j) b 0) m c (fun k _ _ => rfl)]
    rfl
  | n + 1, b => by
    have e : (fun j => aS (fun k => f k j) b (n + 1)) = fun j => f b j + aS (fun k => f k j) (b + 1) n := rfl
    rw [e, aS_add, ← aS_swap m c n (b + 1)]
    rfl
theorem aS_cut {f : Int → Int} : ∀ (m n : Nat) (b : Int), m ≤ n → (∀ k, b + m ≤ k → k < b + n → f k = 0) → aS f b n = aS f b m
  | 0, n, b, _, h => aS_zero n b (fun k k1 k2 => h k (by omega) k2)
  | m + 1, 0, b, hm, _ => by omega
  | m + 1, n + 1, b, hm, h => by
    unfold aS
    rw [aS_cut m n (b + 1) (by omega) (fun k k1 k2 => h k (by omega) (by omega))]
theorem aS_one {P : Int → Int} : ∀ (n : Nat) (b : Int), 0 ≤ b → (∀ k, b ≤ k → k < b + n → P k = 0 ∨ P k = 1) → (∀ i j, b ≤ i → i < b + n → b ≤ j → j < b + n → P i = 1 → P j = 1 → i = j) → aS P b n = if aFd (fun k => decide (P k = 1)) b n = -1 then 0 else 1
  | 0, b, _, _, _ => rfl
  | n + 1, b, h0, h1, h2 => by
    have ih := aS_one (P := P) n (b + 1) (by omega) (fun k k1 k2 => h1 k (by omega) (by omega)) (fun i j i1 i2 j1 j2 => h2 i j (by omega) (by omega) (by omega) (by omega))
    unfold aS
    rcases h1 b (by omega) (by omega) with q | q
    · rw [aFd_f (by simp [q]), q, ih]
      omega
    · rw [aFd_t (by simp [q]), if_neg (by omega), q, aS_zero]
      · rfl
      · intro k k1 k2
        rcases h1 k (by omega) (by omega) with q2 | q2
        · exact q2
        · have := h2 b k (by omega) (by omega) (by omega) (by omega) q q2
          omega
theorem zpop_aS (x : Int) : zpop x = aS (zbit x) 0 6 := by
  unfold zpop aS aS aS aS aS aS aS
  simp
  omega
def aBW (sc : zF) (d : Int) : Int := aFd (fun b => decide (zbit (sc 5 b.toNat) d = 1)) 0 6
def aFl (sc : zF) (k : Int) : Int := if sc 2 k.toNat = -1 then 0 else 1
def aOw (sc : zF) (k : Int) : Int := if sc 6 k.toNat = -1 then 0 else 1
def aLo (sc : zF) (k : Int) : Int := if sc 6 k.toNat = -1 ∧ aBW sc k = -1 then 1 else 0
def aHR (sc : zF) (h k : Int) : Int := if sc 6 k.toNat = h then sc 7 k.toNat else 0
theorem lost_eq {pl sc : zF} (hP : WP pl) (hW : WS pl sc) : pl 1 2 - aS (fun b => zpop (sc 5 b.toNat)) 0 (pl 1 2).toNat - aS (aOw sc) 0 (pl 1 2).toNat = aS (aLo sc) 0 (pl 1 2).toNat := by
  have hN := hP.n
  have e1 : aS (fun b => zpop (sc 5 b.toNat)) 0 (pl 1 2).toNat = aS (fun d => aS (fun b => zbit (sc 5 b.toNat) d) 0 (pl 1 2).toNat) 0 6 := by
    have : (fun b : Int => zpop (sc 5 b.toNat)) = fun b => aS (zbit (sc 5 b.toNat)) 0 6 := funext (fun b => zpop_aS _)
    rw [this, aS_swap]
  have e2 : aS (fun d => aS (fun b => zbit (sc 5 b.toNat) d) 0 (pl 1 2).toNat) 0 6 = aS (fun d => aS (fun b => zbit (sc 5 b.toNat) d) 0 (pl 1 2).toNat) 0 (pl 1 2).toNat := by
    refine aS_cut _ _ _ (by omega) (fun d d1 d2 => ?_)
    refine aS_zero _ _ (fun b b1 b2 => ?_)
    exact hW.dbit (k := b) (d := d) (by omega) (by omega) (by omega)
  have e3 : ∀ d : Int, 0 ≤ d → d < pl 1 2 → aS (fun b => zbit (sc 5 b.toNat) d) 0 (pl 1 2).toNat = if aBW sc d = -1 then 0 else 1 := by
    intro d d1 d2
    rw [aS_one _ _ (by omega) (fun b b1 b2 => zbit_01 (hW.deeds (k := b) (by omega)) (by omega)) (fun i j i1 i2 j1 j2 q1 q2 => (hW.bt j d (by omega) (by omega) d1 (by omega) q2).2.2 i (by omega) (by omega) q1)]
    have : aFd (fun b => decide (zbit (sc 5 b.toNat) d = 1)) 0 (pl 1 2).toNat = aBW sc d := by
      unfold aBW
      refine (aFd_cut _ _ _ (by omega) (fun b b1 b2 => ?_)).symm
      rcases hW.bub (k := b) (by omega) with h | h
      · rw [h.2.2.2, zbit_z (by omega)]
        rfl
      · omega
    rw [this]
  have e4 : aS (fun _ => (1 : Int)) 0 (pl 1 2).toNat = pl 1 2 := by
    have : ∀ (n : Nat) (b : Int), aS (fun _ => (1 : Int)) b n = n := by
      intro n
      induction n with
      | zero => intro b; rfl
      | succ n ih => intro b; unfold aS; rw [ih]; omega
    rw [this]
    omega
  rw [e1, e2, aS_same (g := fun d => if aBW sc d = -1 then 0 else 1) _ _ (fun d d1 d2 => e3 d d1 (by omega))]
  have e5 : aS (fun d => aLo sc d + ((if aBW sc d = -1 then 0 else 1) + aOw sc d)) 0 (pl 1 2).toNat = pl 1 2 := by
    conv => rhs; rw [← e4]
    refine aS_same _ _ (fun d d1 d2 => ?_)
    unfold aLo aOw
    by_cases q1 : sc 6 d.toNat = -1
    · by_cases q2 : aBW sc d = -1
      · rw [if_pos ⟨q1, q2⟩, if_pos q2, if_pos q1]; rfl
      · rw [if_neg (fun c => q2 c.2), if_neg q2, if_pos q1]; rfl
    · have q2 : aBW sc d = -1 := by
        unfold aBW
        refine aFd_no _ _ (fun b b1 b2 => ?_)
        rcases zbit_01 (hW.deeds (k := b) (by omega)) (k := d) (by omega) with h | h
        · rw [h]; rfl
        · exact absurd (hW.bt b d b1 (by omega) d1 (by omega) h).2.1 q1
      rw [if_neg (fun c => q1 c.1), if_pos q2, if_neg q1]; rfl
  rw [aS_add, aS_add] at e5
  omega
def aHas (pl sc : zF) (nf nu sd w : Int) : Int :=
  if w = 0 then pl 0 1 else if w = 1 then pl 0 2 else if w = 2 then pl 1 0 else if w = 3 then pl 1 1 else if w = 4 then pl 1 2
  else if w = 5 then sc 0 0 else if w = 6 then aS (aFl sc) 0 6 else if w = 7 then aS (aOw sc) 0 (pl 1 2).toNat else if w = 8 then aS (aLo sc) 0 (pl 1 2).toNat
  else if w = 9 then sc 0 11 else if w = 10 then nf else if w = 11 then nu else if w = 12 then sd else -1
def aDoor (pl sc : zF) (k w : Int) : Int := if 0 ≤ k ∧ k < pl 1 0 then (if w = 2 then pl 4 k.toNat else if w = 3 then pl 5 k.toNat else if w = 4 then zbit (sc 0 2) k else zpart (pl 3 k.toNat) w) else -1
def aHeir (pl sc : zF) (k w : Int) : Int := if 0 ≤ k ∧ k < pl 1 1 then (if w = 2 then pl 6 k.toNat else if w = 3 then aOwned sc k else if w = 4 then aS (aHR sc k) 0 6 else zpart (sc 1 k.toNat) w) else -1
def aBub (pl sc : zF) (k w : Int) : Int := if 0 ≤ k ∧ k < pl 1 2 then (if w = 2 then sc 3 k.toNat else if w = 3 then sc 4 k.toNat else if w = 4 then sc 5 k.toNat else zpart (sc 2 k.toNat) w) else -1
def aDeed (pl sc : zF) (k w : Int) : Int := if 0 ≤ k ∧ k < pl 1 2 then (if w = 0 then sc 6 k.toNat else if w = 1 then aBW sc k else if w = 2 then sc 7 k.toNat else -1) else -1
def aDraught (pl sc : zF) (x y : Int) : Int := if zcellAt (pl 0 1) (pl 0 2) x y = -1 then -1 else zwind pl (sc 0 2) (zcellAt (pl 0 1) (pl 0 2) x y)
def aKept (sc : zF) (k w : Int) : Int := if (0 ≤ k ∧ k < sc 0 11) ∧ 0 ≤ w ∧ w < 4 then sc 8 (4 * k + w).toNat else -1
section CASK
variable {X : zX} {p : Nat} {rf pl sc : zF}
theorem u_bwith_2 {d : Nat} {Q : Int → zF → Prop} {mem : zF} (hX : CX rf mem p pl sc) (hW : WS pl sc) {k : Int} (hk : 0 ≤ k ∧ k < 6) : ∀ (n : Nat) {x : Int}, 0 ≤ x → x + n = 6 → Q (aFd (fun b => decide (zbit (sc 5 b.toNat) k = 1)) x n) mem → L_scene_bubbleWith_2 X d rf Q mem 23 k x
  | 0, x, h0, hx, kk => s_scene_bubbleWith_2 hX.r (zScn_23 hX.r) ⟨by omega, fun _ => kk, fun q => absurd q (by omega)⟩
  | n + 1, x, h0, hx, kk => by
    have e5 : mem (23 + 5) x.toNat = sc 5 x.toNat := hX.s.i 5 (by decide) (by omega)
    refine s_scene_bubbleWith_2 hX.r (zScn_23 hX.r) ⟨by omega, fun q => absurd q (by omega), fun _ => ⟨by omega, ?_⟩⟩
    rw [e5]
    refine ⟨zbit_inI (hW.deeds (by omega)) hk, fun q => ?_, fun q => ?_⟩
    · rw [aFd_f (decide_eq_false q)] at kk
      exact u_bwith_2 hX hW hk n (by omega) (by omega) kk
    · rw [aFd_t (decide_eq_true q)] at kk
      exact kk
theorem u_floating_4 {d : Nat} {Q : Int → zF → Prop} {mem : zF} (hX : CX rf mem p pl sc) (hW : WS pl sc) : ∀ (n : Nat) {x c : Int}, 0 ≤ x → x + n = 6 → Q (c + aS (aFl sc) x n) mem → L_scene_floating_4 X d rf Q mem 23 c x
  | 0, x, c, h0, hx, kk => s_scene_floating_4 hX.r (zScn_23 hX.r) ⟨by omega, fun _ => by unfold aS at kk; rwa [Int.add_zero] at kk, fun q => absurd q (by omega)⟩
  | n + 1, x, c, h0, hx, kk => by
    have e2 : mem (23 + 2) x.toNat = sc 2 x.toNat := hX.s.i 2 (by decide) (by omega)
    have hbI := hW.bubI (k := x) (by omega)
    unfold aS aFl at kk
    rw [← Int.add_assoc] at kk
    refine s_scene_floating_4 hX.r (zScn_23 hX.r) ⟨by omega, fun q => absurd q (by omega), fun _ => ⟨by omega, ?_⟩⟩
    rw [e2]
    refine ⟨by omega, fun q => ?_, fun q => ?_⟩
    · rw [if_neg q] at kk
      exact u_floating_4 hX hW n (by omega) (by omega) kk
    · rw [if_pos q] at kk
      exact u_floating_4 hX hW n (by omega) (by omega) kk
theorem u_hrent_4 {d : Nat} {Q : Int → zF → Prop} {mem : zF} (hX : CX rf mem p pl sc) (hP : WP pl) (hW : WS pl sc) {h : Int} (hh : inI h) : ∀ (n : Nat) {x c : Int}, 0 ≤ x → x + n = 6 → Q (c + aS (aHR sc h) x n) mem → L_scene_rentOwnedBy_4 X d rf Q mem 23 h c x
  | 0, x, c, h0, hx, kk => s_scene_rentOwnedBy_4 hX.r (zScn_23 hX.r) ⟨by omega, fun _ => by unfold aS at kk; rwa [Int.add_zero] at kk, fun q => absurd q (by omega)⟩
  | n + 1, x, c, h0, hx, kk => by
    have hN := hP.n
    have e6 : mem (23 + 6) x.toNat = sc 6 x.toNat := hX.s.i 6 (by decide) (by omega)
    have e7 : mem (23 + 7) x.toNat = sc 7 x.toNat := hX.s.i 7 (by decide) (by omega)
    have ho := (hW.owner (k := x) (by omega)).1
    unfold aS aHR at kk
    rw [← Int.add_assoc] at kk
    refine s_scene_rentOwnedBy_4 hX.r (zScn_23 hX.r) ⟨by omega, fun q => absurd q (by omega), fun _ => ⟨by omega, ?_⟩⟩
    rw [e6, e7]
    refine ⟨⟨by omega, hh⟩, fun q => ?_, fun q => ⟨by omega, ?_⟩⟩
    · rw [if_neg q] at kk
      exact u_hrent_4 hX hP hW hh n (by omega) (by omega) kk
    · rw [if_pos q] at kk
      exact u_hrent_4 hX hP hW hh n (by omega) (by omega) kk
theorem u_ownd_4 {d : Nat} {Q : Int → zF → Prop} {mem : zF} (hX : CX rf mem p pl sc) (hP : WP pl) (hW : WS pl sc) : ∀ (n : Nat) {x c : Int}, 0 ≤ x → x + n = pl 1 2 → Q (c + aS (aOw sc) x n) mem → L_c_ownedDeeds_4 X d rf Q mem p c x
  | 0, x, c, h0, hx, kk => by
    have hN := hP.n
    refine s_c_ownedDeeds_4 hX.r hX.p hX.f (u_many hX.r hX.p hX.pc (by decide) ?_)
    show (inI x ∧ inI (pl 1 2)) ∧ (pl 1 2 ≤ x → Q c mem) ∧ (¬ pl 1 2 ≤ x → _)
    exact ⟨by omega, fun _ => by unfold aS at kk; rwa [Int.add_zero] at kk, fun q => absurd q (by omega)⟩
  | n + 1, x, c, h0, hx, kk => by
    have hN := hP.n
    have e6 : mem 29 x.toNat = sc 6 x.toNat := hX.s.i 6 (by decide) (by omega)
    have ho := (hW.owner (k := x) (by omega)).1
    unfold aS aOw at kk
    rw [← Int.add_assoc] at kk
    refine s_c_ownedDeeds_4 hX.r hX.p hX.f (u_many hX.r hX.p hX.pc (by decide) ?_)
    show (inI x ∧ inI (pl 1 2)) ∧ (pl 1 2 ≤ x → Q c mem) ∧ (¬ pl 1 2 ≤ x → _)
    refine ⟨by omega, fun q => absurd q (by omega), fun _ => ⟨by omega, ?_⟩⟩
    rw [e6]
    refine ⟨by omega, fun q => ?_, fun q => ?_⟩
    · rw [if_neg q] at kk
      exact u_ownd_4 hX hP hW n (by omega) (by omega) kk
    · rw [if_pos q] at kk
      exact u_ownd_4 hX hP hW n (by omega) (by omega) kk
theorem u_ownd {D : Nat} {Q : Int → zF → Prop} {mem : zF} (hX : CX rf mem p pl sc) (hP : WP pl) (hW : WS pl sc) (hD : 1 ≤ D) (kk : Q (aS (aOw sc) 0 (pl 1 2).toNat) mem) : Ci X D 187 [(2, 0)] rf mem Q := by
  obtain ⟨d, rfl⟩ : ∃ d, D = d + 1 := ⟨D - 1, by omega⟩
  have hN := hP.n
  exact s_c_ownedDeeds hX.r hX.p hX.f (u_ownd_4 hX hP hW (pl 1 2).toNat (by omega) (by omega) (by rwa [Int.zero_add]))
theorem u_lost_4 {d : Nat} {Q : Int → zF → Prop} {mem : zF} (hX : CX rf mem p pl sc) (hP : WP pl) (hW : WS pl sc) (hD : 1 ≤ d) : ∀ (n : Nat) {x c : Int}, 0 ≤ x → x + n = pl 1 2 → Q (pl 1 2 - (c + aS (fun b => zpop (sc 5 b.toNat)) x n) - aS (aOw sc) 0 (pl 1 2).toNat) mem → L_c_lostDeeds_4 X d rf Q mem p c x
  | 0, x, c, h0, hx, kk => by
    have hN := hP.n
    refine s_c_lostDeeds_4 hX.r hX.p hX.f (u_many hX.r hX.p hX.pc (by decide) ?_)
    show (inI x ∧ inI (pl 1 2)) ∧ (pl 1 2 ≤ x → _) ∧ (¬ pl 1 2 ≤ x → _)
    refine ⟨by omega, fun _ => u_many hX.r hX.p hX.pc (by decide) (u_ownd hX hP hW hD ?_), fun q => absurd q (by omega)⟩
    rw [aS_0, Int.add_zero] at kk
    exact kk
  | n + 1, x, c, h0, hx, kk => by
    have hN := hP.n
    have e5 : mem 28 x.toNat = sc 5 x.toNat := hX.s.i 5 (by decide) (by omega)
    rw [aS_s, ← Int.add_assoc] at kk
    refine s_c_lostDeeds_4 hX.r hX.p hX.f (u_many hX.r hX.p hX.pc (by decide) ?_)
    show (inI x ∧ inI (pl 1 2)) ∧ (pl 1 2 ≤ x → _) ∧ (¬ pl 1 2 ≤ x → _)
    refine ⟨by omega, fun q => absurd q (by omega), fun _ => ⟨by omega, ?_⟩⟩
    rw [e5]
    refine u_bitCount hX.r (hW.deeds (by omega)) ?_
    exact u_lost_4 hX hP hW hD n (by omega) (by omega) kk
theorem u_has {D : Nat} {Q : Int → zF → Prop} {mem : zF} (hX : CX rf mem p pl sc) (hP : PX pl sc) (hD : 3 ≤ D) {nf nu sd w : Int} (hw : inI w) (h10 : mem 35 7 = nf) (h11 : mem 52 2 = nu) (h12 : mem 0 9 = sd) (kk : Q (aHas pl sc nf nu sd w) mem) : Ci X D 153 [(2, 0), (0, w)] rf mem Q := by
  obtain ⟨d, rfl⟩ : ∃ d, D = d + 1 := ⟨D - 1, by omega⟩
  obtain ⟨d, rfl⟩ : ∃ e, d = e + 1 := ⟨d - 1, by omega⟩
  have hN := hP.1.n
  unfold aHas at kk
  refine s_c_has hX.r hX.p hX.f ?_
  rw [hX.pc.r0, h10, h11, h12, hX.s.z 0 (by decide), hX.s.z 11 (by decide)]
  refine ⟨hw, fun q => ?_, fun q => ?_, fun q => ?_, fun q => ?_, fun q => ?_, fun q => ?_, fun q => ?_, fun q => ?_, fun q => ?_, fun q => ?_, fun q => ?_, fun q => ?_, fun q => ?_, fun q => ?_⟩
  · rwa [if_pos q] at kk
  · rwa [if_neg (by omega), if_pos q] at kk
  · rw [if_neg (by omega), if_neg (by omega), if_pos q] at kk
    exact u_many hX.r hX.p hX.pc (by decide) kk
  · rw [if_neg (by omega), if_neg (by omega), if_neg (by omega), if_pos q] at kk
    exact u_many hX.r hX.p hX.pc (by decide) kk
  · rw [if_neg (by omega), if_neg (by omega), if_neg (by omega), if_neg (by omega), if_pos q] at kk
    exact u_many hX.r hX.p hX.pc (by decide) kk
  · rwa [if_neg (by omega), if_neg (by omega), if_neg (by omega), if_neg (by omega), if_neg (by omega), if_pos q] at kk
  · rw [if_neg (by omega), if_neg (by omega), if_neg (by omega), if_neg (by omega), if_neg (by omega), if_neg (by omega), if_pos q] at kk
    exact s_scene_floating hX.r (zScn_23 hX.r) (u_floating_4 hX hP.2.2.1 6 (by omega) (by omega) (by rwa [Int.zero_add]))
  · rw [if_neg (by omega), if_neg (by omega), if_neg (by omega), if_neg (by omega), if_neg (by omega), if_neg (by omega), if_neg (by omega), if_pos q] at kk
    exact u_ownd hX hP.1 hP.2.2.1 (by omega) kk
  · rw [if_neg (by omega), if_neg (by omega), if_neg (by omega), if_neg (by omega), if_neg (by omega), if_neg (by omega), if_neg (by omega), if_neg (by omega), if_pos q, ← lost_eq hP.1 hP.2.2.1] at kk
    exact s_c_lostDeeds hX.r hX.p hX.f (u_lost_4 hX hP.1 hP.2.2.1 (by omega) (pl 1 2).toNat (by omega) (by omega) (by rwa [Int.zero_add]))
  · rwa [if_neg (by omega), if_neg (by omega), if_neg (by omega), if_neg (by omega), if_neg (by omega), if_neg (by omega), if_neg (by omega), if_neg (by omega), if_neg (by omega), if_pos q] at kk
  · rwa [if_neg (by omega), if_neg (by omega), if_neg (by omega), if_neg (by omega), if_neg (by omega), if_neg (by omega), if_neg (by omega), if_neg (by omega), if_neg (by omega), if_neg (by omega), if_pos q] at kk
  · rwa [if_neg (by omega), if_neg (by omega), if_neg (by omega), if_neg (by omega), if_neg (by omega), if_neg (by omega), if_neg (by omega), if_neg (by omega), if_neg (by omega), if_neg (by omega), if_neg (by omega), if_pos q] at kk
  · rwa [if_neg (by omega), if_neg (by omega), if_neg (by omega), if_neg (by omega), if_neg (by omega), if_neg (by omega), if_neg (by omega), if_neg (by omega), if_neg (by omega), if_neg (by omega), if_neg (by omega), if_neg (by omega), if_pos q] at kk
  · rwa [if_neg q.1, if_neg q.2.1, if_neg q.2.2.1, if_neg q.2.2.2.1, if_neg q.2.2.2.2.1, if_neg q.2.2.2.2.2.1, if_neg q.2.2.2.2.2.2.1, if_neg q.2.2.2.2.2.2.2.1, if_neg q.2.2.2.2.2.2.2.2.1, if_neg q.2.2.2.2.2.2.2.2.2.1, if_neg q.2.2.2.2.2.2.2.2.2.2.1, if_neg q.2.2.2.2.2.2.2.2.2.2.2.1, if_neg q.2.2.2.2.2.2.2.2.2.2.2.2] at kk
theorem u_lamp {D : Nat} {Q : Int → zF → Prop} {mem : zF} (hX : CX rf mem p pl sc) (hP : PX pl sc) (hD : 1 ≤ D) {w : Int} (hw : inI w) (kk : Q (zpart (sc 0 1) w) mem) : Ci X D 155 [(2, 0), (0, w)] rf mem Q := by
  obtain ⟨d, rfl⟩ : ∃ d, D = d + 1 := ⟨D - 1, by omega⟩
  have hl := hP.2.2.1.lamp
  unfold zic at hl
  refine s_c_lamp hX.r hX.p hX.f ?_
  rw [hX.s.z 1 (by decide)]
  exact u_placePart hX (by omega) hw kk
theorem u_door {D : Nat} {Q : Int → zF → Prop} {mem : zF} (hX : CX rf mem p pl sc) (hP : PX pl sc) (hD : 3 ≤ D) {k w : Int} (hk : inI k) (hw : inI w) (kk : Q (aDoor pl sc k w) mem) : Ci X D 156 [(2, 0), (0, k), (0, w)] rf mem Q := by
  obtain ⟨d, rfl⟩ : ∃ d, D = d + 1 := ⟨D - 1, by omega⟩
  have hN := hP.1.n
  unfold aDoor at kk
  refine s_c_door hX.r hX.p hX.f (u_isThere hX.r hX.p hX.pc hP.1 (by omega) (by decide) hk (fun h => ?_) (fun h => ?_))
  · have hk2 : 0 ≤ k ∧ k < pl 1 0 := ⟨h.1, h.2.2.2.2⟩
    have hk6 : k < 6 := h.2.1
    have hd := hP.1.door hk2.1 hk2.2
    have hd1 := hd.1
    unfold zic at hd1
    have ec : zcel pl 0 k = pl 3 k.toNat := by
      unfold zcel
      rw [if_pos (show k < pl 1 (Int.toNat 0) from hk2.2)]
      congr 1
      omega
    rw [if_pos hk2] at kk
    rw [hX.pc.r 4 (by decide) (by decide), hX.pc.r 5 (by decide) (by decide), hX.s.z 2 (by decide)]
    refine ⟨by decide, fun _ => ⟨hw, fun q => ?_, fun q => ?_, fun q => ?_, fun q => ?_, fun q => ?_, fun q => ?_⟩, fun q => absurd q (by decide)⟩
    · rw [if_neg (by omega), if_neg (by omega), if_neg (by omega)] at kk
      refine u_cellOf hX.r hX.p hX.pc hP.1 (by omega) (by decide) (by omega) ?_
      rw [ec]
      exact u_placePart hX (by omega) hw kk
    · rw [if_neg (by omega), if_neg (by omega), if_neg (by omega)] at kk
      refine u_cellOf hX.r hX.p hX.pc hP.1 (by omega) (by decide) (by omega) ?_
      rw [ec]
      exact u_placePart hX (by omega) hw kk
    · rw [if_pos q] at kk
      exact ⟨by omega, kk⟩
    · rw [if_neg (by omega), if_pos q] at kk
      exact ⟨by omega, kk⟩
    · rw [if_neg (by omega), if_neg (by omega), if_pos q] at kk
      exact kk
    · rw [if_neg q.2.2.1, if_neg q.2.2.2.1, if_neg q.2.2.2.2, zpart_no (by omega)] at kk
      exact kk
  · rw [if_neg (fun c => h ⟨c.1, by omega, by decide, by decide, c.2⟩)] at kk
    exact ⟨by decide, fun q => absurd rfl q, fun _ => kk⟩
theorem u_heir {D : Nat} {Q : Int → zF → Prop} {mem : zF} (hX : CX rf mem p pl sc) (hP : PX pl sc) (hD : 3 ≤ D) {k w : Int} (hk : inI k) (hw : inI w) (kk : Q (aHeir pl sc k w) mem) : Ci X D 157 [(2, 0), (0, k), (0, w)] rf mem Q := by
  obtain ⟨d, rfl⟩ : ∃ d, D = d + 1 := ⟨D - 1, by omega⟩
  have hN := hP.1.n
  unfold aHeir at kk
  refine s_c_heir hX.r hX.p hX.f (u_isThere hX.r hX.p hX.pc hP.1 (by omega) (by decide) hk (fun h => ?_) (fun h => ?_))
  · have hk2 : 0 ≤ k ∧ k < pl 1 1 := ⟨h.1, h.2.2.2.2⟩
    have hk6 : 0 ≤ k ∧ k < 6 := ⟨h.1, h.2.1⟩
    have hI := hP.2.2.1.heirI hk6
    have e1 : mem 24 k.toNat = sc 1 k.toNat := hX.s.i 1 (by decide) hk6
    rw [if_pos hk2] at kk
    rw [e1, hX.pc.r 6 (by decide) (by decide)]
    refine ⟨by decide, fun _ => ⟨hw, fun q => ⟨hk6, ?_⟩, fun q => ⟨hk6, ?_⟩, fun q => ⟨hk6, ?_⟩, fun q => ?_, fun q => ?_, fun q => ?_⟩, fun q => absurd q (by decide)⟩
    · rw [if_neg (by omega), if_neg (by omega), if_neg (by omega)] at kk
      exact u_placePart hX hI hw kk
    · rw [if_neg (by omega), if_neg (by omega), if_neg (by omega)] at kk
      exact u_placePart hX hI hw kk
    · rwa [if_pos q] at kk
    · rw [if_neg (by omega), if_pos q] at kk
      exact u_owned (o := 23) hX.r (zScn_23 hX.r) hX.s hP.1 hP.2.2.1 hk kk
    · rw [if_neg (by omega), if_neg (by omega), if_pos q] at kk
      exact s_scene_rentOwnedBy hX.r (zScn_23 hX.r) (u_hrent_4 hX hP.1 hP.2.2.1 hk 6 (by omega) (by omega) (by rwa [Int.zero_add]))
    · rw [if_neg q.2.2.1, if_neg q.2.2.2.1, if_neg q.2.2.2.2, zpart_no (by omega)] at kk
      exact kk
  · rw [if_neg (fun c => h ⟨c.1, by omega, by decide, by decide, c.2⟩)] at kk
    exact ⟨by decide, fun q => absurd rfl q, fun _ => kk⟩
theorem u_bubble {D : Nat} {Q : Int → zF → Prop} {mem : zF} (hX : CX rf mem p pl sc) (hP : PX pl sc) (hD : 3 ≤ D) {k w : Int} (hk : inI k) (hw : inI w) (kk : Q (aBub pl sc k w) mem) : Ci X D 158 [(2, 0), (0, k), (0, w)] rf mem Q := by
  obtain ⟨d, rfl⟩ : ∃ d, D = d + 1 := ⟨D - 1, by omega⟩
  have hN := hP.1.n
  unfold aBub at kk
  refine s_c_bubble hX.r hX.p hX.f (u_isThere hX.r hX.p hX.pc hP.1 (by omega) (by decide) hk (fun h => ?_) (fun h => ?_))
  · have hk2 : 0 ≤ k ∧ k < pl 1 2 := ⟨h.1, h.2.2.2.2⟩
    have hk6 : 0 ≤ k ∧ k < 6 := ⟨h.1, h.2.1⟩
    have hI := hP.2.2.1.bubI hk6
    have e2 : mem 25 k.toNat = sc 2 k.toNat := hX.s.i 2 (by decide) hk6
    have e3 : mem 26 k.toNat = sc 3 k.toNat := hX.s.i 3 (by decide) hk6
    have e4 : mem 27 k.toNat = sc 4 k.toNat := hX.s.i 4 (by decide) hk6
    have e5 : mem 28 k.toNat = sc 5 k.toNat := hX.s.i 5 (by decide) hk6
    rw [if_pos hk2] at kk
    rw [e2, e3, e4, e5]
    refine ⟨by decide, fun _ => ⟨hw, fun q => ⟨hk6, ?_⟩, fun q => ⟨hk6, ?_⟩, fun q => ⟨hk6, ?_⟩, fun q => ⟨hk6, ?_⟩, fun q => ⟨hk6, ?_⟩, fun q => ?_⟩, fun q => absurd q (by decide)⟩
    · rw [if_neg (by omega), if_neg (by omega), if_neg (by omega)] at kk
      exact u_placePart hX hI hw kk
    · rw [if_neg (by omega), if_neg (by omega), if_neg (by omega)] at kk
      exact u_placePart hX hI hw kk
    · rwa [if_pos q] at kk
    · rwa [if_neg (by omega), if_pos q] at kk
    · rwa [if_neg (by omega), if_neg (by omega), if_pos q] at kk
    · rw [if_neg q.2.2.1, if_neg q.2.2.2.1, if_neg q.2.2.2.2, zpart_no (by omega)] at kk
      exact kk
  · rw [if_neg (fun c => h ⟨c.1, by omega, by decide, by decide, c.2⟩)] at kk
    exact ⟨by decide, fun q => absurd rfl q, fun _ => kk⟩
theorem u_deed {D : Nat} {Q : Int → zF → Prop} {mem : zF} (hX : CX rf mem p pl sc) (hP : PX pl sc) (hD : 3 ≤ D) {k w : Int} (hk : inI k) (hw : inI w) (kk : Q (aDeed pl sc k w) mem) : Ci X D 159 [(2, 0), (0, k), (0, w)] rf mem Q := by
  obtain ⟨d, rfl⟩ : ∃ d, D = d + 1 := ⟨D - 1, by omega⟩
  have hN := hP.1.n
  unfold aDeed at kk
  refine s_c_deed hX.r hX.p hX.f (u_isThere hX.r hX.p hX.pc hP.1 (by omega) (by decide) hk (fun h => ?_) (fun h => ?_))
  · have hk2 : 0 ≤ k ∧ k < pl 1 2 := ⟨h.1, h.2.2.2.2⟩
    have hk6 : 0 ≤ k ∧ k < 6 := ⟨h.1, h.2.1⟩
    have e6 : mem 29 k.toNat = sc 6 k.toNat := hX.s.i 6 (by decide) hk6
    have e7 : mem 30 k.toNat = sc 7 k.toNat := hX.s.i 7 (by decide) hk6
    rw [if_pos hk2] at kk
    rw [e6, e7]
    refine ⟨by decide, fun _ => ⟨hw, fun q => ⟨hk6, ?_⟩, fun q => ?_, fun q => ⟨hk6, ?_⟩, fun q => ?_⟩, fun q => absurd q (by decide)⟩
    · rwa [if_pos q] at kk
    · rw [if_neg (by omega), if_pos q] at kk
      exact s_scene_bubbleWith hX.r (zScn_23 hX.r) (u_bwith_2 hX hP.2.2.1 hk6 6 (by omega) (by omega) kk)
    · rwa [if_neg (by omega), if_neg (by omega), if_pos q] at kk
    · rwa [if_neg q.1, if_neg q.2.1, if_neg q.2.2] at kk
  · rw [if_neg (fun c => h ⟨c.1, by omega, by decide, by decide, c.2⟩)] at kk
    exact ⟨by decide, fun q => absurd rfl q, fun _ => kk⟩
theorem u_draught {D : Nat} {Q : Int → zF → Prop} {mem : zF} (hX : CX rf mem p pl sc) (hP : PX pl sc) (hD : 5 ≤ D) {x y : Int} (hx : inI x) (hy : inI y) (kk : ∀ mem', QC p mem mem' → Q (aDraught pl sc x y) mem') : Ci X D 160 [(2, 0), (0, x), (0, y)] rf mem Q := by
  obtain ⟨d, rfl⟩ : ∃ d, D = d + 1 := ⟨D - 1, by omega⟩
  have hp := hX.e
  have hcr := hP.1.cr
  unfold aDraught at kk
  refine s_c_draught hX.r hX.p hX.f (u_cellAt hX.r hX.p hX.pc hP.1 hx hy ?_)
  have hr := zcellAt_rng (C := pl 0 1) (R := pl 0 2) (x := x) (y := y) (by omega) (by omega)
  unfold zic at hr
  refine ⟨by omega, fun q => ?_, fun q => ?_⟩
  · rw [if_neg q] at kk
    refine u_prepare (o := 23) (w := 32) hX.r (zWrk_32 hX.r) hX.p (zScn_23 hX.r) hP.1 (by omega) (by decide) (by omega) hP.2.2.1.opn hX.pc (hX.s.z 2 (by decide)) ?_
    intro m1 f1 g1
    refine u_windIn hX.r (zWrk_32 hX.r) (by omega) ?_
    rw [if_pos (by omega), g1 _ (by omega) (by omega)]
    exact kk m1 ⟨fun i a b c d => f1 i (by omega), by rw [f1 35 (by decide)]⟩
  · rw [if_pos q] at kk
    exact kk mem QC.rfl
theorem u_kept {d : Nat} {Q : Int → zF → Prop} {mem : zF} (hX : CX rf mem p pl sc) (hP : PX pl sc) {k w : Int} (hk : inI k) (hw : inI w) (kk : Q (aKept sc k w) mem) : Ci X d 179 [(2, 0), (0, k), (0, w)] rf mem Q := by
  have h6 := hP.2.2.1.k6
  unfold aKept at kk
  refine s_c_kept hX.r hX.p hX.f ?_
  rw [hX.s.z 11 (by decide)]
  refine ⟨hk, fun q => ?_, fun q => ⟨⟨hk, by omega⟩, fun q2 => ?_, fun q2 => ⟨hw, fun q3 => ?_, fun q3 => ⟨hw, fun q4 => ⟨by omega, ?_⟩, fun q4 => ?_⟩⟩⟩⟩
  · rwa [if_neg (by omega)] at kk
  · rwa [if_neg (by omega)] at kk
  · rwa [if_neg (by omega)] at kk
  · rw [if_pos (by omega)] at kk
    have e : mem 31 (4 * k + w).toNat = sc 8 (4 * k + w).toNat := hX.s.e _ (by omega)
    rwa [e]
  · rwa [if_neg (by omega)] at kk
end CASK
