/-! THE ACTS KEPT: push and pop of both -/
def HSc (mem : zF) (c f : Int) (hs : Int → zF) : Prop := ∀ k : Int, 0 ≤ k → k < c → SC mem (54 + 9 * ((f + k) % 20).toNat) (hs k)
def HSr (mem : zF) (c u : Int) (pl : zF) (hs : Int → zF) : Prop := ∀ k : Int, 0 ≤ k → k < c → RV mem (2 + (u + k) % 20) pl (hs k)
def HW (pl : zF) (c : Int) (hs : Int → zF) : Prop := ∀ k : Int, 0 ≤ k → k < c → WS pl (hs k) ∧ hs k 0 0 ≤ 999
def hsP (hs : Int → zF) (c : Int) (sc : zF) : Int → zF := fun k => if c < 20 then (if k = c then sc else hs k) else (if k = 19 then sc else hs (k + 1))
theorem HW.push {pl sc : zF} {c : Int} {hs : Int → zF} (h : HW pl c hs) (hP : PX pl sc) (hc : 0 ≤ c ∧ c ≤ 20) : HW pl (min (c + 1) 20) (hsP hs c sc) := by
  intro k k1 k2
  unfold hsP
  by_cases q : c < 20
  · rw [if_pos q]
    by_cases e : k = c
    · rw [if_pos e]; exact ⟨hP.2.2.1, hP.2.2.2⟩
    · rw [if_neg e]; exact h k k1 (by omega)
  · rw [if_neg q]
    by_cases e : k = 19
    · rw [if_pos e]; exact ⟨hP.2.2.1, hP.2.2.2⟩
    · rw [if_neg e]; exact h (k + 1) (by omega) (by omega)
theorem tmod20 {c : Int} (h : 0 ≤ c) : c.tmod 20 = c % 20 := Int.tmod_eq_emod_of_nonneg h
section HIST
variable {X : zX} {p : Nat} {rf pl sc : zF}
theorem u_hpush_32 {d : Nat} {Q : zF → Prop} {mem : zF} (hX : CX rf mem p pl sc) (hD : 1 ≤ d) {c f : Int} (hc : mem 52 2 = c) (hf : mem 52 1 = f) (hcr : 0 ≤ c ∧ c < 20) (hfr : 0 ≤ f ∧ f < 20) (kk : ∀ mem', mem' 52 2 = c + 1 → mem' 52 1 = f → SC mem' (54 + 9 * ((f + c) % 20).toNat) sc → (∀ i, i ≠ 52 → (i < 54 + 9 * ((f + c) % 20).toNat ∨ 54 + 9 * ((f + c) % 20).toNat + 8 < i) → mem' i = mem i) → Q mem') : L_history_push_32 X d rf Q mem 23 := by
  obtain ⟨d, rfl⟩ : ∃ e, d = e + 1 := ⟨d - 1, by omega⟩
  refine s_history_push_32 hX.r (zScn_23 hX.r) ?_
  rw [hc, hf, tmod20 (by omega)]
  have hz := zring (i := (f + c) % 20) hX.r (by omega)
  refine ⟨by omega, by omega, s_history_copyScene (o := 23) hX.r (zScn_23 hX.r) hz (u_copy (o := 54 + 9 * ((f + c) % 20).toNat) (o2 := 23) hX.r hz (zScn_23 hX.r) (by omega) hX.s ?_)⟩
  intro m1 g1 f1
  refine kk _ ?_ ?_ (g1.fr (fun i i1 i2 => zup_row _ _ _ (by omega))) (fun i i1 i2 => by rw [zup_row _ _ _ i1]; exact f1 i i2)
  · rw [zup_at, f1 52 (by omega), hc]
  · rw [zup_ne _ _ _ _ (by decide), f1 52 (by omega), hf]
theorem u_hpush {D : Nat} {Q : zF → Prop} {mem : zF} (hX : CX rf mem p pl sc) (hD : 2 ≤ D) {c f : Int} {hs : Int → zF} (hc : mem 52 2 = c) (hf : mem 52 1 = f) (hcr : 0 ≤ c ∧ c ≤ 20) (hfr : 0 ≤ f ∧ f < 20) (hh : HSc mem c f hs) (kk : ∀ mem' f', mem' 52 2 = min (c + 1) 20 → mem' 52 1 = f' → 0 ≤ f' ∧ f' < 20 → HSc mem' (min (c + 1) 20) f' (hsP hs c sc) → (∀ i, (i < 52 ∨ 233 < i) → mem' i = mem i) → Q mem') : Cv X D 2 [(2, 52), (2, 23)] rf mem Q := by
  obtain ⟨d, rfl⟩ : ∃ d, D = d + 1 := ⟨D - 1, by omega⟩
  refine s_history_push hX.r (zScn_23 hX.r) ?_
  rw [hc, hf]
  refine ⟨by omega, fun q => ?_, fun q => ⟨by omega, ?_⟩⟩
  · refine u_hpush_32 hX (by omega) hc hf (by omega) hfr ?_
    intro m1 a1 a2 a3 a4
    refine kk m1 f (by omega) a2 hfr ?_ (fun i hi => a4 i (by omega) (by omega))
    intro k k1 k2
    unfold hsP
    rw [if_pos (by omega)]
    by_cases e : k = c
    · rw [if_pos e, e]
      exact a3
    · rw [if_neg e]
      exact (hh k k1 (by omega)).fr (fun i i1 i2 => a4 i (by omega) (by omega))
  · rw [tmod20 (by omega)]
    have e0 : c = 20 := q
    have hX2 : CX rf (zup (zup mem 52 1 ((f + 1) % 20)) 52 2 (c - 1)) p pl sc := by
      have hp := hX.e
      exact ⟨hX.1, hX.pc.fr (fun s h1 h2 => by rw [zup_row _ _ _ (by omega), zup_row _ _ _ (by omega)]), hX.s.fr (fun i i1 i2 => by rw [zup_row _ _ _ (by omega), zup_row _ _ _ (by omega)])⟩
    refine u_hpush_32 hX2 (by omega) (c := c - 1) (f := (f + 1) % 20) (by rw [zup_at]) (by rw [zup_ne _ _ _ _ (by decide), zup_at]) (by omega) (by omega) ?_
    intro m1 a1 a2 a3 a4
    refine kk m1 _ (by omega) a2 (by omega) ?_ (fun i hi => by rw [a4 i (by omega) (by omega), zup_row _ _ _ (by omega), zup_row _ _ _ (by omega)])
    intro k k1 k2
    unfold hsP
    rw [if_neg (by omega)]
    by_cases e : k = 19
    · rw [if_pos e, e]
      have e2 : c - 1 = 19 := by omega
      rw [e2] at a3
      exact a3
    · rw [if_neg e]
      have h5 := hh (k + 1) (by omega) (by omega)
      have e3 : (f + (k + 1)) % 20 = ((f + 1) % 20 + k) % 20 := by omega
      rw [e3] at h5
      refine h5.fr (fun i i1 i2 => ?_)
      rw [a4 i (by omega) (by omega), zup_row _ _ _ (by omega), zup_row _ _ _ (by omega)]
theorem u_hpop {D : Nat} {Q : Int → zF → Prop} {mem : zF} (hX : CX rf mem p pl sc) (hD : 2 ≤ D) {c f : Int} {hs : Int → zF} (hc : mem 52 2 = c) (hf : mem 52 1 = f) (hcr : 0 ≤ c ∧ c ≤ 20) (hfr : 0 ≤ f ∧ f < 20) (hh : HSc mem c f hs) (k1 : 0 < c → ∀ mem', mem' 52 2 = c - 1 → mem' 52 1 = f → SC mem' 23 (hs (c - 1)) → (∀ i, i ≠ 52 → (i < 23 ∨ 31 < i) → mem' i = mem i) → Q 1 mem') (k0 : c = 0 → Q 0 mem) : Ci X D 3 [(2, 52), (2, 23)] rf mem Q := by
  obtain ⟨d, rfl⟩ : ∃ d, D = d + 1 := ⟨D - 1, by omega⟩
  refine s_history_pop hX.r (zScn_23 hX.r) ?_
  rw [hc, hf]
  refine ⟨by omega, fun q => ?_, fun q => k0 (by omega)⟩
  rw [tmod20 (by omega)]
  have hz := zring (i := (f + (c - 1)) % 20) hX.r (by omega)
  obtain ⟨d, rfl⟩ : ∃ e, d = e + 1 := ⟨d - 1, by omega⟩
  have h5 := hh (c - 1) (by omega) (by omega)
  refine ⟨by omega, by omega, s_history_copyScene (o2 := 23) hX.r hz (zScn_23 hX.r) (u_copy (o := 23) (o2 := 54 + 9 * ((f + (c - 1)) % 20).toNat) hX.r (zScn_23 hX.r) hz (by omega) (h5.fr (fun i i1 i2 => zup_row _ _ _ (by omega))) ?_)⟩
  intro m1 g1 f1
  refine k1 q m1 ?_ ?_ g1 (fun i i1 i2 => by rw [f1 i (by omega), zup_row _ _ _ i1])
  · rw [f1 52 (by omega), zup_at]
  · rw [f1 52 (by omega), zup_ne _ _ _ _ (by decide), hf]
/-! the reference -/
/-- only the kept versions and their numbers change -/
def KF (mem mem' : zF) : Prop := (∀ j, j ≠ 64 → j ≠ 65 → mem' 261 j = mem 261 j) ∧ ∀ a j, a ≠ 261 → (∀ w : Int, 2 ≤ w → w < 22 → ¬ zofv w a j) → a ≠ 305 → a ≠ 306 → mem' a j = mem a j
theorem RF.kf {v : Int} {m1 m2 : zF} (h : RF v m1 m2) (hv : 2 ≤ v ∧ v < 22) : KF m1 m2 := ⟨fun j _ _ => by rw [h.row (by decide)], fun a j _ hz h5 h6 => h a j (hz v hv.1 hv.2) h5 h6⟩
theorem KF.trans {m1 m2 m3 : zF} (h1 : KF m1 m2) (h2 : KF m2 m3) : KF m1 m3 := ⟨fun j a b => (h2.1 j a b).trans (h1.1 j a b), fun a j b c d e => (h2.2 a j b c d e).trans (h1.2 a j b c d e)⟩
theorem KF.up {m1 m2 : zF} {j : Nat} {x : Int} (h : KF m1 m2) (hj : j = 64 ∨ j = 65) : KF m1 (zup m2 261 j x) := ⟨fun i a b => by rw [zup_ne _ _ _ _ (by omega)]; exact h.1 i a b, fun a i b c d e => by rw [zup_row _ _ _ b]; exact h.2 a i b c d e⟩
theorem KF.rfl {mem : zF} : KF mem mem := ⟨fun _ _ _ => Eq.refl _, fun _ _ _ _ _ _ => Eq.refl _⟩
theorem KF.row {m1 m2 : zF} (h : KF m1 m2) {a : Nat} (ha : a ≠ 261) (hb : a < 293 ∨ 306 < a) : m2 a = m1 a := by
  funext j
  refine h.2 a j ha (fun w w1 w2 => ?_) (by omega) (by omega)
  unfold zofv
  omega
theorem KF.rp {m1 m2 : zF} (h : KF m1 m2) (hp : RP m1 pl) : RP m2 pl := hp.fr (h.1 13 (by decide) (by decide)) (h.1 50 (by decide) (by decide)) (fun a a1 a2 => h.row (by omega) (by omega))
theorem KF.rv0 {m1 m2 : zF} (h : KF m1 m2) (hP : PX pl sc) (hr : RV m1 0 pl sc) : RV m2 0 pl sc := by
  have hn := hP.1.n
  have hk := hP.2.2.1.k6
  refine ⟨?_, fun k k1 k2 => ?_, fun s k k1 k2 k3 k4 => ?_, fun j j1 j2 => ?_⟩
  · rw [h.2 293 _ (by decide) (fun w w1 w2 => by unfold zofv; omega) (by decide) (by decide), h.2 294 _ (by decide) (fun w w1 w2 => by unfold zofv; omega) (by decide) (by decide), h.2 295 _ (by decide) (fun w w1 w2 => by unfold zofv; omega) (by decide) (by decide), h.2 303 _ (by decide) (fun w w1 w2 => by unfold zofv; omega) (by decide) (by decide)]
    exact hr.1
  · rw [h.2 296 _ (by decide) (fun w w1 w2 => by unfold zofv; omega) (by decide) (by decide)]
    exact hr.2.1 k k1 k2
  · rw [h.2 (295 + s) _ (by omega) (fun w w1 w2 => by unfold zofv; omega) (by omega) (by omega)]
    exact hr.2.2.1 s k k1 k2 k3 k4
  · rw [h.2 304 _ (by decide) (fun w w1 w2 => by unfold zofv; omega) (by decide) (by decide)]
    exact hr.2.2.2 j j1 j2
theorem t_keeps_32 {d : Nat} {Q : zF → Prop} {mem : zF} (hX : RX rf mem pl sc) (hP : PX pl sc) {c u : Int} (hc : mem 261 65 = c) (hu : mem 261 64 = u) (hcr : 0 ≤ c ∧ c < 20) (hur : 0 ≤ u ∧ u < 20) (kk : ∀ mem', mem' 261 65 = c + 1 → mem' 261 64 = u → RV mem' (2 + (u + c) % 20) pl sc → (∀ a j, a ≠ 261 → ¬ zofv (2 + (u + c) % 20) a j → a ≠ 305 → a ≠ 306 → mem' a j = mem a j) → KF mem mem' → Q mem') : L_m_keeps_32 X d rf Q mem := by
  refine s_m_keeps_32 hX.1 (s_m_slot hX.1 ?_)
  rw [hc, hu, tmod20 (by omega)]
  refine ⟨by omega, t_copies hX.1 hP.1 hP.2.2.1 (by omega) (by decide) (by omega) hX.2.2 ?_⟩
  intro m1 g1 f1
  refine kk _ ?_ ?_ (g1.fr (fun a a1 a2 => zup_row _ _ _ (by omega))) (fun a j h1 h2 h3 h4 => by rw [zup_row _ _ _ h1]; exact f1 a j h2 h3 h4) ((f1.kf (by omega)).up (Or.inr rfl))
  · rw [zup_at, f1.row (by decide), hc]
  · rw [zup_ne _ _ _ _ (by decide), f1.row (by decide), hu]
theorem rv_keep {m1 m2 s1 : zF} {v w : Int} (h : ∀ a j, a ≠ 261 → ¬ zofv w a j → a ≠ 305 → a ≠ 306 → m2 a j = m1 a j) (hne : v ≠ w) (hv : 0 ≤ v) (hw : 0 ≤ w) (hn : pl 1 1 ≤ 6 ∧ pl 1 2 ≤ 6) (hk : s1 0 11 ≤ 6) (hr : RV m1 v pl s1) : RV m2 v pl s1 := by
  refine ⟨?_, fun k k1 k2 => ?_, fun s k k1 k2 k3 k4 => ?_, fun j j1 j2 => ?_⟩
  · rw [h 293 _ (by decide) (by unfold zofv; omega) (by decide) (by decide), h 294 _ (by decide) (by unfold zofv; omega) (by decide) (by decide), h 295 _ (by decide) (by unfold zofv; omega) (by decide) (by decide), h 303 _ (by decide) (by unfold zofv; omega) (by decide) (by decide)]
    exact hr.1
  · rw [h 296 _ (by decide) (by unfold zofv; omega) (by decide) (by decide)]
    exact hr.2.1 k k1 k2
  · rw [h (295 + s) _ (by omega) (by unfold zofv; omega) (by omega) (by omega)]
    exact hr.2.2.1 s k k1 k2 k3 k4
  · rw [h 304 _ (by decide) (by unfold zofv; omega) (by decide) (by decide)]
    exact hr.2.2.2 j j1 j2
theorem t_keeps {D : Nat} {Q : zF → Prop} {mem : zF} (hX : RX rf mem pl sc) (hP : PX pl sc) (hD : 1 ≤ D) {c u : Int} {hs : Int → zF} (hc : mem 261 65 = c) (hu : mem 261 64 = u) (hcr : 0 ≤ c ∧ c ≤ 20) (hur : 0 ≤ u ∧ u < 20) (hw : HW pl c hs) (hh : HSr mem c u pl hs) (kk : ∀ mem' u', mem' 261 65 = min (c + 1) 20 → mem' 261 64 = u' → 0 ≤ u' ∧ u' < 20 → HSr mem' (min (c + 1) 20) u' pl (hsP hs c sc) → KF mem mem' → Q mem') : Cv X D 245 [(2, 261)] rf mem Q := by
  obtain ⟨d, rfl⟩ : ∃ d, D = d + 1 := ⟨D - 1, by omega⟩
  have hn := hP.1.n
  refine s_m_keeps hX.1 ?_
  rw [hc, hu]
  refine ⟨by omega, fun q => ?_, fun q => ⟨by omega, ?_⟩⟩
  · refine t_keeps_32 hX hP hc hu (by omega) hur ?_
    intro m1 a1 a2 a3 a4 a5
    refine kk m1 u (by omega) a2 hur ?_ a5
    intro k k1 k2
    unfold hsP
    rw [if_pos (by omega)]
    by_cases e : k = c
    · rw [if_pos e, e]
      exact a3
    · rw [if_neg e]
      exact rv_keep a4 (by omega) (by omega) (by omega) (by omega) (hw k k1 (by omega)).1.k6.2 (hh k k1 (by omega))
  · rw [tmod20 (by omega)]
    have hK : KF mem (zup (zup mem 261 64 ((u + 1) % 20)) 261 65 (c - 1)) := (KF.rfl.up (Or.inl rfl)).up (Or.inr rfl)
    have hX2 : RX rf (zup (zup mem 261 64 ((u + 1) % 20)) 261 65 (c - 1)) pl sc := ⟨hX.1, hK.rp hX.2.1, hK.rv0 hP hX.2.2⟩
    refine t_keeps_32 hX2 hP (c := c - 1) (u := (u + 1) % 20) (by rw [zup_at]) (by rw [zup_ne _ _ _ _ (by decide), zup_at]) (by omega) (by omega) ?_
    intro m1 a1 a2 a3 a4 a5
    refine kk m1 _ (by omega) a2 (by omega) ?_ (hK.trans a5)
    intro k k1 k2
    unfold hsP
    rw [if_neg (by omega)]
    by_cases e : k = 19
    · rw [if_pos e, e]
      have e2 : c - 1 = 19 := by omega
      rw [e2] at a3
      exact a3
    · rw [if_neg e]
      have h5 := hh (k + 1) (by omega) (by omega)
      have e3 : (u + (k + 1)) % 20 = ((u + 1) % 20 + k) % 20 := by omega
      rw [e3] at h5
      refine rv_keep (m1 := zup (zup mem 261 64 ((u + 1) % 20)) 261 65 (c - 1)) a4 (by omega) (by omega) (by omega) (by omega) (hw (k + 1) (by omega) (by omega)).1.k6.2 ?_
      exact h5.fr (fun a a1 a2 => by rw [zup_row _ _ _ (by omega), zup_row _ _ _ (by omega)])
theorem t_refuses {d : Nat} {Q : Int → zF → Prop} {mem : zF} (hR : zall rf zRK = true) {k : Int} (hk : 0 ≤ k ∧ k < 6) (kk : Q (-1) (zup mem 292 k.toNat (mem 292 k.toNat + 1))) : Ci X d 240 [(2, 261), (0, k)] rf mem Q := s_m_refuses hR ⟨hk, hk, kk⟩
theorem u_refused {d : Nat} {Q : Int → zF → Prop} {mem : zF} (hX : CX rf mem p pl sc) {k : Int} (hk : 0 ≤ k ∧ k < 6) (kk : Q 0 (zup mem 245 k.toNat (mem 245 k.toNat + 1))) : Ci X d 184 [(2, 0), (0, k)] rf mem Q :=
  s_c_refused hX.r hX.p hX.f ⟨by omega, fun q => absurd q (by omega), fun _ => ⟨by omega, fun q => absurd q (by omega), fun _ => ⟨hk, hk, kk⟩⟩⟩
end HIST
