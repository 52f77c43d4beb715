/-! pairs: the small questions, the tape's end, the seed, the acts -/
theorem G.core {rf mem mem' : zF} {p : Nat} {pl sc ft ft' : zF} {hs : Int → zF} {c f u : Int} {tb tb' : Nat → Int} {N N' : Int} (h : G rf mem p pl sc ft hs c f u tb N) (a : ∀ i, (i = 0 ∨ (23 ≤ i ∧ i ≤ 31) ∨ (52 ≤ i ∧ i ≤ 233) ∨ (p ≤ i ∧ i ≤ p + 12 ∧ i ≠ p + 9)) → mem' i = mem i) (b : ∀ j, (j = 13 ∨ j = 50 ∨ j = 64 ∨ j = 65 ∨ j = 66) → mem' 261 j = mem 261 j) (e : ∀ a, ((263 ≤ a ∧ a ≤ 282) ∨ (293 ≤ a ∧ a ≤ 304)) → mem' a = mem a) (go : GO rf mem' p pl ft' tb' N') : G rf mem' p pl sc ft' hs c f u tb' N' := by
  obtain ⟨hX, hP, hR, hH, hS, _⟩ := h
  have hp := hX.e
  refine ⟨⟨hX.1, hX.pc.fr (fun s h1 h2 => a _ (by omega)), hX.s.fr (fun i i1 i2 => a i (by omega))⟩, hP, ⟨hR.1, hR.2.1.fr (b 13 (by decide)) (b 50 (by decide)) (fun i i1 i2 => e i (by omega)), hR.2.2.fr (fun i i1 i2 => e i (by omega))⟩, ?_, ?_, go⟩
  · obtain ⟨h1, h2, h3, h4, h5, h6, h7⟩ := hH
    refine ⟨?_, h2, h3, h4, h5, fun k k1 k2 => (h6 k k1 k2).fr (fun i i1 i2 => a i (by omega)), fun k k1 k2 => (h7 k k1 k2).fr (fun i i1 i2 => e i (by omega))⟩
    rw [a 52 (by omega), b 65 (by decide), b 64 (by decide)]
    exact h1
  · unfold SD
    rw [a 0 (by omega), b 66 (by decide)]
    exact hS
theorem GO.parts {rf mem : zF} {p : Nat} {pl ft : zF} {tb : Nat → Int} {N : Int} (h : GO rf mem p pl ft tb N) : FE mem pl ft ∧ TP mem tb ∧ IM mem ∧ ST mem N ∧ FL mem ∧ NM mem pl ∧ PR rf mem p := h
section APAIR
variable {X : zX} {rf mem : zF} {p : Nat} {pl sc ft : zF} {hs : Int → zF} {c f u : Int} {tb : Nat → Int} {N : Int} {d : Nat}
theorem G.refuse (h : G rf mem p pl sc ft hs c f u tb N) {k : Int} (hk : 0 ≤ k ∧ k < 6) : G rf (zup (zup mem 245 k.toNat (mem 245 k.toNat + 1)) 292 k.toNat (mem 292 k.toNat + 1)) p pl sc ft hs c f u tb (N + 1) := by
  have r : ∀ i, i ≠ 245 → i ≠ 292 → (zup (zup mem 245 k.toNat (mem 245 k.toNat + 1)) 292 k.toNat (mem 292 k.toNat + 1)) i = mem i := fun i a b => by rw [zup_row _ _ _ b, zup_row _ _ _ a]
  have hp := h.1.e
  refine h.core (fun i hi => r i (by omega) (by omega)) (fun j _ => by rw [r 261 (by decide) (by decide)]) (fun a ha => r a (by omega) (by omega)) ?_
  obtain ⟨h1, h2, h3, h4, h5, h6, h7⟩ := h.2.2.2.2.2.parts
  refine ⟨⟨h1.1, ?_, ?_⟩, ?_, ?_, ?_, ?_, ?_, ?_⟩
  · unfold FEc
    rw [r 35 (by decide) (by decide), r 48 (by decide) (by decide)]
    exact h1.2.1
  · unfold FEr
    rw [r 261 (by decide) (by decide), r 308 (by decide) (by decide), r 309 (by decide) (by decide), r 310 (by decide) (by decide)]
    exact h1.2.2
  · unfold TP
    rw [r 1 (by decide) (by decide), r 2 (by decide) (by decide), r 261 (by decide) (by decide), r 262 (by decide) (by decide)]
    exact h2
  · unfold IM
    rw [r 234 (by decide) (by decide), r 235 (by decide) (by decide), r 244 (by decide) (by decide), r 261 (by decide) (by decide), r 314 (by decide) (by decide)]
    exact h3
  · intro j hj
    have h8 := h4 j hj
    rw [zup_row _ _ _ (show (245 : Nat) ≠ 292 by decide), zup_get, zup_get, zup_row _ _ _ (show (292 : Nat) ≠ 245 by decide)]
    by_cases e : j = k.toNat
    · rw [if_pos ⟨rfl, e⟩, if_pos ⟨rfl, e⟩, ← e]
      omega
    · rw [if_neg (fun q => e q.2), if_neg (fun q => e q.2)]
      omega
  · unfold FL
    rw [r 3 (by decide) (by decide), r 261 (by decide) (by decide)]
    exact h5
  · intro s1 k a b c
    rw [r 261 (by decide) (by decide), r (283 + s1) (by omega) (by omega)]
    exact h6 s1 k a b c
  · exact ⟨h7.1, fun j hj => by rw [r 5 (by decide) (by decide)]; exact h7.2 j hj⟩
theorem gi_refuse (h : G rf mem p pl sc ft hs c f u tb N) {k : Int} (hk : 0 ≤ k ∧ k < 6) : GI rf (zup (zup mem 245 k.toNat (mem 245 k.toNat + 1)) 292 k.toNat ((zup mem 245 k.toNat (mem 245 k.toNat + 1)) 292 k.toNat + 1)) (N + 1) := by
  rw [zup_row _ _ _ (show (292 : Nat) ≠ 245 by decide)]
  exact ⟨p, pl, sc, ft, hs, c, f, u, tb, h.refuse hk⟩
theorem G.gi (h : G rf mem p pl sc ft hs c f u tb N) : GI rf mem (N + 1) := ⟨p, pl, sc, ft, hs, c, f, u, tb, h.n (by omega)⟩
theorem CX.w245 (h : CX rf mem p pl sc) {j : Nat} {v : Int} : CX rf (zup mem 245 j v) p pl sc := by
  have hp := h.e
  exact ⟨h.1, h.pc.fr (fun s h1 h2 => zup_row _ _ _ (by omega)), h.s.fr (fun i i1 i2 => zup_row _ _ _ (by omega))⟩
theorem RX.w245 (h : RX rf mem pl sc) {j : Nat} {v : Int} : RX rf (zup mem 245 j v) pl sc := ⟨h.1, h.2.1.fr (by rw [zup_row _ _ _ (by decide)]) (by rw [zup_row _ _ _ (by decide)]) (fun a a1 a2 => zup_row _ _ _ (by omega)), h.2.2.fr (fun a a1 a2 => zup_row _ _ _ (by omega))⟩
theorem aS_rng {g : Int → Int} {m : Int} (hg : ∀ k, 0 ≤ g k ∧ g k ≤ m) : ∀ (n : Nat) (b : Int), 0 ≤ aS g b n ∧ aS g b n ≤ m * n
  | 0, b => by unfold aS; simp
  | n + 1, b => by
    have h1 := aS_rng hg n (b + 1)
    have h2 := hg b
    rw [aS_s]
    have e : m * ((n + 1 : Nat) : Int) = m * n + m := by
      rw [Int.natCast_add, Int.mul_add]
      simp
    rw [e]
    omega
theorem inI_ite {P : Prop} [Decidable P] {a b : Int} (ha : inI a) (hb : inI b) : inI (if P then a else b) := by
  split
  · exact ha
  · exact hb
/-- a question that leaves all as it is -/
theorem pair_0 {M1 M2 : Nat} {as1 as2 : List zV} {v : Int} (h : G rf mem p pl sc ft hs c f u tb N) (hv : inI v) (h1 : ∀ {Q : Int → zF → Prop}, Q v mem → Ci X d M1 as1 rf mem Q) (h2 : ∀ {Q : Int → zF → Prop}, Q v mem → Ci X d M2 as2 rf mem Q) : zPR X rf d mem M1 as1 M2 as2 (fun m2 => GI rf m2 (N + 1)) := h1 (h2 ⟨⟨hv, hv⟩, rfl, h.gi⟩)
theorem p_has (h : G rf mem p pl sc ft hs c f u tb N) (hd : 20 ≤ d) {x : Int} (hx : inI x) : zPR X rf d mem 153 [(2, 0), (0, x)] 273 [(2, 261), (0, x)] (fun m2 => GI rf m2 (N + 1)) := by
  obtain ⟨hX, hP, hR, hH, hS, hO⟩ := id h
  have hF := hO.parts.1
  refine pair_0 (v := aHas pl sc (ft 0 0) c (mem 0 9) x) h ?_ (fun kk => u_has hX hP (by omega) hx hF.2.1.1 hH.1.1 rfl kk) (fun kk => t_has hR hP (by omega) hx hF.2.2.1 hH.1.2.2.1 hS.1.symm kk)
  have hN := hP.1.n
  have hcr := hP.1.cr
  have hk := hP.2.2.1.k6
  have hsec := hP.2.2.1.sec
  have hc := hH.2.1
  have hf0 := hF.1.1
  have hs0 := hS.2
  have s1 := aS_rng (g := aFl sc) (m := 1) (fun k => by unfold aFl; split <;> omega) 6 0
  have s2 := aS_rng (g := aOw sc) (m := 1) (fun k => by unfold aOw; split <;> omega) (pl 1 2).toNat 0
  have s3 := aS_rng (g := aLo sc) (m := 1) (fun k => by unfold aLo; split <;> omega) (pl 1 2).toNat 0
  exact inI_ite (by omega) (inI_ite (by omega) (inI_ite (by omega) (inI_ite (by omega) (inI_ite (by omega) (inI_ite (by omega) (inI_ite (by omega) (inI_ite (by omega) (inI_ite (by omega) (inI_ite (by omega) (inI_ite (by omega) (inI_ite (by omega) (inI_ite (by omega) (by decide)))))))))))))
theorem zpart_I {c w : Int} (hc : -1 ≤ c ∧ c < 64) : inI (zpart c w) := by
  have := zpart_rng (w := w) hc
  omega
theorem p_lamp (h : G rf mem p pl sc ft hs c f u tb N) (hd : 20 ≤ d) {x : Int} (hx : inI x) : zPR X rf d mem 155 [(2, 0), (0, x)] 276 [(2, 261), (0, x)] (fun m2 => GI rf m2 (N + 1)) := by
  have hl := h.2.1.2.2.1.lamp
  unfold zic at hl
  exact pair_0 (v := zpart (sc 0 1) x) h (zpart_I (by omega)) (fun kk => u_lamp h.1 h.2.1 (by omega) hx kk) (fun kk => t_lamp h.2.2.1 h.2.1 (by omega) hx kk)
theorem p_door (h : G rf mem p pl sc ft hs c f u tb N) (hd : 20 ≤ d) {x y : Int} (hx : inI x) (hy : inI y) : zPR X rf d mem 156 [(2, 0), (0, x), (0, y)] 277 [(2, 261), (0, x), (0, y)] (fun m2 => GI rf m2 (N + 1)) := by
  refine pair_0 (v := aDoor pl sc x y) h ?_ (fun kk => u_door h.1 h.2.1 (by omega) hx hy kk) (fun kk => t_door h.2.2.1 h.2.1 (by omega) hx hy kk)
  have hN := h.2.1.1.n
  unfold aDoor
  split
  · next q =>
    have hdo := h.2.1.1.door q.1 q.2
    have h1 := hdo.1
    unfold zic at h1
    have h2 := zbit_01 h.2.1.2.2.1.opn (k := x) (by omega)
    exact inI_ite (by omega) (inI_ite (by omega) (inI_ite (by omega) (zpart_I (by omega))))
  · decide
theorem p_heir (h : G rf mem p pl sc ft hs c f u tb N) (hd : 20 ≤ d) {x y : Int} (hx : inI x) (hy : inI y) : zPR X rf d mem 157 [(2, 0), (0, x), (0, y)] 279 [(2, 261), (0, x), (0, y)] (fun m2 => GI rf m2 (N + 1)) := by
  refine pair_0 (v := aHeir pl sc x y) h ?_ (fun kk => u_heir h.1 h.2.1 (by omega) hx hy kk) (fun kk => t_heir h.2.2.1 h.2.1 (by omega) hx hy kk)
  have hN := h.2.1.1.n
  unfold aHeir
  split
  · next q =>
    have hdo := h.2.1.1.heir q.1 q.2
    have h1 := h.2.1.2.2.1.heirI (k := x) (by omega)
    have h2 := aOwned_rng sc x
    have h3 : 0 ≤ aS (aHR sc x) 0 6 ∧ aS (aHR sc x) 0 6 ≤ 999 * 6 := by
      have e : aS (aHR sc x) 0 6 = aS (fun k => if 0 ≤ k ∧ k < 6 then aHR sc x k else 0) 0 6 := aS_same 6 0 (fun k k1 k2 => by rw [if_pos (by omega)])
      rw [e]
      refine aS_rng (m := 999) (fun k => ?_) 6 0
      by_cases q2 : 0 ≤ k ∧ k < 6
      · rw [if_pos q2]
        have := (h.2.1.2.2.1.rent q2).1
        unfold aHR
        split <;> omega
      · rw [if_neg q2]; decide
    exact inI_ite (by omega) (inI_ite (by omega) (inI_ite (by omega) (zpart_I h1)))
  · decide
theorem p_bubble (h : G rf mem p pl sc ft hs c f u tb N) (hd : 20 ≤ d) {x y : Int} (hx : inI x) (hy : inI y) : zPR X rf d mem 158 [(2, 0), (0, x), (0, y)] 280 [(2, 261), (0, x), (0, y)] (fun m2 => GI rf m2 (N + 1)) := by
  refine pair_0 (v := aBub pl sc x y) h ?_ (fun kk => u_bubble h.1 h.2.1 (by omega) hx hy kk) (fun kk => t_bubble h.2.2.1 h.2.1 (by omega) hx hy kk)
  have hN := h.2.1.1.n
  unfold aBub
  split
  · next q =>
    have hW := h.2.1.2.2.1
    have h1 := hW.bubI (k := x) (by omega)
    have h2 := hW.film (k := x) (by omega)
    have h3 := hW.size (k := x) (by omega)
    have h4 := hW.deeds (k := x) (by omega)
    exact inI_ite (by omega) (inI_ite (by omega) (inI_ite (by omega) (zpart_I h1)))
  · decide
theorem p_deed (h : G rf mem p pl sc ft hs c f u tb N) (hd : 20 ≤ d) {x y : Int} (hx : inI x) (hy : inI y) : zPR X rf d mem 159 [(2, 0), (0, x), (0, y)] 281 [(2, 261), (0, x), (0, y)] (fun m2 => GI rf m2 (N + 1)) := by
  refine pair_0 (v := aDeed pl sc x y) h ?_ (fun kk => u_deed h.1 h.2.1 (by omega) hx hy kk) (fun kk => t_deed h.2.2.1 h.2.1 (by omega) hx hy kk)
  have hN := h.2.1.1.n
  unfold aDeed
  split
  · next q =>
    have hW := h.2.1.2.2.1
    have h1 := (hW.owner (k := x) (by omega)).1
    have h2 := (hW.rent (k := x) (by omega)).1
    have h3 := aFd_rng (P := fun b => decide (zbit (sc 5 b.toNat) x = 1)) 6 0
    exact inI_ite (by omega) (inI_ite (by unfold aBW; omega) (inI_ite (by omega) (by decide)))
  · decide
theorem p_kept (h : G rf mem p pl sc ft hs c f u tb N) (hd : 20 ≤ d) {x y : Int} (hx : inI x) (hy : inI y) : zPR X rf d mem 179 [(2, 0), (0, x), (0, y)] 306 [(2, 261), (0, x), (0, y)] (fun m2 => GI rf m2 (N + 1)) := by
  refine pair_0 (v := aKept sc x y) h ?_ (fun kk => u_kept h.1 h.2.1 hx hy kk) (fun kk => t_kept h.2.2.1 h.2.1 (by omega) hx hy kk)
  have hk := h.2.1.2.2.1.k6
  unfold aKept
  split
  · exact h.2.1.2.2.1.rows (by omega)
  · decide
theorem p_fault (h : G rf mem p pl sc ft hs c f u tb N) {x : Int} (hx : inI x) : zPR X rf d mem 152 [(2, 0), (0, x)] 239 [(2, 261), (0, x)] (fun m2 => GI rf m2 (N + 1)) := by
  have hF := h.2.2.2.2.2.parts.2.2.2.2.1
  refine pair_0 (v := if x = 0 then mem 3 3 else if x = 1 then mem 3 4 else -1) h (inI_ite hF.2.2.1 (inI_ite hF.2.2.2 (by decide))) (fun {Q} kk => ?_) (fun {Q} kk => ?_)
  · refine s_c_fault h.1.r h.1.p h.1.f ⟨hx, fun q => ?_, fun q => ?_, fun q => ?_⟩
    · rwa [if_pos q] at kk
    · rwa [if_neg (by omega), if_pos q] at kk
    · rwa [if_neg q.1, if_neg q.2] at kk
  · rw [hF.1, hF.2.1] at kk
    refine s_m_fault h.1.r ⟨hx, fun q => ⟨hx, fun q2 => ?_, fun q2 => ?_⟩, fun q => ?_⟩
    · rwa [if_neg q, if_neg q2] at kk
    · rwa [if_neg q, if_pos q2] at kk
    · rwa [if_pos q] at kk
theorem p_status (h : G rf mem p pl sc ft hs c f u tb N) (hd : 20 ≤ d) (hN : N ≤ 1000) {x : Int} (hx : inI x) : zPR X rf d mem 183 [(2, 0), (0, x)] 241 [(2, 261), (0, x)] (fun m2 => GI rf m2 (N + 1)) := by
  have hT := h.2.2.2.2.2.parts.2.2.2.1
  obtain ⟨d, rfl⟩ : ∃ e, d = e + 1 := ⟨d - 1, by omega⟩
  refine pair_0 (v := if 0 ≤ x ∧ x < 6 then mem 245 x.toNat else -1) h ?_ (fun {Q} kk => ?_) (fun {Q} kk => ?_)
  · split
    · next q =>
      have := hT x.toNat (by omega)
      omega
    · decide
  · refine s_c_status h.1.r h.1.p h.1.f ⟨hx, fun q => ?_, fun q => ⟨hx, fun q2 => ?_, fun q2 => ⟨by omega, ?_⟩⟩⟩
    · rwa [if_neg (by omega)] at kk
    · rwa [if_neg (by omega)] at kk
    · rwa [if_pos (by omega)] at kk
  · refine s_m_status h.1.r (t_is h.1.r hx (by decide) (by decide) ?_)
    by_cases q : 0 ≤ x ∧ x ≤ 5
    · rw [if_pos q]
      rw [if_pos (by omega), (hT x.toNat (by omega)).1] at kk
      exact ⟨by decide, fun q => absurd q (by decide), fun _ => ⟨by omega, kk⟩⟩
    · rw [if_neg q]
      rw [if_neg (by omega)] at kk
      exact ⟨by decide, fun _ => kk, fun q => absurd rfl q⟩
theorem p_octet (h : G rf mem p pl sc ft hs c f u tb N) (hd : 20 ≤ d) {x : Int} (hx : inI x) : zPR X rf d mem 181 [(2, 0), (0, x)] 309 [(2, 261), (0, x)] (fun m2 => GI rf m2 (N + 1)) := by
  have hI := h.2.2.2.2.2.parts.2.2.1
  have h71 := hI.2.1
  obtain ⟨d, rfl⟩ : ∃ e, d = e + 1 := ⟨d - 1, by omega⟩
  refine pair_0 (v := if 0 ≤ x ∧ x < mem 234 1 then mem 235 x.toNat else -1) h ?_ (fun {Q} kk => ?_) (fun {Q} kk => ?_)
  · split
    · next q => exact (hI.2.2.1 x.toNat (by omega)).2
    · decide
  · refine s_c_octet h.1.r h.1.p h.1.f ⟨hx, fun q => ?_, fun q => ⟨⟨hx, by omega⟩, fun q2 => ?_, fun q2 => ⟨by omega, ?_⟩⟩⟩
    · rwa [if_neg (by omega)] at kk
    · rwa [if_neg (by omega)] at kk
    · rwa [if_pos (by omega)] at kk
  · refine s_m_octet h.1.r ?_
    rw [← hI.1]
    refine t_is h.1.r hx (by decide) (by omega) ?_
    by_cases q : 0 ≤ x ∧ x ≤ mem 234 1 - 1
    · rw [if_pos q]
      rw [if_pos (by omega), (hI.2.2.1 x.toNat (by omega)).1] at kk
      exact ⟨by decide, fun q => absurd q (by decide), fun _ => ⟨by omega, kk⟩⟩
    · rw [if_neg q]
      rw [if_neg (by omega)] at kk
      exact ⟨by decide, fun _ => kk, fun q => absurd rfl q⟩
end APAIR
