/-! a STATEMENT: one judgement of both -/
theorem pB_inr {α β : Type} {s : Int} {a : α} {f : Int → α → zPS β} : pB (.inr (s, a)) f = f s a := rfl
theorem pB_inl {α β : Type} {e : Int × Int} {f : Int → α → zPS β} : pB (.inl e) f = .inl e := rfl
/-- a rule of the plan lies in the codes -/
def RuOK (pl : zF) (L : zC) (r : Nat) : Prop := (pl 11 r = -1 ∧ pl 12 r = -1) ∨ ∃ A C B : zC, L = A ++ C ++ B ∧ C ≠ [] ∧ pl 11 r = (A.length : Int) ∧ pl 12 r = (A.length : Int) + C.length ∧ tck (r : Int) C [] = some [decide (r = 1)]
def WX (pl : zF) (L : zC) : Prop := WQ pl ∧ ∀ r : Nat, r < 3 → RuOK pl L r
theorem RuOK.app {pl : zF} {L D : zC} {r : Nat} (h : RuOK pl L r) : RuOK pl (L ++ D) r := by
  rcases h with h | ⟨A, C, B, h1, h2⟩
  · exact Or.inl h
  · exact Or.inr ⟨A, C, B ++ D, by rw [h1, List.append_assoc], h2⟩
def SJ (p : Nat) (tb : Nat → Int) (n b : Int) (cr : zF → (Int → zF → Prop) → Prop) (rr : zF → (zF → Prop) → Prop) (pl : zF) (L : zC) (s : Int) : Prop :=
  (∃ k pc : Int, (1 ≤ k ∧ k ≤ 6) ∧ inI pc ∧ (∀ (m0 mem : zF) (Q : Int → zF → Prop), CS m0 mem p tb n s pl L → (∀ mem', CSF m0 mem' p k pc → Q 0 mem') → cr mem Q) ∧ ∀ (m0 mem : zF) (Q : zF → Prop), RSs m0 mem b tb n s pl L → (∀ mem', RSF m0 mem' b k pc → Q mem') → rr mem Q) ∨
  (∃ (s' : Int) (pl' : zF) (L' : zC), (s < s' ∧ s' ≤ n) ∧ WX pl' L' ∧ (L'.length : Int) ≤ s' ∧ pl' 0 0 = pl 0 0 ∧ (∀ (m0 mem : zF) (Q : Int → zF → Prop), CS m0 mem p tb n s pl L → (∀ mem', CS m0 mem' p tb n s' pl' L' → Q 1 mem') → cr mem Q) ∧ ∀ (m0 mem : zF) (Q : zF → Prop), RSs m0 mem b tb n s pl L → (∀ mem', RSs m0 mem' b tb n s' pl' L' → Q mem') → rr mem Q)
section PURE4
variable {tb : Nat → Int} {n : Int}
theorem pM_inr {pl : zF} {s s' v : Int} (hb : TBy tb n) (hs : 0 ≤ s) (h : pM tb n pl s = .inr (s', v)) : (0 ≤ v ∧ v < 1073741824) ∧ s' = tNxt tb n s ∧ s < n ∧ v = tCod tb n s - 1073741824 := by
  have hr := tCod_rng hb hs
  unfold pM at h
  split at h
  · next q =>
    split at h
    · cases h; exact ⟨by omega, rfl, by omega, rfl⟩
    · cases h
  · cases h
theorem pM_ok {pl : zF} {s : Int} (hb : TBy tb n) (hn : n ≤ 1600) (hs : 0 ≤ s ∧ s ≤ n) : pOK n s (pM tb n pl s) := by
  have hr := tCod_rng hb hs.1
  unfold pM
  split
  · split
    · have := tNxt_rng (tb := tb) (show s < n by omega)
      exact ⟨by omega, this.2⟩
    · exact ⟨by decide, tPlc_I hs hn⟩
  · exact ⟨by decide, tPlc_I hs hn⟩
theorem pC_inr {pl : zF} {s s' v : Int} (hC : pl 0 1 ≤ 7 ∧ pl 0 2 ≤ 7) (h : pC tb n pl s = .inr (s', v)) : zic (pl 0 1) (pl 0 2) v := by
  unfold pC at h
  cases e1 : pN tb n 0 (pl 0 1 - 1) s with
  | inl e => rw [e1] at h; cases h
  | inr y =>
    obtain ⟨s1, x⟩ := y
    rw [e1, pB_inr] at h
    cases e2 : pN tb n 0 (pl 0 2 - 1) s1 with
    | inl e => rw [e2] at h; cases h
    | inr z =>
      obtain ⟨s2, y⟩ := z
      rw [e2, pB_inr] at h
      cases h
      have r1 := pN_inr e1
      have r2 := pN_inr e2
      unfold zic
      omega
theorem pC_ok {pl : zF} {s : Int} (hb : TBy tb n) (hn : n ≤ 1600) (hs : 0 ≤ s ∧ s ≤ n) : pOK n s (pC tb n pl s) := by
  unfold pC
  refine pB_ok (pN_ok hb hn hs) (fun s1 x e1 h1 h2 => ?_)
  cases e2 : pN tb n 0 (pl 0 2 - 1) s1 with
  | inl e => have := pN_ok (tb := tb) (lo := 0) (hi := pl 0 2 - 1) hb hn (s := s1) (by omega); rw [e2] at this; exact this
  | inr z => have := pN_ok (tb := tb) (lo := 0) (hi := pl 0 2 - 1) hb hn (s := s1) (by omega); rw [e2] at this; exact this
theorem pF_inr {pl : zF} {so s s' v : Int} (hC : pl 0 1 ≤ 7 ∧ pl 0 2 ≤ 7) (h : pF tb n pl so s = .inr (s', v)) : zic (pl 0 1) (pl 0 2) v ∧ ztk pl so v = -1 := by
  unfold pF at h
  cases e1 : pN tb n 0 (pl 0 1 - 1) s with
  | inl e => rw [e1] at h; cases h
  | inr y =>
    obtain ⟨s1, x⟩ := y
    rw [e1, pB_inr] at h
    cases e2 : pN tb n 0 (pl 0 2 - 1) s1 with
    | inl e => rw [e2] at h; cases h
    | inr z =>
      obtain ⟨s2, y⟩ := z
      rw [e2, pB_inr] at h
      have r1 := pN_inr e1
      have r2 := pN_inr e2
      split at h
      · next q =>
        cases h
        refine ⟨?_, q⟩
        unfold zic
        omega
      · cases h
theorem pF_ok {pl : zF} {so s : Int} (hb : TBy tb n) (hn : n ≤ 1600) (hs : 0 ≤ s ∧ s ≤ n) : pOK n s (pF tb n pl so s) := by
  unfold pF
  refine pB_ok (pN_ok hb hn hs) (fun s1 x e1 h1 h2 => ?_)
  have h5 := pN_ok (tb := tb) (lo := 0) (hi := pl 0 2 - 1) hb hn (s := s1) (by omega)
  cases e2 : pN tb n 0 (pl 0 2 - 1) s1 with
  | inl e => rw [e2] at h5; exact h5
  | inr z =>
    rw [e2] at h5
    obtain ⟨s2, y⟩ := z
    show pOK n s1 (if ztk pl so (8 * y + x) = -1 then _ else _)
    split
    · exact h5
    · exact ⟨by decide, tPlc_I (by omega) hn⟩
end PURE4
section SSTEP
variable {X : zX} {rf m0 mem : zF} {D : Nat} {tb : Nat → Int} {n b s : Int} {pl : zF} {L : zC}
theorem t_counts {Q : Int → zF → Prop} (hR : zall rf zRK = true) (hD : 2 ≤ D) (hb : TBy tb n) (hn : 0 ≤ n ∧ n ≤ 1600) (hs : 0 ≤ s ∧ s ≤ n) (h : RTK mem tb n s) {x : Int} (hx : x = 0 ∨ x = 1) (kk : x = 0 → ∀ mem', zFA mem mem' → RTK mem' tb n (tNxt tb n s) → Q 1 mem') (kf : x = 1 → Q 0 (zflt mem 6 s)) : Ci X D 221 [(2, 261), (0, x)] rf mem Q := by
  obtain ⟨d, rfl⟩ : ∃ d, D = d + 1 := ⟨D - 1, by omega⟩
  have hf := h.1.f hs
  have h8 := h.2.2.2
  refine s_m_counts hR ?_
  rw [h8]
  refine ⟨by decide, fun q => absurd rfl q, fun _ => ⟨by omega, fun q => ⟨by decide, fun q => absurd rfl q, fun _ => t_ahd hR (by omega) hb hn hs h (fun m2 f2 h2 => s_m_counts_32 hR ?_)⟩, fun q => t_blame hR h8 ?_⟩⟩
  · rw [h2.2.2.2]
    exact ⟨by decide, fun c => absurd rfl c, fun _ => kk q m2 f2 h2⟩
  · rw [hf.1, zflt_8]
    refine ⟨by decide, fun _ => s_m_counts_32 hR ?_, fun c => absurd c (by decide)⟩
    rw [zflt_8]
    exact ⟨by decide, fun _ => kf (by omega), fun c => absurd c (by decide)⟩
/-- a row of one more that isn't counted yet -/
theorem RSs.upx (h : RSs m0 mem b tb n s pl L) {a so : Nat} {v : Int} (ha : (so = 0 ∧ (a = 283 ∨ a = 267 ∨ a = 268 ∨ a = 269)) ∨ (so = 1 ∧ (a = 284 ∨ a = 272 ∨ a = 273)) ∨ (so = 2 ∧ (a = 285 ∨ a = 275 ∨ a = 276 ∨ a = 277))) (hc : 0 ≤ pl 1 so ∧ pl 1 so < 6) : RSs m0 (zup mem a (6 * b + pl 1 so).toNat v) b tb n s pl L := by
  obtain ⟨a1, a2, a3, a4, a5⟩ := h
  have hw : wd a = 6 := by
    unfold wd
    rw [if_neg (by omega), if_neg (by omega), if_neg (by omega)]
  have r1 : ∀ i, i ≠ a → (zup mem a (6 * b + pl 1 so).toNat v) i = mem i := fun i x => zup_row _ _ _ x
  have r2 : ∀ (i : Nat) (k : Int), 0 ≤ k → (i ≠ a ∨ k < pl 1 so) → (zup mem a (6 * b + pl 1 so).toNat v) i (6 * b + k).toNat = mem i (6 * b + k).toNat := fun i k h0 hk => by rw [zup_get, if_neg (by omega)]
  refine ⟨a1.fr (fun j hj => by rw [r1 261 (by omega)]) (r1 262 (by omega)), a2.up (by omega) (by rw [hw]; omega), by rw [r1 261 (by omega)]; exact a3, ?_, ?_⟩
  · unfold RCo
    rw [r1 261 (by omega), r1 281 (by omega), r1 282 (by omega)]
    exact a4
  · obtain ⟨q1, q2, q3, q4, q5, q6, q7, q8⟩ := a5
    refine ⟨by rw [r1 263 (by omega), r1 264 (by omega)]; exact q1, by rw [r1 265 (by omega), r1 278 (by omega), r1 270 (by omega)]; exact q2, by rw [r1 266 (by omega), r1 271 (by omega), r1 274 (by omega)]; exact q3, fun k k0 k1 => ?_, fun k k0 k1 => ?_, fun k k0 k1 => ?_, fun so2 k hs2 k0 k1 => ?_, by rw [r1 279 (by omega), r1 280 (by omega)]; exact q8⟩
    · have e : ∀ i, i = 267 ∨ i = 268 ∨ i = 269 → (i ≠ a ∨ k < pl 1 so) := by
        intro i hi
        by_cases x : i = a
        · have : so = 0 := by omega
          subst this
          exact Or.inr k1
        · exact Or.inl x
      rw [r2 267 k k0 (e 267 (by decide)), r2 268 k k0 (e 268 (by decide)), r2 269 k k0 (e 269 (by decide))]
      exact q4 k k0 k1
    · have e : ∀ i, i = 272 ∨ i = 273 → (i ≠ a ∨ k < pl 1 so) := by
        intro i hi
        by_cases x : i = a
        · have : so = 1 := by omega
          subst this
          exact Or.inr k1
        · exact Or.inl x
      rw [r2 272 k k0 (e 272 (by decide)), r2 273 k k0 (e 273 (by decide))]
      exact q5 k k0 k1
    · have e : ∀ i, i = 275 ∨ i = 276 ∨ i = 277 → (i ≠ a ∨ k < pl 1 so) := by
        intro i hi
        by_cases x : i = a
        · have : so = 2 := by omega
          subst this
          exact Or.inr k1
        · exact Or.inl x
      rw [r2 275 k k0 (e 275 (by decide)), r2 276 k k0 (e 276 (by decide)), r2 277 k k0 (e 277 (by decide))]
      exact q6 k k0 k1
    · have e : (283 + so2 ≠ a ∨ k < pl 1 so) := by
        by_cases x : 283 + so2 = a
        · have : so = so2 := by omega
          subst this
          exact Or.inr k1
        · exact Or.inl x
      rw [r2 (283 + so2) k k0 e]
      exact q7 so2 k hs2 k0 k1
theorem wd6 {a : Nat} (h : (267 ≤ a ∧ a ≤ 269) ∨ (272 ≤ a ∧ a ≤ 273) ∨ (275 ≤ a ∧ a ≤ 277) ∨ (283 ≤ a ∧ a ≤ 285)) : wd a = 6 := by
  unfold wd
  rw [if_neg (by omega), if_neg (by omega), if_neg (by omega)]
theorem wd1 {a : Nat} (h : a = 263 ∨ a = 264 ∨ a = 265 ∨ a = 266 ∨ a = 270 ∨ a = 271 ∨ a = 274 ∨ a = 278) : wd a = 1 := by
  unfold wd
  rw [if_neg (by omega), if_neg (by omega), if_pos h]
theorem wd3 {a : Nat} (h : a = 279 ∨ a = 280) : wd a = 3 := by
  unfold wd
  rw [if_neg (by omega), if_pos h]
/-- in a fault the reference still writes its bank -/
theorem RSF.up6 {k pc v x : Int} {a : Nat} (h : RSF m0 mem b k pc) (ha : (267 ≤ a ∧ a ≤ 269) ∨ (272 ≤ a ∧ a ≤ 273) ∨ (275 ≤ a ∧ a ≤ 277) ∨ (283 ≤ a ∧ a ≤ 285)) (hx : 0 ≤ x ∧ x < 6) : RSF m0 (zup mem a (6 * b + x).toNat v) b k pc := by
  have hb := h.2.2.2.2.2
  exact h.up (by omega) (by rw [wd6 ha]; omega)
end SSTEP
