/-! the reference at a token -/
theorem tCod_bp {tb : Nat → Int} {n s : Int} (hb : TBy tb n) (hs : 0 ≤ s) : tCod tb n s = -1 ↔ tBp tb n s ≠ -1 := by
  by_cases h : s < n
  · by_cases hl : zisL (tb s.toNat) = true
    · have h3 := tCod_L h hl
      by_cases q : tBp tb n s ≠ -1
      · exact ⟨fun _ => q, fun _ => by rw [h3.2.2, if_pos q]⟩
      · refine ⟨fun e => ?_, fun e => absurd e q⟩
        rw [h3.2.2, if_neg q] at e
        rw [h3.1] at q
        have hz := tZ (tBad_no hs (by decide) q).1
        have := tWc_rng hz
        omega
    · have hl2 : zisL (tb s.toNat) = false := Bool.eq_false_iff.mpr hl
      by_cases hd : zisD (tb s.toNat) = true
      · have h3 := tCod_D h hl2 hd
        by_cases q : tBp tb n s ≠ -1
        · exact ⟨fun _ => q, fun _ => by rw [h3.2.2, if_pos q]⟩
        · refine ⟨fun e => ?_, fun e => absurd e q⟩
          rw [h3.2.2, if_neg q] at e
          rw [h3.1] at q
          have hz := tN (tBad_no hs (by decide) q).1
          omega
      · have h3 := tCod_S h hl2 (Bool.eq_false_iff.mpr hd)
        have := hb s hs h
        rw [h3.2.2, h3.1]
        omega
  · rw [tCod_E (by omega)]
    have e : tBp tb n s = -1 := by unfold tBp; rw [if_pos (by omega)]
    rw [e]
    omega
theorem tPlc_b {tb : Nat → Int} {n s : Int} (h : tCod tb n s = -1) : tPlc tb n s = tBp tb n s := by unfold tPlc; rw [if_pos h]
theorem tPlc_s {tb : Nat → Int} {n s : Int} (h : tCod tb n s ≠ -1) : tPlc tb n s = s := by unfold tPlc; rw [if_neg h]
theorem tPlc_I {tb : Nat → Int} {n s : Int} (hs : 0 ≤ s ∧ s ≤ n) (hn : n ≤ 1600) : inI (tPlc tb n s) := by
  have := tBp_rng (tb := tb) hs.1 hn
  unfold tPlc
  split <;> omega
theorem TKR.f {mem : zF} {tb : Nat → Int} {n s : Int} (h : TKR mem tb n s) (hs : 0 ≤ s ∧ s ≤ n) : mem 261 4 = s ∧ mem 261 5 = tEnd tb n s ∧ mem 261 12 = tBp tb n s ∧ (0 ≤ mem 261 3 ∧ mem 261 3 ≤ 3) ∧ (mem 261 3 = 3 → tBp tb n s = -1) ∧ (mem 261 3 = 0 ↔ n ≤ s) := by
  obtain ⟨h4, h | h | h | h⟩ := h
  · refine ⟨h4, ?_, ?_, by omega, by omega, by omega⟩
    · unfold tEnd; rw [if_pos (by omega)]; exact h.2.2.1
    · unfold tBp; rw [if_pos (by omega)]; exact h.2.2.2
  · have h3 := tCod_L h.1 h.2.1
    exact ⟨h4, by rw [h3.2.1]; exact h.2.2.2.1, by rw [h3.1]; exact h.2.2.2.2.2.2, by omega, by omega, by omega⟩
  · have h3 := tCod_D h.1 h.2.1 h.2.2.1
    exact ⟨h4, by rw [h3.2.1]; exact h.2.2.2.2.1, by rw [h3.1]; exact h.2.2.2.2.2.2.2, by omega, by omega, by omega⟩
  · have h3 := tCod_S h.1 h.2.1 h.2.2.1
    exact ⟨h4, by rw [h3.2.1]; exact h.2.2.2.2.1, by rw [h3.1]; exact h.2.2.2.2.2.2.2, by omega, fun _ => h3.1, by omega⟩
/-- what the reference holds of a token that may stand somewhere -/
theorem TKR.cl {mem : zF} {tb : Nat → Int} {n s : Int} (h : TKR mem tb n s) (hb : TBy tb n) (hs : 0 ≤ s ∧ s ≤ n) (hc : tCod tb n s ≠ -1) :
    (tCod tb n s = -2 ∧ mem 261 3 = 0) ∨ (s < n ∧ (0 ≤ tCod tb n s ∧ tCod tb n s < 10000) ∧ mem 261 3 = 2 ∧ mem 261 6 = tCod tb n s) ∨
    (s < n ∧ (10000 ≤ tCod tb n s ∧ tCod tb n s ≤ 10255) ∧ mem 261 3 = 3 ∧ mem 261 6 = tCod tb n s - 10000) ∨
    (s < n ∧ mem 261 3 = 1 ∧ mem 261 6 = 0 ∧ ∃ ls : List Int, (1 ≤ ls.length ∧ ls.length ≤ 6) ∧ (∀ x ∈ ls, 1 ≤ x ∧ x ≤ 26) ∧ tCod tb n s = tWc (zn5 ls) ∧ mem 261 7 = zn8 0 ls) := by
  have hbp : ¬ tBp tb n s ≠ -1 := fun q => hc ((tCod_bp hb hs.1).mpr q)
  obtain ⟨h4, h | h | h | h⟩ := h
  · exact Or.inl ⟨tCod_E (by omega), h.2.1⟩
  · refine Or.inr (Or.inr (Or.inr ⟨h.1, h.2.2.1, h.2.2.2.2.1, ?_⟩))
    have h3 := tCod_L h.1 h.2.1
    have e := h3.2.2
    rw [if_neg hbp] at e
    rw [h3.1] at hbp
    have hl := tBad_no hs.1 (by decide) hbp
    have inr := trun_in (P := zisL) (tb := tb) (n - s).toNat s
    have rg := trun_rng (P := zisL) (tb := tb) (n - s).toNat s
    have ps := trun_pos (P := zisL) (tb := tb) h.1 h.2.1
    have h7 := h.2.2.2.2.2.1
    refine ⟨tL tb (trun zisL tb (n - s).toNat s - s).toNat s, ?_, ?_, e, ?_⟩
    · rw [tL_len]; omega
    · exact tL_in _ s (fun i a b => inr i a (by omega))
    · rw [tL_w, h7, Nat.min_eq_right (by omega)]
  · have h3 := tCod_D h.1 h.2.1 h.2.2.1
    have e := h3.2.2
    rw [if_neg hbp] at e
    rw [h3.1] at hbp
    have hl := tBad_no hs.1 (by decide) hbp
    have rg := trun_rng (P := zisD) (tb := tb) (n - s).toNat s
    have hz := tN hl.1
    refine Or.inr (Or.inl ⟨h.1, by rw [e]; exact hz, h.2.2.2.1, ?_⟩)
    rw [e, h.2.2.2.2.2.2.1, Nat.min_eq_right (by omega)]
  · have h3 := tCod_S h.1 h.2.1 h.2.2.1
    have := hb s hs.1 h.1
    refine Or.inr (Or.inr (Or.inl ⟨h.1, by rw [h3.2.2]; omega, h.2.2.2.1, ?_⟩))
    rw [h3.2.2, h.2.2.2.2.2.1]
    omega
theorem tWc_iff {ls : List Int} (hl : 1 ≤ ls.length ∧ ls.length ≤ 6) (hx : ∀ x ∈ ls, 1 ≤ x ∧ x ≤ 26) {k : Nat} (hk : k < 27) : tWc (zn5 ls) = 20000 + (k : Int) ↔ zn8 0 ls = zo8.getD k 0 := by
  have hz := zn5_rng ls hx
  rw [tWc_own hz.1 hk]
  have n1 : NR (zn5 ls) (zn8 0 ls) := ⟨ls, hl.1, hl.2, hx, rfl, rfl⟩
  have := NR.iff (zlw_nr hk) n1
  constructor
  · intro e; exact (this.mp e).symm
  · intro e; exact this.mpr e.symm
theorem zn8_L : ∀ (ls : List Int) (a c : Int), (∀ x ∈ ls, 1 ≤ x ∧ x ≤ 26) → 0 ≤ a → a ≤ c → (c + 1) * 256 ^ ls.length ≤ 281474976710656 → zn8 a ls < 281474976710656
  | [], a, c, _, h0, h1, h2 => by
    have h2 : (c + 1) * 1 ≤ 281474976710656 := h2
    show a < _
    omega
  | x :: ls, a, c, hx, h0, h1, h2 => by
    have hb := hx x (List.mem_cons_self ..)
    refine zn8_L ls (256 * a + 96 + x) (256 * c + 255) (fun y hy => hx y (List.mem_cons_of_mem _ hy)) (by omega) (by omega) ?_
    have h2 : (c + 1) * 256 ^ (ls.length + 1) ≤ 281474976710656 := h2
    rw [Int.pow_succ] at h2
    have e : (256 * c + 255 + 1) * (256 : Int) ^ ls.length = (c + 1) * (256 ^ ls.length * 256) := by
      have : 256 * c + 255 + 1 = (c + 1) * 256 := by omega
      rw [this, Int.mul_assoc, Int.mul_comm 256]
    rw [e]
    exact h2
theorem zn8_in {ls : List Int} (hl : ls.length ≤ 6) (hx : ∀ x ∈ ls, 1 ≤ x ∧ x ≤ 26) : inL (zn8 0 ls) := by
  have h0 := zn8_pos ls 0 (by decide) hx
  have h1 := zn8_L ls 0 0 hx (by decide) (by decide) (by
    have : ls.length = 0 ∨ ls.length = 1 ∨ ls.length = 2 ∨ ls.length = 3 ∨ ls.length = 4 ∨ ls.length = 5 ∨ ls.length = 6 := by omega
    rcases this with x | x | x | x | x | x | x <;> rw [x] <;> decide)
  omega
theorem zo8_in : ∀ k : Fin 27, inL (zo8.getD k.val 0) := by decide +kernel
/-- the reference stands at the token that begins at s, without a fault -/
def RTK (mem : zF) (tb : Nat → Int) (n s : Int) : Prop := TKR mem tb n s ∧ mem 261 2 = n ∧ ((∀ j : Nat, (j : Int) < n → mem 262 j = tb j) ∧ mem 261 9 = -1) ∧ mem 261 8 = 0
def zflt (mem : zF) (k pc : Int) : zF := zup (zup mem 261 8 k) 261 9 pc
theorem RTK.fr {mem mem' : zF} {tb : Nat → Int} {n s : Int} (h : RTK mem tb n s) (e : ∀ j, j = 2 ∨ j = 3 ∨ j = 4 ∨ j = 5 ∨ j = 6 ∨ j = 7 ∨ j = 8 ∨ j = 9 ∨ j = 12 → mem' 261 j = mem 261 j) (e2 : mem' 262 = mem 262) : RTK mem' tb n s := by
  obtain ⟨h1, h2, h3, h4⟩ := h
  refine ⟨?_, (e 2 (by decide)).trans h2, ⟨fun j hj => by rw [e2]; exact h3.1 j hj, (e 9 (by decide)).trans h3.2⟩, (e 8 (by decide)).trans h4⟩
  unfold TKR
  rw [e 3 (by decide), e 4 (by decide), e 5 (by decide), e 6 (by decide), e 7 (by decide), e 12 (by decide)]
  exact h1
section RTOK
variable {X : zX} {rf mem : zF} {D : Nat} {tb : Nat → Int} {n s : Int}
theorem t_blame {Q : zF → Prop} (hR : zall rf zRK = true) (h8 : mem 261 8 = 0) {k pc : Int} (kk : Q (zflt mem k pc)) : Cv X D 198 [(2, 261), (0, k), (0, pc)] rf mem Q := by
  refine s_m_blame hR ?_
  rw [h8]
  exact ⟨by decide, fun _ => kk, fun q => absurd (by decide) q⟩
theorem t_blameF {Q : zF → Prop} (hR : zall rf zRK = true) {f : Int} (h8 : mem 261 8 = f) (hf : 1 ≤ f ∧ f ≤ 6) {k pc : Int} (kk : Q mem) : Cv X D 198 [(2, 261), (0, k), (0, pc)] rf mem Q := by
  refine s_m_blame hR ?_
  rw [h8]
  exact ⟨by omega, fun q => absurd q (by omega), fun _ => kk⟩
theorem t_lex {Q : zF → Prop} (hR : zall rf zRK = true) (hD : 1 ≤ D) (hb : TBy tb n) (hn : n ≤ 1600) (hs : 0 ≤ s ∧ s ≤ n) (h : RTK mem tb n s) (k0 : tCod tb n s ≠ -1 → Q mem) (k1 : tCod tb n s = -1 → Q (zflt mem 1 (tPlc tb n s))) : Cv X D 201 [(2, 261)] rf mem Q := by
  obtain ⟨d, rfl⟩ : ∃ d, D = d + 1 := ⟨D - 1, by omega⟩
  have hf := h.1.f hs
  have hr := tBp_rng (tb := tb) hs.1 hn
  refine s_m_lex hR ?_
  rw [hf.2.2.1]
  refine ⟨by omega, fun q => k0 (fun e => (tCod_bp hb hs.1).mp e q), fun q => ?_⟩
  have e := (tCod_bp hb hs.1).mpr q
  refine t_blame hR h.2.2.2 ?_
  have := k1 e
  rw [tPlc_b e] at this
  exact this
theorem t_lexF {Q : zF → Prop} (hR : zall rf zRK = true) (hD : 1 ≤ D) {f : Int} (h8 : mem 261 8 = f) (hf : 1 ≤ f ∧ f ≤ 6) (h12 : inI (mem 261 12)) (kk : Q mem) : Cv X D 201 [(2, 261)] rf mem Q := by
  obtain ⟨d, rfl⟩ : ∃ d, D = d + 1 := ⟨D - 1, by omega⟩
  exact s_m_lex hR ⟨h12, fun _ => kk, fun _ => t_blameF hR h8 hf kk⟩
theorem t_isSignT {Q : Int → zF → Prop} (hR : zall rf zRK = true) (hb : TBy tb n) (hs : 0 ≤ s ∧ s ≤ n) (h : TKR mem tb n s) (hc : tCod tb n s ≠ -1) {c : Int} (hcc : 0 ≤ c ∧ c ≤ 255) (k1 : tCod tb n s = 10000 + c → Q 1 mem) (k0 : tCod tb n s ≠ 10000 + c → Q 0 mem) : Ci X D 203 [(2, 261), (0, c)] rf mem Q := by
  refine s_m_isSign hR ?_
  rcases h.cl hb hs hc with ⟨e, e3⟩ | ⟨_, e, e3, e6⟩ | ⟨_, e, e3, e6⟩ | ⟨_, e3, e6, ls, hl, hx, e, e7⟩
  · rw [e3]
    exact ⟨by decide, fun _ => k0 (by omega), fun q => absurd q (by decide)⟩
  · rw [e3]
    exact ⟨by decide, fun _ => k0 (by omega), fun q => absurd q (by decide)⟩
  · rw [e3, e6]
    exact ⟨by decide, fun q => absurd rfl q, fun _ => ⟨by omega, fun q => k0 (by omega), fun q => k1 (by omega)⟩⟩
  · have hz := tWc_rng (v := zn5 ls) (by
      have := zn5_rng ls hx
      have hp : (32 : Int) ^ ls.length ≤ 1073741824 := by
        have : ls.length = 0 ∨ ls.length = 1 ∨ ls.length = 2 ∨ ls.length = 3 ∨ ls.length = 4 ∨ ls.length = 5 ∨ ls.length = 6 := by omega
        rcases this with x | x | x | x | x | x | x <;> rw [x] <;> decide
      omega)
    have hz5 := zn5_rng ls hx
    rw [e3]
    exact ⟨by decide, fun _ => k0 (by omega), fun q => absurd q (by decide)⟩
theorem t_isSign {Q : Int → zF → Prop} (hR : zall rf zRK = true) (hb : TBy tb n) (hs : 0 ≤ s ∧ s ≤ n) (h : RTK mem tb n s) (hc : tCod tb n s ≠ -1) {c : Int} (hcc : 0 ≤ c ∧ c ≤ 255) (k1 : tCod tb n s = 10000 + c → Q 1 mem) (k0 : tCod tb n s ≠ 10000 + c → Q 0 mem) : Ci X D 203 [(2, 261), (0, c)] rf mem Q := t_isSignT hR hb hs h.1 hc hcc k1 k0
theorem t_isWord {Q : Int → zF → Prop} (k : Nat) {w : Int} (hR : zall rf zRK = true) (hb : TBy tb n) (hs : 0 ≤ s ∧ s ≤ n) (h : RTK mem tb n s) (hc : tCod tb n s ≠ -1) (hk : k < 27) (hw : zo8.getD k 0 = w) (k1 : tCod tb n s = 20000 + (k : Int) → Q 1 mem) (k0 : tCod tb n s ≠ 20000 + (k : Int) → Q 0 mem) : Ci X D 204 [(2, 261), (1, w)] rf mem Q := by
  refine s_m_isWord hR ?_
  have hL := zo8_in ⟨k, hk⟩
  simp only at hL
  rw [hw] at hL
  rcases h.1.cl hb hs hc with ⟨e, e3⟩ | ⟨_, e, e3, e6⟩ | ⟨_, e, e3, e6⟩ | ⟨_, e3, e6, ls, hl, hx, e, e7⟩
  · rw [e3]
    exact ⟨by decide, fun _ => k0 (by omega), fun q => absurd q (by decide)⟩
  · rw [e3]
    exact ⟨by decide, fun _ => k0 (by omega), fun q => absurd q (by decide)⟩
  · rw [e3]
    exact ⟨by decide, fun _ => k0 (by omega), fun q => absurd q (by decide)⟩
  · rw [e3, e7]
    have hi := tWc_iff hl hx hk
    rw [hw] at hi
    refine ⟨by decide, fun q => absurd rfl q, fun _ => ⟨⟨zn8_in hl.2 hx, hL⟩, zcmpi _ _, fun q => k0 ?_, fun q => k1 ?_⟩⟩
    · rw [zcmp0] at q
      rw [e]
      exact fun c => q (hi.mp c)
    · rw [zcmp0] at q
      rw [e]
      exact hi.mpr q
/-- on to the next token -/
theorem t_ahd {Q : zF → Prop} (hR : zall rf zRK = true) (hD : 1 ≤ D) (hb : TBy tb n) (hn : 0 ≤ n ∧ n ≤ 1600) (hs : 0 ≤ s ∧ s ≤ n) (h : RTK mem tb n s) (kk : ∀ mem', zFA mem mem' → RTK mem' tb n (tNxt tb n s) → Q mem') : Cv X D 202 [(2, 261)] rf mem Q := by
  have hf := h.1.f hs
  have he : 0 ≤ tEnd tb n s ∧ tEnd tb n s ≤ n := by
    by_cases q : s < n
    · have := tEnd_rng (tb := tb) q; omega
    · unfold tEnd; rw [if_pos (by omega)]; exact hs
  refine t_ahead hR hD hn h.2.1 (fun j hj => ⟨h.2.2.1.1 j hj, ?_⟩) (by rw [hf.2.1]; exact he) (fun mem' f hT => kk mem' f ⟨?_, ?_, ⟨?_, ?_⟩, ?_⟩)
  · have := hb (j : Int) (by omega) hj
    rw [Int.toNat_natCast] at this
    exact this
  · rw [hf.2.1] at hT
    exact hT
  · rw [f.2 2 (by decide) (by decide) (by decide) (by decide) (by decide) (by decide)]; exact h.2.1
  · intro j hj
    rw [f.1 262 (by decide)]
    exact h.2.2.1.1 j hj
  · rw [f.2 9 (by decide) (by decide) (by decide) (by decide) (by decide) (by decide)]; exact h.2.2.1.2
  · rw [f.2 8 (by decide) (by decide) (by decide) (by decide) (by decide) (by decide)]; exact h.2.2.2
/-- a sign must stand here -/
theorem t_must {Q : zF → Prop} (hR : zall rf zRK = true) (hD : 2 ≤ D) (hb : TBy tb n) (hn : 0 ≤ n ∧ n ≤ 1600) (hs : 0 ≤ s ∧ s ≤ n) (h : RTK mem tb n s) {c : Int} (hcc : 0 ≤ c ∧ c ≤ 255) (kk : tCod tb n s = 10000 + c → ∀ mem', zFA mem mem' → RTK mem' tb n (tNxt tb n s) → Q mem') (kf : tCod tb n s ≠ 10000 + c → Q (zflt mem 1 (tPlc tb n s))) : Cv X D 205 [(2, 261), (0, c)] rf mem Q := by
  obtain ⟨d, rfl⟩ : ∃ d, D = d + 1 := ⟨D - 1, by omega⟩
  have hf := h.1.f hs
  refine s_m_must hR (t_lex hR (by omega) hb hn.2 hs h (fun hc => ?_) (fun hc => ?_))
  · refine t_isSign hR hb hs h hc hcc (fun e => ⟨by decide, fun _ => ?_, fun q => absurd q (by decide)⟩) (fun e => ⟨by decide, fun q => absurd rfl q, fun _ => ?_⟩)
    · rw [h.2.2.2]
      exact ⟨by decide, fun q => absurd rfl q, fun _ => t_ahd hR (by omega) hb hn hs h (kk e)⟩
    · refine t_blame hR h.2.2.2 ?_
      rw [hf.1]
      have := kf e
      rw [tPlc_s hc] at this
      have e8 : zflt mem 1 s 261 8 = 1 := by unfold zflt; rw [zup_ne _ _ _ _ (by decide), zup_at]
      rw [e8]
      exact ⟨by decide, fun _ => this, fun q => absurd q (by decide)⟩
  · have := kf (by omega)
    generalize hm1 : zflt mem 1 (tPlc tb n s) = m1 at this ⊢
    have g3 : m1 261 3 = mem 261 3 := by rw [← hm1]; unfold zflt; rw [zup_ne _ _ _ _ (by decide), zup_ne _ _ _ _ (by decide)]
    have e8 : m1 261 8 = 1 := by rw [← hm1]; unfold zflt; rw [zup_ne _ _ _ _ (by decide), zup_at]
    have n3 : mem 261 3 ≠ 3 := fun q => (tCod_bp hb hs.1).mp hc (hf.2.2.2.2.1 q)
    refine s_m_isSign hR ?_
    rw [g3]
    refine ⟨by omega, fun _ => ⟨by decide, fun q => absurd rfl q, fun _ => ?_⟩, fun q => absurd q n3⟩
    refine t_blameF hR e8 (by decide) ?_
    rw [e8]
    exact ⟨by decide, fun _ => this, fun q => absurd q (by decide)⟩
/-- a word must stand here -/
theorem t_mustw {Q : zF → Prop} (k : Nat) {w : Int} (hR : zall rf zRK = true) (hD : 2 ≤ D) (hb : TBy tb n) (hn : 0 ≤ n ∧ n ≤ 1600) (hs : 0 ≤ s ∧ s ≤ n) (h : RTK mem tb n s) (hk : k < 27) (hw : zo8.getD k 0 = w) (kk : tCod tb n s = 20000 + (k : Int) → ∀ mem', zFA mem mem' → RTK mem' tb n (tNxt tb n s) → Q mem') (kf : tCod tb n s ≠ 20000 + (k : Int) → Q (zflt mem 1 (tPlc tb n s))) : Cv X D 222 [(2, 261), (1, w)] rf mem Q := by
  obtain ⟨d, rfl⟩ : ∃ d, D = d + 1 := ⟨D - 1, by omega⟩
  have hf := h.1.f hs
  refine s_m_must_222 hR (t_lex hR (by omega) hb hn.2 hs h (fun hc => ?_) (fun hc => ?_))
  · rw [h.2.2.2]
    refine ⟨by decide, fun _ => ?_, fun q => absurd (by decide) q⟩
    refine t_isWord k hR hb hs h hc hk hw (fun e => ⟨by decide, fun _ => ?_, fun q => absurd q (by decide)⟩) (fun e => ⟨by decide, fun q => absurd rfl q, fun _ => ?_⟩)
    · rw [h.2.2.2]
      exact ⟨by decide, fun q => absurd rfl q, fun _ => t_ahd hR (by omega) hb hn hs h (kk e)⟩
    · refine t_blame hR h.2.2.2 ?_
      rw [hf.1]
      have := kf e
      rw [tPlc_s hc] at this
      have e8 : zflt mem 1 s 261 8 = 1 := by unfold zflt; rw [zup_ne _ _ _ _ (by decide), zup_at]
      rw [e8]
      exact ⟨by decide, fun _ => this, fun q => absurd q (by decide)⟩
  · have := kf (by omega)
    have e8 : zflt mem 1 (tPlc tb n s) 261 8 = 1 := by unfold zflt; rw [zup_ne _ _ _ _ (by decide), zup_at]
    rw [e8]
    exact ⟨by decide, fun q => absurd q (by decide), fun _ => this⟩
theorem t_mustF {Q : zF → Prop} {w : Int} (hR : zall rf zRK = true) (hD : 2 ≤ D) {f : Int} (h8 : mem 261 8 = f) (hf : 1 ≤ f ∧ f ≤ 6) (h12 : inI (mem 261 12)) (kk : Q mem) : Cv X D 222 [(2, 261), (1, w)] rf mem Q := by
  obtain ⟨d, rfl⟩ : ∃ d, D = d + 1 := ⟨D - 1, by omega⟩
  refine s_m_must_222 hR (t_lexF hR (by omega) h8 hf h12 ?_)
  rw [h8]
  exact ⟨by omega, fun q => absurd q (by omega), fun _ => kk⟩
end RTOK
