/-! copies and runs of the program's scenes -/
theorem zcp_row {mem : zF} {q q1 n b : Nat} (h : b ≠ q) : zcp mem q q1 n b = mem b := by
  funext k
  unfold zcp
  rw [if_neg (fun c => h c.1)]
theorem zcp_at {mem : zF} {q q1 n k : Nat} (h : k < n) : zcp mem q q1 n q k = mem q1 k := by
  unfold zcp
  have e0 : (0 : Int).toNat = 0 := rfl
  have e1 : ((n : Nat) : Int).toNat = n := Int.toNat_natCast n
  rw [e0, e1, if_pos ⟨rfl, by omega, by omega⟩]
  congr 1
  omega
theorem u_copy {X : zX} {d o o2 : Nat} {rf mem sc : zF} {Q : zF → Prop} (hR : zall rf zRK = true) (ho : zScn rf o) (ho2 : zScn rf o2) (hd : o + 8 < o2 ∨ o2 + 8 < o) (hs : SC mem o2 sc) (kk : ∀ mem', SC mem' o sc → FS o mem mem' → Q mem') : Cv X d 86 [(2, o), (2, o2)] rf mem Q := by
  refine s_scene_copy hR ho ho2 (kk _ ?_ ?_)
  · simp only [zup_row _ _ _ (show o2 ≠ o by omega)]
    rw [hs.z 0 (by decide), hs.z 1 (by decide), hs.z 2 (by decide), hs.z 11 (by decide)]
    intro s k hz
    have hz2 := hz
    unfold zdom at hz2
    have h9 : s = 0 ∨ s = 1 ∨ s = 2 ∨ s = 3 ∨ s = 4 ∨ s = 5 ∨ s = 6 ∨ s = 7 ∨ s = 8 := by omega
    rcases h9 with rfl | rfl | rfl | rfl | rfl | rfl | rfl | rfl | rfl
    · rw [zcp_row (by omega), zcp_row (by omega), zcp_row (by omega), zcp_row (by omega), zcp_row (by omega), zcp_row (by omega), zcp_row (by omega), zcp_row (by omega)]
      have hk : k = 0 ∨ k = 1 ∨ k = 2 ∨ k = 11 := by omega
      rcases hk with rfl | rfl | rfl | rfl <;> simp [zup_get]
    · rw [zcp_row (by omega), zcp_row (by omega), zcp_row (by omega), zcp_row (by omega), zcp_row (by omega), zcp_row (by omega), zcp_row (by omega), zcp_at (by omega), zup_row _ _ _ (by omega), zup_row _ _ _ (by omega), zup_row _ _ _ (by omega), zup_row _ _ _ (by omega)]
      exact hs 1 k hz
    · rw [zcp_row (by omega), zcp_row (by omega), zcp_row (by omega), zcp_row (by omega), zcp_row (by omega), zcp_row (by omega), zcp_at (by omega), zcp_row (by omega), zup_row _ _ _ (by omega), zup_row _ _ _ (by omega), zup_row _ _ _ (by omega), zup_row _ _ _ (by omega)]
      exact hs 2 k hz
    · rw [zcp_row (by omega), zcp_row (by omega), zcp_row (by omega), zcp_row (by omega), zcp_row (by omega), zcp_at (by omega), zcp_row (by omega), zcp_row (by omega), zup_row _ _ _ (by omega), zup_row _ _ _ (by omega), zup_row _ _ _ (by omega), zup_row _ _ _ (by omega)]
      exact hs 3 k hz
    · rw [zcp_row (by omega), zcp_row (by omega), zcp_row (by omega), zcp_row (by omega), zcp_at (by omega), zcp_row (by omega), zcp_row (by omega), zcp_row (by omega), zup_row _ _ _ (by omega), zup_row _ _ _ (by omega), zup_row _ _ _ (by omega), zup_row _ _ _ (by omega)]
      exact hs 4 k hz
    · rw [zcp_row (by omega), zcp_row (by omega), zcp_row (by omega), zcp_at (by omega), zcp_row (by omega), zcp_row (by omega), zcp_row (by omega), zcp_row (by omega), zup_row _ _ _ (by omega), zup_row _ _ _ (by omega), zup_row _ _ _ (by omega), zup_row _ _ _ (by omega)]
      exact hs 5 k hz
    · rw [zcp_row (by omega), zcp_row (by omega), zcp_at (by omega), zcp_row (by omega), zcp_row (by omega), zcp_row (by omega), zcp_row (by omega), zcp_row (by omega), zup_row _ _ _ (by omega), zup_row _ _ _ (by omega), zup_row _ _ _ (by omega), zup_row _ _ _ (by omega)]
      exact hs 6 k hz
    · rw [zcp_row (by omega), zcp_at (by omega), zcp_row (by omega), zcp_row (by omega), zcp_row (by omega), zcp_row (by omega), zcp_row (by omega), zcp_row (by omega), zup_row _ _ _ (by omega), zup_row _ _ _ (by omega), zup_row _ _ _ (by omega), zup_row _ _ _ (by omega)]
      exact hs 7 k hz
    · rw [zcp_at (by omega), zcp_row (by omega), zcp_row (by omega), zcp_row (by omega), zcp_row (by omega), zcp_row (by omega), zcp_row (by omega), zcp_row (by omega), zup_row _ _ _ (by omega), zup_row _ _ _ (by omega), zup_row _ _ _ (by omega), zup_row _ _ _ (by omega)]
      exact hs 8 k hz
  · intro i hi
    rw [zcp_row (by omega), zcp_row (by omega), zcp_row (by omega), zcp_row (by omega), zcp_row (by omega), zcp_row (by omega), zcp_row (by omega), zcp_row (by omega), zup_row _ _ _ (by omega), zup_row _ _ _ (by omega), zup_row _ _ _ (by omega), zup_row _ _ _ (by omega)]
/-- n seconds without a breath -/
def aRun (pl : zF) : Nat → zF → zF
  | 0, sc => sc
  | n + 1, sc => aRun pl n (aPass pl (zwind pl (sc 0 2)) (-1) sc).2
theorem WS.run {pl : zF} (hP : WP pl) : ∀ (n : Nat) {sc : zF}, WS pl sc → sc 0 0 + n ≤ 1000 → WS pl (aRun pl n sc)
  | 0, sc, h, _ => h
  | n + 1, sc, h, hs => WS.run hP n (h.pass hP _ _ (by omega)) (by rw [aPass_sec]; omega)
theorem aRun_sec {pl : zF} : ∀ (n : Nat) {sc : zF}, aRun pl n sc 0 0 = sc 0 0 + n
  | 0, sc => by show sc 0 0 = sc 0 0 + 0; omega
  | n + 1, sc => by
    show aRun pl n _ 0 0 = _
    rw [aRun_sec n, aPass_sec]
    omega
theorem aRun_succ {pl : zF} : ∀ (n : Nat) {sc : zF}, aRun pl (n + 1) sc = (aPass pl (zwind pl (aRun pl n sc 0 2)) (-1) (aRun pl n sc)).2
  | 0, sc => rfl
  | n + 1, sc => by
    have := aRun_succ (pl := pl) n (sc := (aPass pl (zwind pl (sc 0 2)) (-1) sc).2)
    exact this
/-! the program's frame of a question -/
def CX (rf mem : zF) (p : Nat) (pl sc : zF) : Prop := (zall rf zRK = true ∧ zPln rf p ∧ rf 0 8 = (p : Int) ∧ (p = 8 ∨ p = 246) ∧ zRul rf (p + 9)) ∧ PC mem p pl ∧ SC mem 23 sc
def PX (pl sc : zF) : Prop := WP pl ∧ WR3 pl ∧ WS pl sc ∧ sc 0 0 ≤ 999
/-- a question changes the scratch alone: works 32..34, the seer 35..51 but for what is felt, the rules' scratch -/
def QC (p : Nat) (mem mem' : zF) : Prop := (∀ i, (i < 32 ∨ 51 < i ∨ i = 48) → i ≠ p + 9 → i ≠ p + 13 → i ≠ p + 14 → mem' i = mem i) ∧ mem' 35 7 = mem 35 7
theorem QC.rfl {p : Nat} {mem : zF} : QC p mem mem := ⟨fun _ _ _ _ _ => Eq.refl _, Eq.refl _⟩
theorem QC.trans {p : Nat} {m1 m2 m3 : zF} (h1 : QC p m1 m2) (h2 : QC p m2 m3) : QC p m1 m3 := ⟨fun i a b c d => (h2.1 i a b c d).trans (h1.1 i a b c d), h2.2.trans h1.2⟩
theorem CX.q {rf mem mem' : zF} {p : Nat} {pl sc : zF} (h : CX rf mem p pl sc) (hq : QC p mem mem') : CX rf mem' p pl sc := by
  have hp := h.1.2.2.2.1
  exact ⟨h.1, h.2.1.fr (fun s h1 h2 => hq.1 _ (by omega) (by omega) (by omega) (by omega)), h.2.2.fr (fun i h1 h2 => hq.1 _ (by omega) (by omega) (by omega) (by omega))⟩
theorem CX.r {rf mem : zF} {p : Nat} {pl sc : zF} (h : CX rf mem p pl sc) : zall rf zRK = true := h.1.1
theorem CX.p {rf mem : zF} {p : Nat} {pl sc : zF} (h : CX rf mem p pl sc) : zPln rf p := h.1.2.1
theorem CX.f {rf mem : zF} {p : Nat} {pl sc : zF} (h : CX rf mem p pl sc) : rf 0 8 = (p : Int) := h.1.2.2.1
theorem CX.e {rf mem : zF} {p : Nat} {pl sc : zF} (h : CX rf mem p pl sc) : p = 8 ∨ p = 246 := h.1.2.2.2.1
theorem CX.u {rf mem : zF} {p : Nat} {pl sc : zF} (h : CX rf mem p pl sc) : zRul rf (p + 9) := h.1.2.2.2.2
theorem CX.pc {rf mem : zF} {p : Nat} {pl sc : zF} (h : CX rf mem p pl sc) : PC mem p pl := h.2.1
theorem CX.s {rf mem : zF} {p : Nat} {pl sc : zF} (h : CX rf mem p pl sc) : SC mem 23 sc := h.2.2
theorem CX.dj {rf mem : zF} {p : Nat} {pl sc : zF} (h : CX rf mem p pl sc) : DJ p 36 39 := by
  have := h.e
  unfold DJ
  omega
theorem FP.qc {p : Nat} {m1 m2 : zF} (h : FP p 36 39 m1 m2) (hp : p = 8 ∨ p = 246) : QC p m1 m2 := ⟨fun i a b c d => h i (by omega) (by omega) b c d, by rw [h 35 (by omega) (by omega) (by omega) (by omega) (by omega)]⟩
theorem FS.qc {p : Nat} {m1 m2 : zF} (h : FS 39 m1 m2) : QC p m1 m2 := ⟨fun i a b c d => h i (by omega), by rw [h 35 (by omega)]⟩
section CRUN
variable {X : zX} {p : Nat} {rf pl sc : zF}
theorem u_start {D : Nat} {Q : zF → Prop} {mem : zF} (hX : CX rf mem p pl sc) (hP : PX pl sc) (hD : 5 ≤ D) (kk : ∀ mem', SC mem' 39 sc → WR mem' 36 (zwind pl (sc 0 2)) → QC p mem mem' → Q mem') : Cv X D 100 [(2, 35), (2, p), (2, 23)] rf mem Q := by
  obtain ⟨d, rfl⟩ : ∃ d, D = d + 1 := ⟨D - 1, by omega⟩
  have hp := hX.e
  refine s_seer_start hX.r hX.p (zScn_23 hX.r) (u_copy (o := 39) (o2 := 23) hX.r (zScn_39 hX.r) (zScn_23 hX.r) (by omega) hX.s ?_)
  intro m1 g1 f1
  have hX1 := hX.q (f1.qc (p := p))
  refine u_prepare (o := 39) (w := 36) hX.r (zWrk_36 hX.r) hX.p (zScn_39 hX.r) hP.1 (by omega) (by decide) (by omega) hP.2.2.1.opn hX1.pc (g1.z 2 (by decide)) ?_
  intro m2 f2 g2
  refine kk m2 (g1.fr (fun i h1 h2 => f2 i (by omega))) g2 ((f1.qc).trans ⟨fun i a b c d => f2 i (by omega), by rw [f2 35 (by decide)]⟩)
theorem u_run_2 {d : Nat} {Q : zF → Prop} (hD : 4 ≤ d) {nn : Int} : ∀ (n : Nat) {x : Int} {mem s1 : zF}, CX rf mem p pl sc → WP pl → WR3 pl → SC mem 39 s1 → WR mem 36 (zwind pl (s1 0 2)) → WS pl s1 → s1 0 0 + n ≤ 999 → 0 ≤ x → x + n = nn → nn ≤ 1000 → (∀ mem', SC mem' 39 (aRun pl n s1) → FP p 36 39 mem mem' → Q mem') → L_seer_run_2 X d rf Q mem p nn x
  | 0, x, mem, s1, hX, hP, hrk, hs, hr, hW, h9, h0, hx, hn, kk => s_seer_run_2 hX.r hX.p ⟨by omega, fun _ => kk mem hs FP.rfl, fun q => absurd q (by omega)⟩
  | n + 1, x, mem, s1, hX, hP, hrk, hs, hr, hW, h9, h0, hx, hn, kk => by
    refine s_seer_run_2 hX.r hX.p ⟨by omega, fun q => absurd q (by omega), fun _ => ?_⟩
    refine u_pass (o := 39) (w := 36) hX.r hX.p hX.u (zWrk_36 hX.r) (zScn_39 hX.r) hX.dj hD hP hrk (zwind_rng hP _) (fun c hc => zwind_neg hP _ hc) (by decide) hX.pc hs hr hW (by omega) ?_
    intro m1 g1 f1
    refine u_run_2 hD n (hX.q (f1.qc hX.e)) hP hrk g1 ?_ (hW.pass hP _ _ (by omega)) (by rw [aPass_sec]; omega) (by omega) (by omega) hn ?_
    · rw [aPass_r0 (by decide) (by decide)]
      exact f1.wr hX.dj hr
    · intro m2 g2 f2
      exact kk m2 g2 (f1.trans f2)
theorem u_run {D : Nat} {Q : zF → Prop} {mem s1 : zF} (hX : CX rf mem p pl sc) (hP : WP pl) (hrk : WR3 pl) (hD : 5 ≤ D) {n : Int} (hn : 0 ≤ n ∧ n ≤ 1000) (hs : SC mem 39 s1) (hr : WR mem 36 (zwind pl (s1 0 2))) (hW : WS pl s1) (h9 : s1 0 0 + n ≤ 999) (kk : ∀ mem', SC mem' 39 (aRun pl n.toNat s1) → FP p 36 39 mem mem' → Q mem') : Cv X D 101 [(2, 35), (2, p), (0, n)] rf mem Q := by
  obtain ⟨d, rfl⟩ : ∃ d, D = d + 1 := ⟨D - 1, by omega⟩
  exact s_seer_run hX.r hX.p (u_run_2 (by omega) n.toNat hX hP hrk hs hr hW (by omega) (by omega) (by omega) (by omega) kk)
theorem u_after {D : Nat} {Q : Int → zF → Prop} {mem : zF} (hX : CX rf mem p pl sc) (hP : PX pl sc) (hD : 6 ≤ D) {n : Int} (hn : 0 ≤ n ∧ n ≤ 1000) (h9 : sc 0 0 + n ≤ 999) (kk : ∀ mem', SC mem' 39 (aRun pl n.toNat sc) → QC p mem mem' → Q 39 mem') : Cr X D 102 [(2, 35), (2, p), (2, 23), (0, n)] rf mem Q := by
  obtain ⟨d, rfl⟩ : ∃ d, D = d + 1 := ⟨D - 1, by omega⟩
  refine s_seer_after hX.r hX.p (zScn_23 hX.r) (u_start hX hP (by omega) ?_)
  intro m1 g1 g2 f1
  refine u_run (hX.q f1) hP.1 hP.2.1 (by omega) hn g1 g2 hP.2.2.1 h9 ?_
  intro m2 g3 f2
  exact kk m2 g3 (f1.trans (f2.qc hX.e))
def zcan (sc : zF) (n lo hi : Int) : Prop := lo ≤ n ∧ n ≤ hi ∧ sc 0 0 + n ≤ 999
theorem u_canPass {d : Nat} {Q : Int → zF → Prop} {mem : zF} (hX : CX rf mem p pl sc) (hP : PX pl sc) {n lo hi : Int} (hn : inI n) (hl : inI lo) (hh : inI hi) (k1 : zcan sc n lo hi → Q 1 mem) (k0 : ¬ zcan sc n lo hi → Q 0 mem) : Ci X d 190 [(2, 0), (0, n), (0, lo), (0, hi)] rf mem Q := by
  unfold zcan at k1 k0
  have h1 := hP.2.2.1.sec
  refine s_c_canPass hX.r hX.p hX.f ?_
  rw [hX.s.z 0 (by decide)]
  exact ⟨⟨hn, hl⟩, fun _ => k0 (by omega), fun _ => ⟨⟨hn, hh⟩, fun _ => k0 (by omega), fun _ => ⟨⟨hn, by omega⟩, fun _ => k0 (by omega), fun _ => k1 (by omega)⟩⟩⟩
def zpart (c w : Int) : Int := if c = -1 then -1 else if w = 0 then c % 8 else if w = 1 then c / 8 else -1
theorem u_placePart {d : Nat} {Q : Int → zF → Prop} {mem : zF} (hX : CX rf mem p pl sc) {c w : Int} (hc : -1 ≤ c ∧ c < 64) (hw : inI w) (kk : Q (zpart c w) mem) : Ci X d 186 [(2, 0), (0, c), (0, w)] rf mem Q := by
  unfold zpart at kk
  refine s_c_placePart hX.r hX.p hX.f ⟨by omega, fun q => ⟨hw, fun q2 => ⟨by omega, ?_⟩, fun q2 => ⟨by omega, ?_⟩, fun q2 => ?_⟩, fun q => ?_⟩
  · rw [tmod8 (by omega)]
    rwa [if_neg q, if_pos q2] at kk
  · rw [tdiv8 (by omega)]
    rwa [if_neg q, if_neg (by omega), if_pos q2] at kk
  · rwa [if_neg q, if_neg q2.1, if_neg q2.2] at kk
  · rwa [if_pos q] at kk
theorem u_floats {D : Nat} {Q : Int → zF → Prop} {mem : zF} (hX : CX rf mem p pl sc) (hP : PX pl sc) (hD : 2 ≤ D) {b : Int} (hb : inI b) (k1 : (0 ≤ b ∧ b < pl 1 2 ∧ sc 2 b.toNat ≠ -1) → Q 1 mem) (k0 : ¬ (0 ≤ b ∧ b < pl 1 2 ∧ sc 2 b.toNat ≠ -1) → Q 0 mem) : Ci X D 189 [(2, 0), (0, b)] rf mem Q := by
  obtain ⟨d, rfl⟩ : ∃ d, D = d + 1 := ⟨D - 1, by omega⟩
  have hn := hP.1.n
  refine s_c_floats hX.r hX.p hX.f (u_isThere hX.r hX.p hX.pc hP.1 (by omega) (by decide) hb (fun h => ?_) (fun h => ?_))
  · unfold zthere at h
    have hb6 : 0 ≤ b ∧ b < 6 := ⟨h.1, h.2.1⟩
    have h2 : b < pl 1 2 := h.2.2.2.2
    have hbI := hP.2.2.1.bubI hb6
    have e : mem 25 b.toNat = sc 2 b.toNat := hX.s.i 2 (by decide) hb6
    refine ⟨by decide, fun q => absurd q (by decide), fun _ => ⟨hb6, ?_⟩⟩
    rw [e]
    exact ⟨by omega, fun q => k0 (fun c => c.2.2 q), fun q => k1 ⟨hb6.1, h2, q⟩⟩
  · refine ⟨by decide, fun _ => k0 (fun c => h ⟨c.1, by omega, by decide, by decide, c.2.1⟩), fun q => absurd rfl q⟩
end CRUN
