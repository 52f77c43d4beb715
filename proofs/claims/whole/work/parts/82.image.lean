/-! the image, written by both -/
def zOC (mem : zF) (l : List Int) : Prop := mem 234 1 = l.length ∧ ∀ j : Nat, j < l.length → mem 235 j = l.getD j 0
def zOR (mem : zF) (l : List Int) : Prop := mem 261 78 = l.length ∧ ∀ j : Nat, j < l.length → mem 314 j = l.getD j 0
def zFO (mem mem' : zF) : Prop := ∀ i, i ≠ 234 → i ≠ 235 → mem' i = mem i
def zFR (mem mem' : zF) : Prop := (∀ i, i ≠ 261 → i ≠ 314 → mem' i = mem i) ∧ ∀ j, j ≠ 78 → mem' 261 j = mem 261 j
theorem zFO.trans {a b c : zF} (h1 : zFO a b) (h2 : zFO b c) : zFO a c := fun i x y => (h2 i x y).trans (h1 i x y)
theorem zFR.trans {a b c : zF} (h1 : zFR a b) (h2 : zFR b c) : zFR a c := ⟨fun i x y => (h2.1 i x y).trans (h1.1 i x y), fun j x => (h2.2 j x).trans (h1.2 j x)⟩
theorem zsn (x : Int) : ∀ (l : List Int) (j : Nat), (l ++ [x]).getD j 0 = if j = l.length then x else l.getD j 0
  | [], 0 => by simp
  | [], j + 1 => by simp
  | a :: l, 0 => by simp
  | a :: l, j + 1 => by
    have := zsn x l j
    simpa using this
theorem zgd (b : Int) (r : List Int) : ∀ pre : List Int, (pre ++ b :: r).getD pre.length 0 = b
  | [] => by simp
  | a :: l => by
    have := zgd b r l
    simpa using this
def aIm (f : Int → List Int) : Nat → Int → List Int
  | 0, _ => []
  | n + 1, k => f k ++ aIm f n (k + 1)
theorem aIm_len {f : Int → List Int} {m : Nat} (hf : ∀ k, (f k).length = m) : ∀ (n : Nat) (k : Int), (aIm f n k).length = m * n
  | 0, k => by simp [aIm]
  | n + 1, k => by
    unfold aIm
    rw [List.length_append, hf, aIm_len hf n, Nat.mul_succ]
    omega
theorem aIm_rng {f : Int → List Int} {hi : Int} (hf : ∀ k, 0 ≤ k → k < hi → ∀ b ∈ f k, 0 ≤ b ∧ b ≤ 255) : ∀ (n : Nat) (k : Int), 0 ≤ k → k + n ≤ hi → ∀ b ∈ aIm f n k, 0 ≤ b ∧ b ≤ 255
  | 0, k, _, _, b, hb => by simp [aIm] at hb
  | n + 1, k, h0, h1, b, hb => by
    unfold aIm at hb
    rcases List.mem_append.mp hb with h | h
    · exact hf k h0 (by omega) b h
    · exact aIm_rng hf n (k + 1) (by omega) (by omega) b h
def zc1 (c : Int) : Int := if c = -1 then 255 else c % 8
def zc2 (c : Int) : Int := if c = -1 then 255 else c / 8
theorem zc1_rng {c : Int} (h : -1 ≤ c ∧ c < 64) : 0 ≤ zc1 c ∧ zc1 c ≤ 255 := by
  unfold zc1
  split <;> omega
theorem zc2_rng {c : Int} (h : -1 ≤ c ∧ c < 64) : 0 ≤ zc2 c ∧ zc2 c ≤ 255 := by
  unfold zc2
  split <;> omega
theorem zc1_part {c : Int} (h : -1 ≤ c ∧ c < 64) : zpart c 0 % 256 = zc1 c := by
  unfold zc1 zpart
  split
  · rfl
  · rw [if_pos rfl]; omega
theorem zc2_part {c : Int} (h : -1 ≤ c ∧ c < 64) : zpart c 1 % 256 = zc2 c := by
  unfold zc2 zpart
  split
  · rfl
  · rw [if_neg (by decide), if_pos rfl]; omega
def zchk : Int → List Int → Int
  | a, [] => a
  | a, b :: r => zchk ((5 * a + b) % 251) r
theorem zchk_rng : ∀ (l : List Int) {a : Int}, 0 ≤ a ∧ a < 251 → 0 ≤ zchk a l ∧ zchk a l < 251
  | [], a, h => h
  | b :: r, a, h => zchk_rng r (by omega)
def i1 (sc : zF) (k : Int) : List Int := [zbit (sc 0 2) k]
def i2 (sc : zF) (k : Int) : List Int := [zc1 (sc 1 k.toNat), zc2 (sc 1 k.toNat)]
def i3 (sc : zF) (k : Int) : List Int := [zc1 (sc 2 k.toNat), zc2 (sc 2 k.toNat), sc 3 k.toNat, sc 4 k.toNat, sc 5 k.toNat]
def i4 (sc : zF) (k : Int) : List Int := [if sc 6 k.toNat = -1 then 255 else sc 6 k.toNat, sc 7 k.toNat / 256, sc 7 k.toNat % 256]
def i0 (sc : zF) : List Int := [sc 0 0 / 256, sc 0 0 % 256, zc1 (sc 0 1), zc2 (sc 0 1)]
def aImg (pl sc : zF) : List Int := i0 sc ++ (aIm (i1 sc) (pl 1 0).toNat 0 ++ (aIm (i2 sc) (pl 1 1).toNat 0 ++ (aIm (i3 sc) (pl 1 2).toNat 0 ++ aIm (i4 sc) (pl 1 2).toNat 0)))
theorem aImg_len {pl sc : zF} : (aImg pl sc).length = 4 + ((pl 1 0).toNat + (2 * (pl 1 1).toNat + (5 * (pl 1 2).toNat + 3 * (pl 1 2).toNat))) := by
  unfold aImg
  rw [List.length_append, List.length_append, List.length_append, List.length_append, aIm_len (m := 1) (fun k => rfl), aIm_len (m := 2) (fun k => rfl), aIm_len (m := 5) (fun k => rfl), aIm_len (m := 3) (fun k => rfl), Nat.one_mul]
  rfl
theorem aImg_rng {pl sc : zF} (hP : PX pl sc) : ∀ b ∈ aImg pl sc, 0 ≤ b ∧ b ≤ 255 := by
  have hN := hP.1.n
  have hcr := hP.1.cr
  have hW := hP.2.2.1
  have hsec := hW.sec
  have hl := hW.lamp
  unfold zic at hl
  have hop := hW.opn
  intro b hb
  unfold aImg at hb
  rcases List.mem_append.mp hb with h | h
  · have a1 := zc1_rng (c := sc 0 1) (by omega)
    have a2 := zc2_rng (c := sc 0 1) (by omega)
    unfold i0 at h
    simp only [List.mem_cons, List.not_mem_nil, or_false] at h
    omega
  rcases List.mem_append.mp h with h | h
  · refine aIm_rng (hi := 6) (fun k k0 k1 b hb => ?_) _ _ (by omega) (by omega) b h
    have := zbit_01 hop (k := k) ⟨k0, k1⟩
    unfold i1 at hb
    simp only [List.mem_cons, List.not_mem_nil, or_false] at hb
    omega
  rcases List.mem_append.mp h with h | h
  · refine aIm_rng (hi := 6) (fun k k0 k1 b hb => ?_) _ _ (by omega) (by omega) b h
    have a0 := hW.heirI (k := k) ⟨k0, k1⟩
    have a1 := zc1_rng a0
    have a2 := zc2_rng a0
    unfold i2 at hb
    simp only [List.mem_cons, List.not_mem_nil, or_false] at hb
    omega
  rcases List.mem_append.mp h with h | h
  · refine aIm_rng (hi := 6) (fun k k0 k1 b hb => ?_) _ _ (by omega) (by omega) b h
    have a0 := hW.bubI (k := k) ⟨k0, k1⟩
    have a1 := zc1_rng a0
    have a2 := zc2_rng a0
    have a3 := hW.film (k := k) ⟨k0, k1⟩
    have a4 := hW.size (k := k) ⟨k0, k1⟩
    have a5 := hW.deeds (k := k) ⟨k0, k1⟩
    unfold i3 at hb
    simp only [List.mem_cons, List.not_mem_nil, or_false] at hb
    omega
  · refine aIm_rng (hi := 6) (fun k k0 k1 b hb => ?_) _ _ (by omega) (by omega) b h
    have a0 := hW.owner (k := k) ⟨k0, k1⟩
    have a1 := hW.rent (k := k) ⟨k0, k1⟩
    have a2 : 0 ≤ (if sc 6 k.toNat = -1 then 255 else sc 6 k.toNat) ∧ (if sc 6 k.toNat = -1 then 255 else sc 6 k.toNat) ≤ 255 := by
      split <;> omega
    unfold i4 at hb
    simp only [List.mem_cons, List.not_mem_nil, or_false] at hb
    omega
section IMGC
variable {X : zX} {rf mem : zF} {p : Nat} {pl sc : zF} {d : Nat} {l : List Int}
theorem CX.fo {mem' : zF} (h : CX rf mem p pl sc) (f : zFO mem mem') : CX rf mem' p pl sc := by
  have hp := h.e
  exact ⟨h.1, h.pc.fr (fun s h1 h2 => f _ (by omega) (by omega)), h.s.fr (fun i i1 i2 => f i (by omega) (by omega))⟩
theorem RX.fo {mem' : zF} (h : RX rf mem pl sc) (f : zFO mem mem') : RX rf mem' pl sc := ⟨h.1, h.2.1.fr (by rw [f 261 (by decide) (by decide)]) (by rw [f 261 (by decide) (by decide)]) (fun a a1 a2 => f a (by omega) (by omega)), h.2.2.fr (fun a a1 a2 => f a (by omega) (by omega))⟩
theorem RX.rr {mem' : zF} (h : RX rf mem pl sc) (f : zFR mem mem') : RX rf mem' pl sc := ⟨h.1, h.2.1.fr (f.2 13 (by decide)) (f.2 50 (by decide)) (fun a a1 a2 => f.1 a (by omega) (by omega)), h.2.2.fr (fun a a1 a2 => f.1 a (by omega) (by omega))⟩
theorem u_put {Q : zF → Prop} (hR : zall rf zRK = true) (hl : zOC mem l) (hn : l.length < 71) {x : Int} (kk : ∀ mem', zOC mem' (l ++ [x]) → zFO mem mem' → Q mem') : Cv X d 8 [(2, 234), (0, x)] rf mem Q := by
  refine s_images_put hR ?_
  rw [hl.1]
  refine ⟨by omega, fun q => absurd q (by omega), fun _ => ⟨by omega, fun q => absurd q (by omega), fun _ => ⟨by omega, kk _ ⟨?_, fun j hj => ?_⟩ (fun i a b => by rw [zup_row _ _ _ a, zup_row _ _ _ b])⟩⟩⟩
  · rw [zup_at, List.length_append]; rfl
  · rw [zup_row _ _ _ (by decide), zup_get, zsn, Int.toNat_natCast]
    by_cases e : j = l.length
    · rw [if_pos ⟨rfl, e⟩, if_pos e]
    · rw [if_neg (fun q => e q.2), if_neg e]
      rw [List.length_append] at hj
      have e1 : ([x] : List Int).length = 1 := rfl
      exact hl.2 j (by omega)
theorem t_writes {Q : zF → Prop} (hR : zall rf zRK = true) (hl : zOR mem l) (hn : l.length < 90) {x y : Int} (hx : x % 256 = y) (kk : ∀ mem', zOR mem' (l ++ [y]) → zFR mem mem' → Q mem') : Cv X d 307 [(2, 261), (0, x)] rf mem Q := by
  refine s_m_writes hR ?_
  rw [hl.1, zand255, hx]
  refine ⟨by omega, kk _ ⟨?_, fun j hj => ?_⟩ ⟨fun i a b => by rw [zup_row _ _ _ a, zup_row _ _ _ b], fun j a => by rw [zup_ne _ _ _ _ a, zup_row _ _ _ (by decide)]⟩⟩
  · rw [zup_at, List.length_append]; rfl
  · rw [zup_row _ _ _ (by decide), zup_get, zsn, Int.toNat_natCast]
    by_cases e : j = l.length
    · rw [if_pos ⟨rfl, e⟩, if_pos e]
    · rw [if_neg (fun q => e q.2), if_neg e]
      rw [List.length_append] at hj
      have e1 : ([y] : List Int).length = 1 := rfl
      exact hl.2 j (by omega)
theorem zln {l : List Int} {x : Int} : (l ++ [x]).length = l.length + 1 := by rw [List.length_append]; rfl
theorem zln2 {l : List Int} {x y : Int} : (l ++ [x, y]).length = l.length + 2 := by rw [List.length_append]; rfl
theorem u_putTwo {D : Nat} {Q : zF → Prop} (hR : zall rf zRK = true) (hD : 1 ≤ D) (hl : zOC mem l) (hn : l.length + 1 < 71) {x : Int} (hx : 0 ≤ x ∧ x ≤ 1000) (kk : ∀ mem', zOC mem' (l ++ [x / 256, x % 256]) → zFO mem mem' → Q mem') : Cv X D 9 [(2, 234), (0, x)] rf mem Q := by
  obtain ⟨d, rfl⟩ : ∃ d, D = d + 1 := ⟨D - 1, by omega⟩
  refine s_images_putTwo hR ?_
  rw [Int.tdiv_eq_ediv_of_nonneg hx.1, Int.tmod_eq_emod_of_nonneg hx.1]
  refine ⟨by omega, u_put hR hl (by omega) (fun m1 h1 f1 => ⟨by omega, u_put hR h1 (by rw [zln]; omega) (fun m2 h2 f2 => kk m2 ?_ (f1.trans f2))⟩)⟩
  rw [List.append_assoc] at h2
  exact h2
theorem u_putCell {D : Nat} {Q : zF → Prop} (hR : zall rf zRK = true) (hD : 1 ≤ D) (hl : zOC mem l) (hn : l.length + 1 < 71) {c : Int} (hc : -1 ≤ c ∧ c < 64) (kk : ∀ mem', zOC mem' (l ++ [zc1 c, zc2 c]) → zFO mem mem' → Q mem') : Cv X D 10 [(2, 234), (0, c)] rf mem Q := by
  obtain ⟨d, rfl⟩ : ∃ d, D = d + 1 := ⟨D - 1, by omega⟩
  have main : L_images_putCell_16 X d rf Q mem c (zc1 c) := by
    refine s_images_putCell_16 hR (u_put hR hl (by omega) (fun m1 h1 f1 => ⟨by omega, fun q => ⟨by omega, ?_⟩, fun q => ?_⟩))
    · rw [Int.tdiv_eq_ediv_of_nonneg (by omega)]
      refine u_put hR h1 (by rw [zln]; omega) (fun m2 h2 f2 => kk m2 ?_ (f1.trans f2))
      rw [List.append_assoc] at h2
      have e : zc2 c = c / 8 := by unfold zc2; rw [if_neg q]
      rw [e]
      exact h2
    · refine u_put hR h1 (by rw [zln]; omega) (fun m2 h2 f2 => kk m2 ?_ (f1.trans f2))
      rw [List.append_assoc] at h2
      have e : zc2 c = 255 := by unfold zc2; rw [if_pos q]
      rw [e]
      exact h2
  refine s_images_putCell hR ⟨by omega, fun q => ⟨by omega, ?_⟩, fun q => ?_⟩
  · have e : zc1 c = c.tmod 8 := by unfold zc1; rw [if_neg q, Int.tmod_eq_emod_of_nonneg (by omega)]
    rw [← e]
    exact main
  · have e : zc1 c = 255 := by unfold zc1; rw [if_pos q]
    rw [← e]
    exact main
theorem u_wr_194 {Q : Int → zF → Prop} (hX : CX rf mem p pl sc) (hl : zOC mem l) (hn : l.length < 71) (hb : ∀ b ∈ l, 0 ≤ b ∧ b ≤ 255) (kk : ∀ mem', zOC mem' (l ++ [zchk 197 l]) → zFO mem mem' → Q (mem' 234 1) mem') : ∀ (r pre : List Int) (a : Int), l = pre ++ r → 0 ≤ a ∧ a < 251 → zchk a r = zchk 197 l → L_images_write_194 X d rf Q mem p 23 a (pre.length : Int)
  | [], pre, a, e, ha, hc => by
    have e1 : pre = l := by rw [e]; simp
    refine s_images_write_194 hX.r hX.p (zScn_23 hX.r) ?_
    rw [hl.1, e1]
    refine ⟨by omega, fun _ => u_put hX.r hl hn (fun m1 h1 f1 => ?_), fun q => absurd q (by omega)⟩
    have hc2 : a = zchk 197 l := hc
    rw [hc2] at h1
    exact kk m1 h1 f1
  | b :: r, pre, a, e, ha, hc => by
    have len : l.length = pre.length + (r.length + 1) := by rw [e, List.length_append]; rfl
    have hbb := hb b (by rw [e]; simp)
    refine s_images_write_194 hX.r hX.p (zScn_23 hX.r) ?_
    rw [hl.1]
    refine ⟨by omega, fun q => absurd q (by omega), fun _ => ⟨by omega, fun q => absurd q (by omega), fun _ => ⟨by omega, ?_⟩⟩⟩
    have g : mem 235 (pre.length : Int).toNat = b := by
      rw [Int.toNat_natCast, hl.2 _ (by omega), e, zgd]
    rw [g]
    refine s_images_checkOn hX.r ⟨by omega, ?_⟩
    rw [Int.tmod_eq_emod_of_nonneg (by omega)]
    have := u_wr_194 hX hl hn hb kk r (pre ++ [b]) ((5 * a + b) % 251) (by rw [e]; simp) (by omega) hc
    rw [zln] at this
    exact this
theorem u_wr_136 {D : Nat} {Q : Int → zF → Prop} (hP : PX pl sc) (hD : 1 ≤ D) {L : List Int} (hL : L.length < 71) (hb : ∀ b ∈ L, 0 ≤ b ∧ b ≤ 255) {m0 : zF} (kk : ∀ mem', zOC mem' (L ++ [zchk 197 L]) → zFO m0 mem' → Q (mem' 234 1) mem') : ∀ (n : Nat) {x : Int} {mem : zF} {l : List Int}, CX rf mem p pl sc → zFO m0 mem → zOC mem l → 0 ≤ x → x + n = pl 1 2 → L = l ++ aIm (i4 sc) n x → L_images_write_136 X D rf Q mem p 23 x
  | 0, x, mem, l, hX, f0, hl, h0, hn, e => by
    have hN := hP.1.n
    have e1 : L = l := by rw [e]; unfold aIm; simp
    refine s_images_write_136 hX.r hX.p (zScn_23 hX.r) (u_many hX.r hX.p hX.pc (by decide) ?_)
    refine ⟨⟨by omega, by show inI (pl 1 2); omega⟩, fun _ => ?_, fun q => absurd (show pl 1 2 ≤ x by omega) q⟩
    have := u_wr_194 (X := X) (d := D) (Q := Q) hX hl (by rw [← e1]; exact hL) (by rw [← e1]; exact hb) (fun m1 h1 f1 => kk m1 (by rw [e1]; exact h1) (f0.trans f1)) l [] 197 rfl (by decide) rfl
    exact this
  | n + 1, x, mem, l, hX, f0, hl, h0, hn, e => by
    have hN := hP.1.n
    have hW := hP.2.2.1
    have ho := hW.owner (k := x) (by omega)
    have hr := hW.rent (k := x) (by omega)
    have len : L.length = l.length + (3 + 3 * n) := by rw [e]; unfold aIm; rw [List.length_append, List.length_append, aIm_len (m := 3) (fun k => rfl)]; rfl
    have s6 : mem 29 x.toNat = sc 6 x.toNat := hX.s 6 x.toNat (by unfold zdom; omega)
    have go : L_images_write_168 X D rf Q mem p 23 x (if sc 6 x.toNat = -1 then 255 else sc 6 x.toNat) := by
      refine s_images_write_168 hX.r hX.p (zScn_23 hX.r) (u_put hX.r hl (by omega) (fun m1 h1 f1 => ⟨by omega, ?_⟩))
      have hX1 := hX.fo f1
      have s7 : m1 30 x.toNat = sc 7 x.toNat := hX1.s 7 x.toNat (by unfold zdom; omega)
      show Cv X D 9 [(2, 234), (0, m1 30 x.toNat)] rf m1 _
      rw [s7]
      refine u_putTwo hX.r hD h1 (by rw [zln]; omega) (by omega) (fun m2 h2 f2 => ?_)
      refine u_wr_136 hP hD hL hb kk n (hX1.fo f2) (f0.trans (f1.trans f2)) h2 (by omega) (by omega) ?_
      rw [e]
      show l ++ (i4 sc x ++ aIm (i4 sc) n (x + 1)) = _
      unfold i4
      rw [List.append_assoc, List.append_assoc]
      rfl
    refine s_images_write_136 hX.r hX.p (zScn_23 hX.r) (u_many hX.r hX.p hX.pc (by decide) ?_)
    refine ⟨⟨by omega, by show inI (pl 1 2); omega⟩, fun q => absurd (show pl 1 2 ≤ x from q) (by omega), fun _ => ⟨by omega, ?_⟩⟩
    show inI (mem 29 x.toNat) ∧ (¬ mem 29 x.toNat = -1 → (0 ≤ x ∧ x < 6) ∧ L_images_write_168 X D rf Q mem p 23 x (mem 29 x.toNat)) ∧ (mem 29 x.toNat = -1 → L_images_write_168 X D rf Q mem p 23 x 255)
    rw [s6]
    refine ⟨by omega, fun q => ⟨by omega, ?_⟩, fun q => ?_⟩
    · rw [if_neg q] at go; exact go
    · rw [if_pos q] at go; exact go
theorem u_wr_79 {D : Nat} {Q : Int → zF → Prop} (hP : PX pl sc) (hD : 1 ≤ D) {L : List Int} (hL : L.length < 71) (hb : ∀ b ∈ L, 0 ≤ b ∧ b ≤ 255) {m0 : zF} (kk : ∀ mem', zOC mem' (L ++ [zchk 197 L]) → zFO m0 mem' → Q (mem' 234 1) mem') : ∀ (n : Nat) {x : Int} {mem : zF} {l : List Int}, CX rf mem p pl sc → zFO m0 mem → zOC mem l → 0 ≤ x → x + n = pl 1 2 → L = l ++ (aIm (i3 sc) n x ++ aIm (i4 sc) (pl 1 2).toNat 0) → L_images_write_79 X D rf Q mem p 23 x
  | 0, x, mem, l, hX, f0, hl, h0, hn, e => by
    have hN := hP.1.n
    refine s_images_write_79 hX.r hX.p (zScn_23 hX.r) (u_many hX.r hX.p hX.pc (by decide) ?_)
    refine ⟨⟨by omega, by show inI (pl 1 2); omega⟩, fun _ => ?_, fun q => absurd (show pl 1 2 ≤ x by omega) q⟩
    exact u_wr_136 hP hD hL hb kk (pl 1 2).toNat hX f0 hl (by omega) (by omega) e
  | n + 1, x, mem, l, hX, f0, hl, h0, hn, e => by
    have hN := hP.1.n
    have hW := hP.2.2.1
    have hc := hW.bubI (k := x) (by omega)
    have len : L.length = l.length + (5 + 5 * n + 3 * (pl 1 2).toNat) := by rw [e]; rw [List.length_append, List.length_append, aIm_len (f := i4 sc) (m := 3) (fun k => rfl), aIm_len (f := i3 sc) (m := 5) (fun k => rfl)]; omega
    refine s_images_write_79 hX.r hX.p (zScn_23 hX.r) (u_many hX.r hX.p hX.pc (by decide) ?_)
    refine ⟨⟨by omega, by show inI (pl 1 2); omega⟩, fun q => absurd (show pl 1 2 ≤ x from q) (by omega), fun _ => ⟨by omega, ?_⟩⟩
    have s2 : mem 25 x.toNat = sc 2 x.toNat := hX.s 2 x.toNat (by unfold zdom; omega)
    show Cv X D 10 [(2, 234), (0, mem 25 x.toNat)] rf mem _
    rw [s2]
    refine u_putCell hX.r hD hl (by omega) hc (fun m1 h1 f1 => ⟨by omega, ?_⟩)
    have hX1 := hX.fo f1
    have s3 : m1 26 x.toNat = sc 3 x.toNat := hX1.s 3 x.toNat (by unfold zdom; omega)
    show Cv X D 8 [(2, 234), (0, m1 26 x.toNat)] rf m1 _
    rw [s3]
    refine u_put hX.r h1 (by rw [zln2]; omega) (fun m2 h2 f2 => ⟨by omega, ?_⟩)
    have hX2 := hX1.fo f2
    have s4 : m2 27 x.toNat = sc 4 x.toNat := hX2.s 4 x.toNat (by unfold zdom; omega)
    show Cv X D 8 [(2, 234), (0, m2 27 x.toNat)] rf m2 _
    rw [s4]
    refine u_put hX.r h2 (by rw [zln, zln2]; omega) (fun m3 h3 f3 => ⟨by omega, ?_⟩)
    have hX3 := hX2.fo f3
    have s5 : m3 28 x.toNat = sc 5 x.toNat := hX3.s 5 x.toNat (by unfold zdom; omega)
    show Cv X D 8 [(2, 234), (0, m3 28 x.toNat)] rf m3 _
    rw [s5]
    refine u_put hX.r h3 (by rw [zln, zln, zln2]; omega) (fun m4 h4 f4 => ?_)
    refine u_wr_79 hP hD hL hb kk n (hX3.fo f4) (f0.trans (f1.trans (f2.trans (f3.trans f4)))) h4 (by omega) (by omega) ?_
    rw [e]
    show l ++ ((i3 sc x ++ aIm (i3 sc) n (x + 1)) ++ aIm (i4 sc) (pl 1 2).toNat 0) = _
    unfold i3
    rw [List.append_assoc, List.append_assoc, List.append_assoc, List.append_assoc, List.append_assoc]
    rfl
theorem u_wr_52 {D : Nat} {Q : Int → zF → Prop} (hP : PX pl sc) (hD : 1 ≤ D) {L : List Int} (hL : L.length < 71) (hb : ∀ b ∈ L, 0 ≤ b ∧ b ≤ 255) {m0 : zF} (kk : ∀ mem', zOC mem' (L ++ [zchk 197 L]) → zFO m0 mem' → Q (mem' 234 1) mem') : ∀ (n : Nat) {x : Int} {mem : zF} {l : List Int}, CX rf mem p pl sc → zFO m0 mem → zOC mem l → 0 ≤ x → x + n = pl 1 1 → L = l ++ (aIm (i2 sc) n x ++ (aIm (i3 sc) (pl 1 2).toNat 0 ++ aIm (i4 sc) (pl 1 2).toNat 0)) → L_images_write_52 X D rf Q mem p 23 x
  | 0, x, mem, l, hX, f0, hl, h0, hn, e => by
    have hN := hP.1.n
    refine s_images_write_52 hX.r hX.p (zScn_23 hX.r) (u_many hX.r hX.p hX.pc (by decide) ?_)
    refine ⟨⟨by omega, by show inI (pl 1 1); omega⟩, fun _ => ?_, fun q => absurd (show pl 1 1 ≤ x by omega) q⟩
    exact u_wr_79 hP hD hL hb kk (pl 1 2).toNat hX f0 hl (by omega) (by omega) e
  | n + 1, x, mem, l, hX, f0, hl, h0, hn, e => by
    have hN := hP.1.n
    have hW := hP.2.2.1
    have hc := hW.heirI (k := x) (by omega)
    have len : L.length = l.length + (2 + 2 * n + 5 * (pl 1 2).toNat + 3 * (pl 1 2).toNat) := by rw [e]; rw [List.length_append, List.length_append, List.length_append, aIm_len (f := i4 sc) (m := 3) (fun k => rfl), aIm_len (f := i3 sc) (m := 5) (fun k => rfl), aIm_len (f := i2 sc) (m := 2) (fun k => rfl)]; omega
    refine s_images_write_52 hX.r hX.p (zScn_23 hX.r) (u_many hX.r hX.p hX.pc (by decide) ?_)
    refine ⟨⟨by omega, by show inI (pl 1 1); omega⟩, fun q => absurd (show pl 1 1 ≤ x from q) (by omega), fun _ => ⟨by omega, ?_⟩⟩
    have s2 : mem 24 x.toNat = sc 1 x.toNat := hX.s 1 x.toNat (by unfold zdom; omega)
    show Cv X D 10 [(2, 234), (0, mem 24 x.toNat)] rf mem _
    rw [s2]
    refine u_putCell hX.r hD hl (by omega) hc (fun m1 h1 f1 => ?_)
    refine u_wr_52 hP hD hL hb kk n (hX.fo f1) (f0.trans f1) h1 (by omega) (by omega) ?_
    rw [e]
    show l ++ ((i2 sc x ++ aIm (i2 sc) n (x + 1)) ++ _) = _
    unfold i2
    rw [List.append_assoc, List.append_assoc]
theorem u_wr_23 {D : Nat} {Q : Int → zF → Prop} (hP : PX pl sc) (hD : 1 ≤ D) {L : List Int} (hL : L.length < 71) (hb : ∀ b ∈ L, 0 ≤ b ∧ b ≤ 255) {m0 : zF} (kk : ∀ mem', zOC mem' (L ++ [zchk 197 L]) → zFO m0 mem' → Q (mem' 234 1) mem') : ∀ (n : Nat) {x : Int} {mem : zF} {l : List Int}, CX rf mem p pl sc → zFO m0 mem → zOC mem l → 0 ≤ x → x + n = pl 1 0 → L = l ++ (aIm (i1 sc) n x ++ (aIm (i2 sc) (pl 1 1).toNat 0 ++ (aIm (i3 sc) (pl 1 2).toNat 0 ++ aIm (i4 sc) (pl 1 2).toNat 0))) → L_images_write_23 X D rf Q mem p 23 x
  | 0, x, mem, l, hX, f0, hl, h0, hn, e => by
    have hN := hP.1.n
    refine s_images_write_23 hX.r hX.p (zScn_23 hX.r) (u_many hX.r hX.p hX.pc (by decide) ?_)
    refine ⟨⟨by omega, by show inI (pl 1 0); omega⟩, fun _ => ?_, fun q => absurd (show pl 1 0 ≤ x by omega) q⟩
    exact u_wr_52 hP hD hL hb kk (pl 1 1).toNat hX f0 hl (by omega) (by omega) e
  | n + 1, x, mem, l, hX, f0, hl, h0, hn, e => by
    have hN := hP.1.n
    have hW := hP.2.2.1
    have len : L.length = l.length + (1 * (n + 1) + (2 * (pl 1 1).toNat + (5 * (pl 1 2).toNat + 3 * (pl 1 2).toNat))) := by rw [e]; rw [List.length_append, List.length_append, List.length_append, List.length_append, aIm_len (f := i4 sc) (m := 3) (fun k => rfl), aIm_len (f := i3 sc) (m := 5) (fun k => rfl), aIm_len (f := i2 sc) (m := 2) (fun k => rfl), aIm_len (f := i1 sc) (m := 1) (fun k => rfl)]
    refine s_images_write_23 hX.r hX.p (zScn_23 hX.r) (u_many hX.r hX.p hX.pc (by decide) ?_)
    refine ⟨⟨by omega, by show inI (pl 1 0); omega⟩, fun q => absurd (show pl 1 0 ≤ x from q) (by omega), fun _ => ?_⟩
    have s2 : mem 23 2 = sc 0 2 := hX.s 0 2 (by unfold zdom; omega)
    rw [s2]
    refine u_put hX.r hl (by omega) (fun m1 h1 f1 => ?_)
    refine u_wr_23 hP hD hL hb kk n (hX.fo f1) (f0.trans f1) h1 (by omega) (by omega) ?_
    rw [e]
    show l ++ ((i1 sc x ++ aIm (i1 sc) n (x + 1)) ++ _) = _
    unfold i1
    rw [List.append_assoc, List.append_assoc]
    rfl
theorem u_image {D : Nat} {Q : Int → zF → Prop} (hX : CX rf mem p pl sc) (hP : PX pl sc) (hD : 3 ≤ D) (kk : ∀ mem', zOC mem' (aImg pl sc ++ [zchk 197 (aImg pl sc)]) → zFO mem mem' → Q (mem' 234 1) mem') : Ci X D 180 [(2, 0)] rf mem Q := by
  obtain ⟨d, rfl⟩ : ∃ d, D = d + 1 := ⟨D - 1, by omega⟩
  obtain ⟨d, rfl⟩ : ∃ e, d = e + 1 := ⟨d - 1, by omega⟩
  have hN := hP.1.n
  have hW := hP.2.2.1
  have hsec := hW.sec
  have hcr := hP.1.cr
  have hl := hW.lamp
  unfold zic at hl
  refine s_c_image hX.r hX.p hX.f (s_images_write hX.r hX.p (zScn_23 hX.r) ?_)
  have f0 : zFO mem (zup mem 234 1 0) := fun i a b => zup_row _ _ _ a
  have hX0 := hX.fo f0
  have s0 : (zup mem 234 1 0) 23 0 = sc 0 0 := hX0.s 0 0 (by unfold zdom; omega)
  rw [s0]
  refine u_putTwo (l := []) hX.r (by omega) ⟨by rw [zup_at]; rfl, fun j hj => absurd hj (by simp)⟩ (by decide) (by omega) (fun m1 h1 f1 => ?_)
  have hX1 := hX0.fo f1
  have s1 : m1 23 1 = sc 0 1 := hX1.s 0 1 (by unfold zdom; omega)
  rw [s1]
  refine u_putCell hX.r (by omega) h1 (by simp) (by omega) (fun m2 h2 f2 => ?_)
  exact u_wr_23 hP (by omega) (L := aImg pl sc) (by rw [aImg_len]; omega) (aImg_rng hP) kk (pl 1 0).toNat (hX1.fo f2) (f0.trans (f1.trans f2)) h2 (by omega) (by omega) rfl
end IMGC
section IMGR
variable {X : zX} {rf mem : zF} {p : Nat} {pl sc ft : zF} {hs : Int → zF} {c f u : Int} {tb : Nat → Int} {N : Int} {d : Nat} {l : List Int}
theorem t_im_287 {Q : Int → zF → Prop} (hR : zall rf zRK = true) (hl : zOR mem l) (hn : l.length < 90) (hb : ∀ b ∈ l, 0 ≤ b ∧ b ≤ 255) (kk : ∀ mem', zOR mem' (l ++ [zchk 197 l]) → zFR mem mem' → Q (mem' 261 78) mem') : ∀ (r pre : List Int) (a : Int), l = pre ++ r → 0 ≤ a ∧ a < 251 → zchk a r = zchk 197 l → L_m_image_287 X d rf Q mem a (pre.length : Int)
  | [], pre, a, e, ha, hc => by
    have e1 : pre = l := by rw [e]; simp
    refine s_m_image_287 hR ?_
    rw [hl.1, e1]
    have hc2 : a = zchk 197 l := hc
    refine ⟨by omega, fun _ => t_writes (y := zchk 197 l) hR hl hn (by rw [← hc2]; omega) (fun m1 h1 f1 => kk m1 h1 f1), fun q => absurd q (by omega)⟩
  | b :: r, pre, a, e, ha, hc => by
    have len : l.length = pre.length + (r.length + 1) := by rw [e, List.length_append]; rfl
    have hbb := hb b (by rw [e]; simp)
    refine s_m_image_287 hR ?_
    have g : mem 314 (pre.length : Int).toNat = b := by
      rw [Int.toNat_natCast, hl.2 _ (by omega), e, zgd]
    rw [hl.1, g]
    refine ⟨by omega, fun q => absurd q (by omega), fun _ => ⟨by omega, by omega, ?_⟩⟩
    rw [Int.tmod_eq_emod_of_nonneg (by omega)]
    have := t_im_287 hR hl hn hb kk r (pre ++ [b]) ((5 * a + b) % 251) (by rw [e]; simp) (by omega) hc
    rw [zln] at this
    exact this
theorem t_im_229 {D : Nat} {Q : Int → zF → Prop} (hP : PX pl sc) {L : List Int} (hL : L.length < 90) (hb : ∀ b ∈ L, 0 ≤ b ∧ b ≤ 255) {m0 : zF} (kk : ∀ mem', zOR mem' (L ++ [zchk 197 L]) → zFR m0 mem' → Q (mem' 261 78) mem') : ∀ (n : Nat) {x : Int} {mem : zF} {l : List Int}, RX rf mem pl sc → zFR m0 mem → zOR mem l → 0 ≤ x → x + n = pl 1 2 → L = l ++ aIm (i4 sc) n x → L_m_image_229 X D rf Q mem x
  | 0, x, mem, l, hX, f0, hl, h0, hn, e => by
    have hN := hP.1.n
    have e1 : L = l := by rw [e]; unfold aIm; simp
    have hB := hX.2.1
    refine s_m_image_229 hX.1 ?_
    rw [hB.2.2.2.1.2.2.1]
    refine ⟨hB.1, by omega, fun _ => ?_, fun q => absurd (by omega) q⟩
    have := t_im_287 (X := X) (d := D) (Q := Q) hX.1 hl (by rw [← e1]; exact hL) (by rw [← e1]; exact hb) (fun m1 h1 f1 => kk m1 (by rw [e1]; exact h1) (f0.trans f1)) l [] 197 rfl (by decide) rfl
    exact this
  | n + 1, x, mem, l, hX, f0, hl, h0, hn, e => by
    have hN := hP.1.n
    have hW := hP.2.2.1
    have ho := hW.owner (k := x) (by omega)
    have hr := hW.rent (k := x) (by omega)
    have len : L.length = l.length + (3 + 3 * n) := by rw [e]; unfold aIm; rw [List.length_append, List.length_append, aIm_len (f := i4 sc) (m := 3) (fun k => rfl)]; rfl
    have hB := hX.2.1
    have z0 : 6 * 0 + x = x := by omega
    have gt : ∀ {m : zF}, RX rf m pl sc → ∀ s, 2 ≤ s → s ≤ 7 → m (295 + s) x.toNat = sc s x.toNat := by
      intro m hm s s1 s2
      have := hm.2.2.2.2.1 s x s1 s2 h0 (by omega)
      rw [z0] at this
      exact this
    refine s_m_image_229 hX.1 ?_
    rw [hB.2.2.2.1.2.2.1, gt hX 6 (by decide) (by decide)]
    refine ⟨hB.1, by omega, fun q => absurd q (by omega), fun _ => ⟨by omega, t_writes (y := if sc 6 x.toNat = -1 then 255 else sc 6 x.toNat) hX.1 hl (by omega) (by split <;> omega) (fun m1 h1 f1 => ⟨by omega, ?_⟩)⟩⟩
    have hX1 := hX.rr f1
    rw [gt hX1 7 (by decide) (by decide)]
    refine t_writes (y := sc 7 x.toNat / 256) hX.1 h1 (by rw [zln]; omega) (by rw [zshr_div (by omega) (by decide)]; show sc 7 x.toNat / 256 % 256 = _; omega) (fun m2 h2 f2 => ⟨by omega, ?_⟩)
    have hX2 := hX1.rr f2
    rw [gt hX2 7 (by decide) (by decide)]
    refine t_writes (y := sc 7 x.toNat % 256) hX.1 h2 (by rw [zln, zln]; omega) rfl (fun m3 h3 f3 => ?_)
    refine t_im_229 hP hL hb kk n (hX2.rr f3) (f0.trans (f1.trans (f2.trans f3))) h3 (by omega) (by omega) ?_
    rw [e]
    show l ++ (i4 sc x ++ aIm (i4 sc) n (x + 1)) = _
    unfold i4
    rw [List.append_assoc, List.append_assoc, List.append_assoc]
    rfl
theorem t_im_150 {D : Nat} {Q : Int → zF → Prop} (hP : PX pl sc) {L : List Int} (hL : L.length < 90) (hb : ∀ b ∈ L, 0 ≤ b ∧ b ≤ 255) {m0 : zF} (kk : ∀ mem', zOR mem' (L ++ [zchk 197 L]) → zFR m0 mem' → Q (mem' 261 78) mem') : ∀ (n : Nat) {x : Int} {mem : zF} {l : List Int}, RX rf mem pl sc → zFR m0 mem → zOR mem l → 0 ≤ x → x + n = pl 1 2 → L = l ++ (aIm (i3 sc) n x ++ aIm (i4 sc) (pl 1 2).toNat 0) → L_m_image_150 X D rf Q mem x
  | 0, x, mem, l, hX, f0, hl, h0, hn, e => by
    have hN := hP.1.n
    have hB := hX.2.1
    refine s_m_image_150 hX.1 ?_
    rw [hB.2.2.2.1.2.2.1]
    refine ⟨hB.1, by omega, fun _ => ?_, fun q => absurd (by omega) q⟩
    exact t_im_229 hP hL hb kk (pl 1 2).toNat hX f0 hl (by omega) (by omega) e
  | n + 1, x, mem, l, hX, f0, hl, h0, hn, e => by
    have hN := hP.1.n
    have hW := hP.2.2.1
    have hc := hW.bubI (k := x) (by omega)
    have hfi := hW.film (k := x) (by omega)
    have hsi := hW.size (k := x) (by omega)
    have hde := hW.deeds (k := x) (by omega)
    have len : L.length = l.length + (5 + 5 * n + 3 * (pl 1 2).toNat) := by rw [e]; rw [List.length_append, List.length_append, aIm_len (f := i4 sc) (m := 3) (fun k => rfl), aIm_len (f := i3 sc) (m := 5) (fun k => rfl)]; omega
    have hB := hX.2.1
    have z0 : 6 * 0 + x = x := by omega
    have gt : ∀ {m : zF}, RX rf m pl sc → ∀ s, 2 ≤ s → s ≤ 7 → m (295 + s) x.toNat = sc s x.toNat := by
      intro m hm s s1 s2
      have := hm.2.2.2.2.1 s x s1 s2 h0 (by omega)
      rw [z0] at this
      exact this
    refine s_m_image_150 hX.1 ?_
    rw [hB.2.2.2.1.2.2.1, gt hX 2 (by decide) (by decide)]
    refine ⟨hB.1, by omega, fun q => absurd q (by omega), fun _ => ⟨by omega, t_partOf hX.1 hc (Or.inl rfl) (t_writes hX.1 hl (by omega) (zc1_part hc) (fun m1 h1 f1 => ⟨by omega, ?_⟩))⟩⟩
    have hX1 := hX.rr f1
    rw [gt hX1 2 (by decide) (by decide)]
    refine t_partOf hX.1 hc (Or.inr rfl) (t_writes hX.1 h1 (by rw [zln]; omega) (zc2_part hc) (fun m2 h2 f2 => ⟨by omega, ?_⟩))
    have hX2 := hX1.rr f2
    rw [gt hX2 3 (by decide) (by decide)]
    refine t_writes (y := sc 3 x.toNat) hX.1 h2 (by rw [zln, zln]; omega) (by omega) (fun m3 h3 f3 => ⟨by omega, ?_⟩)
    have hX3 := hX2.rr f3
    rw [gt hX3 4 (by decide) (by decide)]
    refine t_writes (y := sc 4 x.toNat) hX.1 h3 (by rw [zln, zln, zln]; omega) (by omega) (fun m4 h4 f4 => ⟨by omega, ?_⟩)
    have hX4 := hX3.rr f4
    rw [gt hX4 5 (by decide) (by decide)]
    refine t_writes (y := sc 5 x.toNat) hX.1 h4 (by rw [zln, zln, zln, zln]; omega) (by omega) (fun m5 h5 f5 => ?_)
    refine t_im_150 hP hL hb kk n (hX4.rr f5) (f0.trans (f1.trans (f2.trans (f3.trans (f4.trans f5))))) h5 (by omega) (by omega) ?_
    rw [e]
    show l ++ ((i3 sc x ++ aIm (i3 sc) n (x + 1)) ++ aIm (i4 sc) (pl 1 2).toNat 0) = _
    unfold i3
    rw [List.append_assoc, List.append_assoc, List.append_assoc, List.append_assoc, List.append_assoc, List.append_assoc]
    rfl
theorem t_im_101 {D : Nat} {Q : Int → zF → Prop} (hP : PX pl sc) {L : List Int} (hL : L.length < 90) (hb : ∀ b ∈ L, 0 ≤ b ∧ b ≤ 255) {m0 : zF} (kk : ∀ mem', zOR mem' (L ++ [zchk 197 L]) → zFR m0 mem' → Q (mem' 261 78) mem') : ∀ (n : Nat) {x : Int} {mem : zF} {l : List Int}, RX rf mem pl sc → zFR m0 mem → zOR mem l → 0 ≤ x → x + n = pl 1 1 → L = l ++ (aIm (i2 sc) n x ++ (aIm (i3 sc) (pl 1 2).toNat 0 ++ aIm (i4 sc) (pl 1 2).toNat 0)) → L_m_image_101 X D rf Q mem x
  | 0, x, mem, l, hX, f0, hl, h0, hn, e => by
    have hN := hP.1.n
    have hB := hX.2.1
    refine s_m_image_101 hX.1 ?_
    rw [hB.2.2.2.1.2.1]
    refine ⟨hB.1, by omega, fun _ => ?_, fun q => absurd (by omega) q⟩
    exact t_im_150 hP hL hb kk (pl 1 2).toNat hX f0 hl (by omega) (by omega) e
  | n + 1, x, mem, l, hX, f0, hl, h0, hn, e => by
    have hN := hP.1.n
    have hW := hP.2.2.1
    have hc := hW.heirI (k := x) (by omega)
    have len : L.length = l.length + (2 + 2 * n + 5 * (pl 1 2).toNat + 3 * (pl 1 2).toNat) := by rw [e]; rw [List.length_append, List.length_append, List.length_append, aIm_len (f := i4 sc) (m := 3) (fun k => rfl), aIm_len (f := i3 sc) (m := 5) (fun k => rfl), aIm_len (f := i2 sc) (m := 2) (fun k => rfl)]; omega
    have hB := hX.2.1
    have z0 : 6 * 0 + x = x := by omega
    have gt : ∀ {m : zF}, RX rf m pl sc → m 296 x.toNat = sc 1 x.toNat := by
      intro m hm
      have := hm.2.2.2.1 x h0 (by omega)
      rw [z0] at this
      exact this
    refine s_m_image_101 hX.1 ?_
    rw [hB.2.2.2.1.2.1, gt hX]
    refine ⟨hB.1, by omega, fun q => absurd q (by omega), fun _ => ⟨by omega, t_partOf hX.1 hc (Or.inl rfl) (t_writes hX.1 hl (by omega) (zc1_part hc) (fun m1 h1 f1 => ⟨by omega, ?_⟩))⟩⟩
    have hX1 := hX.rr f1
    rw [gt hX1]
    refine t_partOf hX.1 hc (Or.inr rfl) (t_writes hX.1 h1 (by rw [zln]; omega) (zc2_part hc) (fun m2 h2 f2 => ?_))
    refine t_im_101 hP hL hb kk n (hX1.rr f2) (f0.trans (f1.trans f2)) h2 (by omega) (by omega) ?_
    rw [e]
    show l ++ ((i2 sc x ++ aIm (i2 sc) n (x + 1)) ++ _) = _
    unfold i2
    rw [List.append_assoc, List.append_assoc, List.append_assoc]
    rfl
theorem t_im_58 {D : Nat} {Q : Int → zF → Prop} (hP : PX pl sc) {L : List Int} (hL : L.length < 90) (hb : ∀ b ∈ L, 0 ≤ b ∧ b ≤ 255) {m0 : zF} (kk : ∀ mem', zOR mem' (L ++ [zchk 197 L]) → zFR m0 mem' → Q (mem' 261 78) mem') : ∀ (n : Nat) {x : Int} {mem : zF} {l : List Int}, RX rf mem pl sc → zFR m0 mem → zOR mem l → 0 ≤ x → x + n = pl 1 0 → L = l ++ (aIm (i1 sc) n x ++ (aIm (i2 sc) (pl 1 1).toNat 0 ++ (aIm (i3 sc) (pl 1 2).toNat 0 ++ aIm (i4 sc) (pl 1 2).toNat 0))) → L_m_image_58 X D rf Q mem x
  | 0, x, mem, l, hX, f0, hl, h0, hn, e => by
    have hN := hP.1.n
    have hB := hX.2.1
    refine s_m_image_58 hX.1 ?_
    rw [hB.2.2.2.1.1]
    refine ⟨hB.1, by omega, fun _ => ?_, fun q => absurd (by omega) q⟩
    exact t_im_101 hP hL hb kk (pl 1 1).toNat hX f0 hl (by omega) (by omega) e
  | n + 1, x, mem, l, hX, f0, hl, h0, hn, e => by
    have hN := hP.1.n
    have hW := hP.2.2.1
    have len : L.length = l.length + (1 * (n + 1) + (2 * (pl 1 1).toNat + (5 * (pl 1 2).toNat + 3 * (pl 1 2).toNat))) := by rw [e]; rw [List.length_append, List.length_append, List.length_append, List.length_append, aIm_len (f := i4 sc) (m := 3) (fun k => rfl), aIm_len (f := i3 sc) (m := 5) (fun k => rfl), aIm_len (f := i2 sc) (m := 2) (fun k => rfl), aIm_len (f := i1 sc) (m := 1) (fun k => rfl)]
    have hB := hX.2.1
    have hz := zbit_01 hW.opn (k := x) (by omega)
    have go : ∀ m1, zOR m1 (l ++ [zbit (sc 0 2) x]) → zFR mem m1 → L_m_image_58 X D rf Q m1 (x + 1) := by
      intro m1 h1 f1
      refine t_im_58 hP hL hb kk n (hX.rr f1) (f0.trans f1) h1 (by omega) (by omega) ?_
      rw [e]
      show l ++ ((i1 sc x ++ aIm (i1 sc) n (x + 1)) ++ _) = _
      unfold i1
      rw [List.append_assoc, List.append_assoc]
    refine s_m_image_58 hX.1 ?_
    have e5 : mem 295 0 = sc 0 2 := hX.2.2.1.2.2.1
    rw [hB.2.2.2.1.1, e5]
    refine ⟨hB.1, by omega, fun q => absurd q (by omega), fun _ => t_has2 hX.1 hW.opn (by omega) ⟨by omega, fun q => ?_, fun q => ?_⟩⟩
    · exact t_writes (y := zbit (sc 0 2) x) hX.1 hl (by omega) (by omega) go
    · exact t_writes (y := zbit (sc 0 2) x) hX.1 hl (by omega) (by omega) go
theorem t_image {D : Nat} {Q : Int → zF → Prop} (hX : RX rf mem pl sc) (hP : PX pl sc) (hD : 3 ≤ D) (kk : ∀ mem', zOR mem' (aImg pl sc ++ [zchk 197 (aImg pl sc)]) → zFR mem mem' → Q (mem' 261 78) mem') : Ci X D 308 [(2, 261)] rf mem Q := by
  obtain ⟨d, rfl⟩ : ∃ d, D = d + 1 := ⟨D - 1, by omega⟩
  have hN := hP.1.n
  have hW := hP.2.2.1
  have hsec := hW.sec
  have hcr := hP.1.cr
  have hl := hW.lamp
  unfold zic at hl
  have f0 : zFR mem (zup mem 261 78 0) := ⟨fun i a b => zup_row _ _ _ a, fun j a => zup_ne _ _ _ _ a⟩
  have hX0 := hX.rr f0
  have g3 : ∀ {m : zF}, RX rf m pl sc → m 293 0 = sc 0 0 := fun hm => hm.2.2.1.1
  have g4 : ∀ {m : zF}, RX rf m pl sc → m 294 0 = sc 0 1 := fun hm => hm.2.2.1.2.1
  refine s_m_image hX.1 ?_
  rw [g3 hX]
  refine t_writes (l := []) (y := sc 0 0 / 256) hX.1 ⟨by rw [zup_at]; rfl, fun j hj => absurd hj (by simp)⟩ (by decide) (by rw [zshr_div (by omega) (by decide)]; show sc 0 0 / 256 % 256 = _; omega) (fun m1 h1 f1 => ?_)
  have hX1 := hX0.rr f1
  rw [g3 hX1]
  refine t_writes (y := sc 0 0 % 256) hX.1 h1 (by rw [zln]; decide) rfl (fun m2 h2 f2 => ?_)
  have hX2 := hX1.rr f2
  rw [g4 hX2]
  refine t_partOf hX.1 (by omega) (Or.inl rfl) (t_writes hX.1 h2 (by rw [zln, zln]; decide) (zc1_part (by omega)) (fun m3 h3 f3 => ?_))
  have hX3 := hX2.rr f3
  rw [g4 hX3]
  refine t_partOf hX.1 (by omega) (Or.inr rfl) (t_writes hX.1 h3 (by rw [zln, zln, zln]; decide) (zc2_part (by omega)) (fun m4 h4 f4 => ?_))
  exact t_im_58 hP (L := aImg pl sc) (by rw [aImg_len]; omega) (aImg_rng hP) kk (pl 1 0).toNat (hX3.rr f4) (f0.trans (f1.trans (f2.trans (f3.trans f4)))) h4 (by omega) (by omega) rfl
theorem p_image (h : G rf mem p pl sc ft hs c f u tb N) (hd : 20 ≤ d) : zPR X rf d mem 180 [(2, 0)] 308 [(2, 261)] (fun m2 => GI rf m2 (N + 1)) := by
  obtain ⟨hX, hP, hR, hH, hS, hO⟩ := id h
  have hp := hX.e
  have hN := hP.1.n
  have hlen := @aImg_len pl sc
  have hrg := aImg_rng hP
  have hck := zchk_rng (aImg pl sc) (a := 197) (by decide)
  refine u_image hX hP (by omega) (fun m1 h1 f1 => t_image (hR.fo f1) hP (by omega) (fun m2 h2 f2 => ?_))
  have e1 : m1 234 1 = m2 261 78 := by rw [h1.1, h2.1]
  have l1 := h1.1
  rw [zln] at l1
  refine ⟨⟨by omega, by omega⟩, e1, p, pl, sc, ft, hs, c, f, u, tb, ?_⟩
  have r : ∀ i, i ≠ 234 → i ≠ 235 → i ≠ 261 → i ≠ 314 → m2 i = mem i := fun i a b c d => by rw [f2.1 i c d, f1 i a b]
  have s : ∀ j, j ≠ 78 → m2 261 j = mem 261 j := fun j a => by rw [f2.2 j a, f1 261 (by decide) (by decide)]
  refine (h.n (by omega : N ≤ N + 1)).core (fun i hi => r i (by omega) (by omega) (by omega) (by omega)) (fun j hj => s j (by omega)) (fun a ha => r a (by omega) (by omega) (by omega) (by omega)) ?_
  obtain ⟨g1, g2, g3, g4, g5, g6, g7⟩ := (h.n (by omega : N ≤ N + 1)).2.2.2.2.2.parts
  refine ⟨⟨g1.1, ?_, ?_⟩, ?_, ?_, ?_, ?_, ?_, ?_⟩
  · unfold FEc
    rw [r 35 (by decide) (by decide) (by decide) (by decide), r 48 (by decide) (by decide) (by decide) (by decide)]
    exact g1.2.1
  · unfold FEr
    rw [s 70 (by decide), r 308 (by decide) (by decide) (by decide) (by decide), r 309 (by decide) (by decide) (by decide) (by decide), r 310 (by decide) (by decide) (by decide) (by decide)]
    exact g1.2.2
  · unfold TP
    rw [r 1 (by decide) (by decide) (by decide) (by decide), r 2 (by decide) (by decide) (by decide) (by decide), s 1 (by decide), r 262 (by decide) (by decide) (by decide) (by decide)]
    exact g2
  · unfold IM
    rw [f2.1 234 (by decide) (by decide), f2.1 235 (by decide) (by decide), r 244 (by decide) (by decide) (by decide) (by decide)]
    refine ⟨e1, by omega, fun j hj => ?_, g3.2.2.2⟩
    have hj2 : j < (aImg pl sc ++ [zchk 197 (aImg pl sc)]).length := by
      rw [zln]
      omega
    rw [h1.2 j hj2, h2.2 j hj2]
    refine ⟨rfl, ?_⟩
    rw [zsn]
    by_cases e : j = (aImg pl sc).length
    · rw [if_pos e]; omega
    · rw [if_neg e]
      have hj3 : j < (aImg pl sc).length := by omega
      have := hrg ((aImg pl sc).getD j 0) (by rw [List.getD_eq_getElem?_getD, List.getElem?_eq_getElem hj3]; exact List.getElem_mem hj3)
      omega
  · unfold ST
    rw [r 245 (by decide) (by decide) (by decide) (by decide), r 292 (by decide) (by decide) (by decide) (by decide)]
    exact g4
  · unfold FL
    rw [r 3 (by decide) (by decide) (by decide) (by decide), s 10 (by decide), s 11 (by decide)]
    exact g5
  · intro s1 k a b c
    rw [s 13 (by decide), r (283 + s1) (by omega) (by omega) (by omega) (by omega)]
    exact g6 s1 k a b c
  · exact ⟨g7.1, fun j hj => by rw [r 5 (by decide) (by decide) (by decide) (by decide)]; exact g7.2 j hj⟩
end IMGR
