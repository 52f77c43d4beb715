/-! numbers of the machine; undo, end, seed, seconds, chance -/
theorem zlan_m31 {x : Int} (h : 0 ≤ x ∧ x < 9223372036854775808) : zlan x 2147483647 = x % 2147483648 := by
  have e1 : zlan x 2147483647 = (BitVec.ofInt 64 x &&& BitVec.ofInt 64 2147483647).toInt := rfl
  have p64 : ((2 ^ 64 : Nat) : Int) = 18446744073709551616 := rfl
  have e2 : (BitVec.ofInt 64 x &&& BitVec.ofInt 64 2147483647).toNat = x.toNat % 2147483648 := by
    rw [BitVec.toNat_and, BitVec.toNat_ofInt, BitVec.toNat_ofInt, p64]
    have a : (x % 18446744073709551616).toNat = x.toNat := by omega
    have b : ((2147483647 : Int) % 18446744073709551616).toNat = 2 ^ 31 - 1 := by decide
    rw [a, b, Nat.and_two_pow_sub_one_eq_mod]
  have p64n : (2 : Nat) ^ 64 = 18446744073709551616 := rfl
  rw [e1, BitVec.toInt_eq_toNat_of_lt (by rw [e2, p64n]; omega), e2]
  omega
theorem zand255 (x : Int) : zand x 255 = x % 256 := by
  have e1 : zand x 255 = (BitVec.ofInt 32 x &&& BitVec.ofInt 32 255).toInt := rfl
  have p32 : ((2 ^ 32 : Nat) : Int) = 4294967296 := rfl
  have e2 : (BitVec.ofInt 32 x &&& BitVec.ofInt 32 255).toNat = (x % 4294967296).toNat % 256 := by
    rw [BitVec.toNat_and, BitVec.toNat_ofInt, BitVec.toNat_ofInt, p32]
    have b : ((255 : Int) % 4294967296).toNat = 2 ^ 8 - 1 := by decide
    rw [b, Nat.and_two_pow_sub_one_eq_mod]
  have p32n : (2 : Nat) ^ 32 = 4294967296 := rfl
  rw [e1, BitVec.toInt_eq_toNat_of_lt (by rw [e2, p32n]; omega), e2]
  omega
theorem zi2b_mod (x : Int) : zi2b x = (x.bmod 4294967296).bmod 256 := by
  unfold zi2b
  rw [Int8.toInt_toInt32, Int32.toInt_toInt8, Int32.toInt_ofInt]
theorem zi2b_rng (x : Int) : -128 ≤ zi2b x ∧ zi2b x < 128 := by
  rw [zi2b_mod]
  have h1 := Int.le_bmod (x := x.bmod 4294967296) (m := 256) (by decide)
  have h2 := Int.bmod_lt (x := x.bmod 4294967296) (m := 256) (by decide)
  omega
theorem zi2b_255 (x : Int) : zand (zi2b x) 255 = zand x 255 := by
  rw [zand255, zand255, zi2b_mod]
  have h1 : (x.bmod 4294967296).bmod 256 % 256 = x.bmod 4294967296 % 256 := Int.bmod_emod
  have h2 : x.bmod 4294967296 % 4294967296 = x % 4294967296 := Int.bmod_emod
  omega
def zsd (s : Int) : Int := (1103515245 * s + 12345) % 2147483648
theorem zsd_rng (s : Int) : 0 ≤ zsd s ∧ zsd s < 2147483648 := by
  unfold zsd
  omega
section TIME
variable {X : zX} {rf mem : zF} {p : Nat} {pl sc ft : zF} {hs : Int → zF} {c f u : Int} {tb : Nat → Int} {N : Int} {d : Nat}
theorem u_draw {Q : Int → zF → Prop} (hX : CX rf mem p pl sc) {s m : Int} (hs0 : mem 0 9 = s) (hs : 0 ≤ s ∧ s < 2147483648) (hm : 1 ≤ m ∧ m ≤ 100) (kk : Q (zsd s / 64 % m) (zup mem 0 9 (zsd s))) : Ci X d 192 [(2, 0), (0, m)] rf mem Q := by
  have hz := zsd_rng s
  refine s_c_draw hX.r hX.p hX.f ?_
  rw [hs0, zlan_m31 (by omega)]
  have e1 : ((1103515245 * s + 12345) % 2147483648).tdiv 64 = zsd s / 64 := Int.tdiv_eq_ediv_of_nonneg hz.1
  rw [e1, Int.tmod_eq_emod_of_nonneg (by omega)]
  refine ⟨by omega, by omega, fun q => absurd q (by omega), fun _ => ⟨?_, ⟨by omega, by omega, by omega⟩, kk⟩⟩
  show inI (zsd s)
  omega
theorem t_draw {Q : Int → zF → Prop} (hR : zall rf zRK = true) {s m : Int} (hs0 : mem 261 66 = s) (hs : 0 ≤ s ∧ s < 2147483648) (hm : 1 ≤ m ∧ m ≤ 100) (kk : Q (zsd s / 64 % m) (zup mem 261 66 (zsd s))) : Ci X d 300 [(2, 261), (0, m)] rf mem Q := by
  have hz := zsd_rng s
  refine s_m_draw hR ?_
  rw [hs0, Int.tmod_eq_emod_of_nonneg (a := 1103515245 * s + 12345) (by omega)]
  have e1 : ((1103515245 * s + 12345) % 2147483648).tdiv 64 = zsd s / 64 := Int.tdiv_eq_ediv_of_nonneg hz.1
  rw [e1, Int.tmod_eq_emod_of_nonneg (a := zsd s / 64) (by omega)]
  refine ⟨by omega, ?_, by omega, ⟨by omega, by omega, by omega⟩, kk⟩
  show inL (zsd s)
  omega
/-! n seconds, with or without the seed -/
def aGone (pl : zF) (by1 : Bool) (s : Int) (sc : zF) : Int × Int × Int × zF :=
  if by1 = true ∧ zsd s / 64 % 100 < pl 0 4 then (1, (aPass pl (zwind pl (sc 0 2)) (zsd (zsd s) / 64 % 4) sc).1, zsd (zsd s), (aPass pl (zwind pl (sc 0 2)) (zsd (zsd s) / 64 % 4) sc).2)
  else (0, (aPass pl (zwind pl (sc 0 2)) (-1) sc).1, if by1 = true then zsd s else s, (aPass pl (zwind pl (sc 0 2)) (-1) sc).2)
def aGoBy (pl : zF) (by1 : Bool) : Nat → Int → Int → Int → zF → Int × Int × Int × zF
  | 0, br, bu, s, sc => (br, bu, s, sc)
  | n + 1, br, bu, s, sc => aGoBy pl by1 n (br + (aGone pl by1 s sc).1) (bu + (aGone pl by1 s sc).2.1) (aGone pl by1 s sc).2.2.1 (aGone pl by1 s sc).2.2.2
theorem aGone_sc {by1 : Bool} {s : Int} : ∃ w : Int, -1 ≤ w ∧ w < 4 ∧ (aGone pl by1 s sc).2.2.2 = (aPass pl (zwind pl (sc 0 2)) w sc).2 ∧ (aGone pl by1 s sc).2.1 = (aPass pl (zwind pl (sc 0 2)) w sc).1 := by
  unfold aGone
  split
  · exact ⟨_, by omega, by omega, rfl, rfl⟩
  · exact ⟨-1, by decide, by decide, rfl, rfl⟩
theorem aGone_s {by1 : Bool} {s : Int} (hs : 0 ≤ s ∧ s < 2147483648) : 0 ≤ (aGone pl by1 s sc).2.2.1 ∧ (aGone pl by1 s sc).2.2.1 < 2147483648 := by
  unfold aGone
  have h1 := zsd_rng s
  have h2 := zsd_rng (zsd s)
  split
  · exact h2
  · dsimp only
    split
    · exact h1
    · exact hs
theorem aGone_n {by1 : Bool} {s : Int} : (0 ≤ (aGone pl by1 s sc).1 ∧ (aGone pl by1 s sc).1 ≤ 1) ∧ (0 ≤ (aGone pl by1 s sc).2.1 ∧ (aGone pl by1 s sc).2.1 ≤ 6) := by
  obtain ⟨w, _, _, _, e⟩ := aGone_sc (pl := pl) (sc := sc) (by1 := by1) (s := s)
  refine ⟨?_, ?_⟩
  · unfold aGone
    split
    · dsimp only; omega
    · dsimp only; omega
  · rw [e]
    exact aThins_rng
theorem WS.gone {by1 : Bool} {s : Int} (hP : WP pl) (hW : WS pl sc) (h9 : sc 0 0 ≤ 999) : WS pl (aGone pl by1 s sc).2.2.2 ∧ (aGone pl by1 s sc).2.2.2 0 0 = sc 0 0 + 1 ∧ (aGone pl by1 s sc).2.2.2 0 2 = sc 0 2 := by
  obtain ⟨w, _, _, e, _⟩ := aGone_sc (pl := pl) (sc := sc) (by1 := by1) (s := s)
  rw [e]
  exact ⟨hW.pass hP _ _ h9, aPass_sec, aPass_r0 (by decide) (by decide)⟩
theorem aGoBy_ok {by1 : Bool} (hP : WP pl) : ∀ (n : Nat) {br bu s : Int} {sc : zF}, WS pl sc → sc 0 0 + n ≤ 999 → (0 ≤ s ∧ s < 2147483648) → (0 ≤ br ∧ 0 ≤ bu) → WS pl (aGoBy pl by1 n br bu s sc).2.2.2 ∧ (aGoBy pl by1 n br bu s sc).2.2.2 0 0 ≤ 999 ∧ (0 ≤ (aGoBy pl by1 n br bu s sc).2.2.1 ∧ (aGoBy pl by1 n br bu s sc).2.2.1 < 2147483648) ∧ (0 ≤ (aGoBy pl by1 n br bu s sc).1 ∧ (aGoBy pl by1 n br bu s sc).1 ≤ br + n) ∧ (0 ≤ (aGoBy pl by1 n br bu s sc).2.1 ∧ (aGoBy pl by1 n br bu s sc).2.1 ≤ bu + 6 * n)
  | 0, br, bu, s, sc, hW, h9, hs, hb => by
    unfold aGoBy
    exact ⟨hW, by show sc 0 0 ≤ 999; omega, hs, by show 0 ≤ br ∧ br ≤ br + ((0 : Nat) : Int); omega, by show 0 ≤ bu ∧ bu ≤ bu + 6 * ((0 : Nat) : Int); omega⟩
  | n + 1, br, bu, s, sc, hW, h9, hs, hb => by
    have h1 := WS.gone (by1 := by1) (s := s) hP hW (by omega)
    have h2 := aGone_s (pl := pl) (sc := sc) (by1 := by1) hs
    have h3 := aGone_n (pl := pl) (sc := sc) (by1 := by1) (s := s)
    have ih := aGoBy_ok (by1 := by1) hP n (br := br + (aGone pl by1 s sc).1) (bu := bu + (aGone pl by1 s sc).2.1) (s := (aGone pl by1 s sc).2.2.1) h1.1 (by rw [h1.2.1]; omega) h2 (by omega)
    unfold aGoBy
    exact ⟨ih.1, ih.2.1, ih.2.2.1, by omega, by omega⟩
/-- class rows that passing seconds may change -/
def CF (p : Nat) (mem mem' : zF) : Prop := (∀ i, (i < 23 ∨ 31 < i) → i ≠ 34 → i ≠ 0 → i ≠ p + 9 → i ≠ p + 13 → i ≠ p + 14 → mem' i = mem i) ∧ ∀ j, j ≠ 9 → mem' 0 j = mem 0 j
theorem CF.trans {m1 m2 m3 : zF} (h1 : CF p m1 m2) (h2 : CF p m2 m3) : CF p m1 m3 := ⟨fun i a b c d e f => (h2.1 i a b c d e f).trans (h1.1 i a b c d e f), fun j a => (h2.2 j a).trans (h1.2 j a)⟩
theorem CF.rfl {mem : zF} : CF p mem mem := ⟨fun _ _ _ _ _ _ _ => Eq.refl _, fun _ _ => Eq.refl _⟩
theorem FP.cf {m1 m2 : zF} (h : FP p 32 23 m1 m2) (hp : p = 8 ∨ p = 246) : CF p m1 m2 := ⟨fun i a b _ c d e => h i (by omega) (by omega) c d e, fun j _ => by rw [h 0 (by omega) (by omega) (by omega) (by omega) (by omega)]⟩
theorem CX.cf {m1 m2 s1 : zF} (h : CX rf m1 p pl sc) (hc : CF p m1 m2) (hs : SC m2 23 s1) : CX rf m2 p pl s1 := by
  have hp := h.e
  exact ⟨h.1, h.pc.fr (fun s h1 h2 => hc.1 _ (by omega) (by omega) (by omega) (by omega) (by omega) (by omega)), hs⟩
theorem u_goBy_61 {by1 : Bool} {Q : Int → zF → Prop} (hD : 6 ≤ d) (hP : WP pl) (hrk : WR3 pl) {nn : Int} (hnn : nn ≤ 40) : ∀ (n : Nat) {x br bu s op : Int} {mem sc : zF}, CX rf mem p pl sc → WS pl sc → WR mem 32 (zwind pl op) → sc 0 2 = op → sc 0 0 + n ≤ 999 → mem 0 9 = s → (0 ≤ s ∧ s < 2147483648) → 0 ≤ x → x + n = nn → (∀ mem', SC mem' 23 (aGoBy pl by1 n br bu s sc).2.2.2 → mem' 0 9 = (aGoBy pl by1 n br bu s sc).2.2.1 → CF p mem mem' → Q (if by1 = true then (aGoBy pl by1 n br bu s sc).1 else (aGoBy pl by1 n br bu s sc).2.1) mem') → L_c_goBy_61 X d rf Q mem p nn (if by1 = true then 1 else 0) br bu x
  | 0, x, br, bu, s, op, mem, sc, hX, hW, hr, ho, h9, hs0, hs, h0, hx, kk => by
    have := kk mem hX.s hs0 CF.rfl
    unfold aGoBy at this
    refine s_c_goBy_61 hX.r hX.p hX.f ⟨by omega, fun _ => ?_, fun q => absurd q (by omega)⟩
    cases by1 with
    | true => exact ⟨by decide, fun q => absurd q (by decide), fun _ => this⟩
    | false => exact ⟨by decide, fun _ => this, fun q => absurd rfl q⟩
  | n + 1, x, br, bu, s, op, mem, sc, hX, hW, hr, ho, h9, hs0, hs, h0, hx, kk => by
    subst ho
    have hp := hX.e
    have hdj : DJ p 32 23 := by unfold DJ; omega
    have hb := hP.breath
    unfold aGoBy at kk
    have hW1 := WS.gone (by1 := by1) (s := s) hP hW (by omega)
    -- behind the draws
    have g : ∀ (m1 : zF) (w b1 s1 : Int), -1 ≤ w ∧ w < 4 → CX rf m1 p pl sc → WR m1 32 (zwind pl (sc 0 2)) → m1 0 9 = s1 → CF p mem m1 → aGone pl by1 s sc = (b1, (aPass pl (zwind pl (sc 0 2)) w sc).1, s1, (aPass pl (zwind pl (sc 0 2)) w sc).2) → L_c_goBy_121 X d rf Q m1 p nn (if by1 = true then 1 else 0) bu x w br b1 := by
      intro m1 w b1 s1 hw hX1 hr1 hs1 hc1 ea
      rw [ea] at kk hW1
      refine s_c_goBy_121 hX.r hX.p hX.f ?_
      refine u_pass (o := 23) (w := 32) hX.r hX.p hX.u (zWrk_32 hX.r) (zScn_23 hX.r) hdj (by omega) hP hrk (zwind_rng hP (sc 0 2)) (fun c hc => zwind_neg hP (sc 0 2) hc) hw hX1.pc hX1.s hr1 hW (by omega) ?_
      intro m2 g2 f2
      have hc2 := f2.cf hp
      have hX2 : CX rf m2 p pl (aPass pl (zwind pl (sc 0 2)) w sc).2 := hX1.cf hc2 g2
      refine u_goBy_61 hD hP hrk hnn (op := sc 0 2) (s := s1) n hX2 hW1.1 (f2.wr hdj hr1) hW1.2.2 (by have := hW1.2.1; dsimp only at this; rw [this]; omega) (by rw [← hs1, f2 0 (by omega) (by omega) (by omega) (by omega) (by omega)]) ?_ (by omega) (by omega) ?_
      · have := aGone_s (pl := pl) (sc := sc) (by1 := by1) hs
        rw [ea] at this
        exact this
      · intro m3 g3 g4 f3
        exact kk m3 g3 g4 ((hc1.trans hc2).trans f3)
    have g108 : ∀ (m1 : zF) (w b1 s1 : Int), (b1 = 0 ∨ b1 = 1) → -1 ≤ w ∧ w < 4 → CX rf m1 p pl sc → WR m1 32 (zwind pl (sc 0 2)) → m1 0 9 = s1 → CF p mem m1 → aGone pl by1 s sc = (b1, (aPass pl (zwind pl (sc 0 2)) w sc).1, s1, (aPass pl (zwind pl (sc 0 2)) w sc).2) → L_c_goBy_108 X d rf Q m1 p nn (if by1 = true then 1 else 0) br bu x b1 w := by
      intro m1 w b1 s1 hb1 hw hX1 hr1 hs1 hc1 ea
      refine s_c_goBy_108 hX.r hX.p hX.f ⟨by omega, fun q => ?_, fun q => ?_⟩
      · subst q
        exact g m1 w 0 s1 hw hX1 hr1 hs1 hc1 ea
      · have e1 : b1 = 1 := by omega
        subst e1
        exact g m1 w 1 s1 hw hX1 hr1 hs1 hc1 ea
    have draw : ∀ (m1 : zF) (v : Int), CX rf m1 p pl sc → WR m1 32 (zwind pl (sc 0 2)) → CX rf (zup m1 0 9 v) p pl sc ∧ WR (zup m1 0 9 v) 32 (zwind pl (sc 0 2)) ∧ (zup m1 0 9 v) 0 9 = v ∧ CF p m1 (zup m1 0 9 v) := by
      intro m1 v hX1 hr1
      have hc : CF p m1 (zup m1 0 9 v) := ⟨fun i _ _ hi _ _ _ => zup_row _ _ _ hi, fun j hj => zup_ne _ _ _ _ hj⟩
      refine ⟨hX1.cf hc (hX1.s.fr (fun i i1 i2 => zup_row _ _ _ (by omega))), fun c c1 c2 => ?_, zup_at _ _ _ _, hc⟩
      rw [zup_row _ _ _ (by omega)]
      exact hr1 c c1 c2
    refine s_c_goBy_61 hX.r hX.p hX.f ⟨by omega, fun q => absurd q (by omega), fun _ => ?_⟩
    cases hby : by1 with
    | false =>
      rw [hby] at g108
      refine ⟨by decide, fun _ => s_c_goBy_92 hX.r hX.p hX.f ⟨by decide, fun _ => ?_, fun q => absurd rfl q⟩, fun q => absurd rfl q⟩
      refine g108 mem (-1) 0 s (Or.inl rfl) (by decide) hX hr hs0 CF.rfl ?_
      unfold aGone
      rw [if_neg (by simp), if_neg (by decide)]
    | true =>
      rw [hby] at g108
      refine ⟨by decide, fun q => absurd q (by decide), fun _ => u_draw hX hs0 hs (by decide) ?_⟩
      obtain ⟨dx, dr, d9, dc⟩ := draw mem (zsd s) hX hr
      have hz := zsd_rng s
      have hpb : (zup mem 0 9 (zsd s)) p 4 = pl 0 4 := by rw [dx.pc.r0]
      rw [hpb]
      refine ⟨by omega, fun q => ?_, fun q => ?_⟩
      · refine s_c_goBy_92 hX.r hX.p hX.f ⟨by decide, fun _ => ?_, fun q => absurd rfl q⟩
        refine g108 _ (-1) 0 (zsd s) (Or.inl rfl) (by decide) dx dr d9 dc ?_
        unfold aGone
        rw [if_neg (fun c => by omega), if_pos rfl]
      · refine s_c_goBy_92 hX.r hX.p hX.f ⟨by decide, fun q => absurd q (by decide), fun _ => u_draw dx d9 hz (by decide) ?_⟩
        obtain ⟨dx2, dr2, d92, dc2⟩ := draw _ (zsd (zsd s)) dx dr
        have hz2 := zsd_rng (zsd s)
        refine g108 _ _ 1 (zsd (zsd s)) (Or.inr rfl) (by omega) dx2 dr2 d92 (dc.trans dc2) ?_
        unfold aGone
        rw [if_pos ⟨rfl, by omega⟩]
end TIME
