/-! doors -/
def aDoor1 (pl sc : zF) (dd h : Int) (n : Nat) (set best : Int) : Int :=
  if best ≠ -1 ∧ zpop best ≤ zpop set then best else if aRun pl n (zup sc 0 2 (zxor (sc 0 2) set)) 6 dd.toNat = h then set else best
def aDoors (pl sc : zF) (dd h n : Int) : Int := if (0 ≤ dd ∧ dd < pl 1 2) ∧ (0 ≤ h ∧ h < pl 1 1) ∧ (0 ≤ n ∧ n ≤ 20 ∧ sc 0 0 + n ≤ 999) then aIt (aDoor1 pl sc dd h n.toNat) 0 (zshl 1 (pl 1 0)).toNat (-1) else -1
theorem WS.s02 {pl sc : zF} (h : WS pl sc) {x : Int} (hx : 0 ≤ x ∧ x < 64) : WS pl (zup sc 0 2 x) := by
  refine h.s0 (fun s hs => zup_row _ _ _ (by omega)) ?_ ?_ ?_ (zup_ne _ _ _ _ (by decide))
  · rw [zup_ne _ _ _ _ (by decide)]; exact h.sec
  · rw [zup_ne _ _ _ _ (by decide)]; exact h.lamp
  · rw [zup_at]; exact hx
theorem WS.s01 {pl sc : zF} (h : WS pl sc) {x : Int} (hx : x = -1 ∨ zic (pl 0 1) (pl 0 2) x) : WS pl (zup sc 0 1 x) := by
  refine h.s0 (fun s hs => zup_row _ _ _ (by omega)) ?_ ?_ ?_ (zup_ne _ _ _ _ (by decide))
  · rw [zup_ne _ _ _ _ (by decide)]; exact h.sec
  · rw [zup_at]; exact hx
  · rw [zup_ne _ _ _ _ (by decide)]; exact h.opn
section DOORS
variable {X : zX} {p : Nat} {rf pl sc : zF}
theorem u_copyT {d : Nat} {Q : zF → Prop} {mem : zF} (hX : CX rf mem p pl sc) (kk : ∀ mem', SC mem' 39 sc → FS 39 mem mem' → Q mem') : Cv X d 86 [(2, 39), (2, 23)] rf mem Q :=
  u_copy (o := 39) (o2 := 23) hX.r (zScn_39 hX.r) (zScn_23 hX.r) (by omega) hX.s kk
theorem u_doors_28 {d : Nat} {Q : Int → zF → Prop} (hD : 5 ≤ d) (hP : PX pl sc) {dd h n nn : Int} (hd : 0 ≤ dd ∧ dd < 6) (hh : inI h) (hn : 0 ≤ n ∧ n ≤ 1000 ∧ sc 0 0 + n ≤ 999) (hnn : nn ≤ 64) : ∀ (m : Nat) {x best : Int} {mem : zF}, CX rf mem p pl sc → 0 ≤ x → x + m = nn → (best = -1 ∨ (0 ≤ best ∧ best < 64)) → (∀ mem', QC p mem mem' → Q (aIt (aDoor1 pl sc dd h n.toNat) x m best) mem') → L_seer_fewestDoors_28 X d rf Q mem p 23 dd h n best nn x
  | 0, x, best, mem, hX, h0, hx, hb, kk => s_seer_fewestDoors_28 hX.r hX.p (zScn_23 hX.r) ⟨by omega, fun _ => kk mem QC.rfl, fun q => absurd q (by omega)⟩
  | m + 1, x, best, mem, hX, h0, hx, hb, kk => by
    have hop := zxor_lt hP.2.2.1.opn (y := x) (by omega)
    unfold aIt at kk
    have g57 : ¬ (best ≠ -1 ∧ zpop best ≤ zpop x) → L_seer_fewestDoors_57 X d rf Q mem p 23 dd h n best nn x := by
      intro hc
      have ea : aDoor1 pl sc dd h n.toNat x best = if aRun pl n.toNat (zup sc 0 2 (zxor (sc 0 2) x)) 6 dd.toNat = h then x else best := by
        unfold aDoor1
        rw [if_neg hc]
      rw [ea] at kk
      refine s_seer_fewestDoors_57 hX.r hX.p (zScn_23 hX.r) (u_copyT hX ?_)
      intro m1 g1 f1
      rw [g1.z 2 (by decide)]
      have hs2 : SC (zup m1 39 2 (zxor (sc 0 2) x)) 39 (zup sc 0 2 (zxor (sc 0 2) x)) := g1.up0 2 _
      have hq2 : QC p mem (zup m1 39 2 (zxor (sc 0 2) x)) := (f1.trans (FS.rfl.up0)).qc
      have hX2 := hX.q hq2
      have hp := hX.e
      have hW2 := hP.2.2.1.s02 hop
      refine u_prepare (o := 39) (w := 36) hX.r (zWrk_36 hX.r) hX.p (zScn_39 hX.r) hP.1 (by omega) (by decide) (by omega) hW2.opn hX2.pc (hs2.z 2 (by decide)) ?_
      intro m2 f2 g2
      have hs3 : SC m2 39 (zup sc 0 2 (zxor (sc 0 2) x)) := hs2.fr (fun i h1 h2 => f2 i (by omega))
      have hq3 : QC p mem m2 := hq2.trans ⟨fun i a b c d => f2 i (by omega), by rw [f2 35 (by decide)]⟩
      refine u_run (hX.q hq3) hP.1 hP.2.1 hD (by omega) hs3 g2 hW2 (by rw [zup_ne _ _ _ _ (by decide)]; omega) ?_
      intro m3 g3 f3
      have hW3 := WS.run hP.1 n.toNat hW2 (by rw [zup_ne _ _ _ _ (by decide)]; omega)
      have e6 : m3 45 dd.toNat = aRun pl n.toNat (zup sc 0 2 (zxor (sc 0 2) x)) 6 dd.toNat := g3.i 6 (by decide) hd
      have ho := (hW3.owner hd).1
      have hN := hP.1.n
      have hq4 := hq3.trans (f3.qc hX.e)
      refine ⟨hd, ?_⟩
      rw [e6]
      refine ⟨⟨by omega, hh⟩, fun q => ?_, fun q => ?_⟩
      · rw [if_neg q] at kk
        exact u_doors_28 hD hP hd hh hn hnn m (hX.q hq4) (by omega) (by omega) hb (fun m4 f4 => kk m4 (hq4.trans f4))
      · rw [if_pos q] at kk
        exact u_doors_28 hD hP hd hh hn hnn m (hX.q hq4) (by omega) (by omega) (Or.inr (by omega)) (fun m4 f4 => kk m4 (hq4.trans f4))
    refine s_seer_fewestDoors_28 hX.r hX.p (zScn_23 hX.r) ⟨by omega, fun q => absurd q (by omega), fun _ => ⟨by omega, fun q => g57 (fun c => c.1 q), fun q => ?_⟩⟩
    have hx1 := zpop_rng (x := x) (by omega)
    have hx2 := zpop_rng (x := best) (by omega)
    refine u_bitCount hX.r (by omega) (u_bitCount hX.r (by omega) ⟨by omega, fun q2 => g57 (fun c => by omega), fun q2 => ?_⟩)
    have ea : aDoor1 pl sc dd h n.toNat x best = best := by
      unfold aDoor1
      rw [if_pos ⟨q, by omega⟩]
    rw [ea] at kk
    exact u_doors_28 hD hP hd hh hn hnn m hX (by omega) (by omega) hb kk
theorem u_doors {D : Nat} {Q : Int → zF → Prop} {mem : zF} (hX : CX rf mem p pl sc) (hP : PX pl sc) (hD : 7 ≤ D) {b h n : Int} (hb : inI b) (hh : inI h) (hn : inI n) (kk : ∀ mem', QC p mem mem' → Q (aDoors pl sc b h n) mem') : Ci X D 164 [(2, 0), (0, b), (0, h), (0, n)] rf mem Q := by
  obtain ⟨d, rfl⟩ : ∃ d, D = d + 1 := ⟨D - 1, by omega⟩
  obtain ⟨d, rfl⟩ : ∃ e, d = e + 1 := ⟨d - 1, by omega⟩
  have hN := hP.1.n
  have hsh := zshl_rng hN.1
  unfold aDoors at kk
  refine s_c_doors hX.r hX.p hX.f (u_isThere hX.r hX.p hX.pc hP.1 (by omega) (by decide) hb (fun q1 => ?_) (fun q1 => ?_))
  · have hb6 : 0 ≤ b ∧ b < 6 := ⟨q1.1, q1.2.1⟩
    have hb2 : b < pl 1 2 := q1.2.2.2.2
    refine ⟨by decide, fun q => absurd q (by decide), fun _ => u_isThere hX.r hX.p hX.pc hP.1 (by omega) (by decide) hh (fun q2 => ?_) (fun q2 => ?_)⟩
    · have hh2 : 0 ≤ h ∧ h < pl 1 1 := ⟨q2.1, q2.2.2.2.2⟩
      refine ⟨by decide, fun q => absurd q (by decide), fun _ => u_canPass hX hP hn (by decide) (by decide) (fun hc => ?_) (fun hc => ?_)⟩
      · refine ⟨by decide, fun _ => ?_, fun q => absurd q (by decide)⟩
        unfold zcan at hc
        refine s_seer_fewestDoors hX.r hX.p (zScn_23 hX.r) (u_isThere hX.r hX.p hX.pc hP.1 (by omega) (by decide) hb (fun _ => ?_) (fun q3 => absurd q1 q3))
        refine ⟨by decide, fun q => absurd q (by decide), fun _ => u_many hX.r hX.p hX.pc (by decide) ?_⟩
        rw [if_pos ⟨⟨hb6.1, hb2⟩, hh2, hc⟩] at kk
        show L_seer_fewestDoors_28 X d rf Q mem p 23 b h n (-1) (zshl 1 (pl 1 0)) 0
        exact u_doors_28 (by omega) hP hb6 hh (by omega) hsh.2 (zshl 1 (pl 1 0)).toNat hX (by omega) (by omega) (Or.inl rfl) kk
      · refine ⟨by decide, fun q => absurd rfl q, fun _ => ?_⟩
        have := kk mem QC.rfl
        rwa [if_neg (fun c => hc c.2.2)] at this
    · refine ⟨by decide, fun _ => ?_, fun q => absurd rfl q⟩
      have := kk mem QC.rfl
      rwa [if_neg (fun c => q2 ⟨c.2.1.1, by omega, by decide, by decide, c.2.1.2⟩)] at this
  · refine ⟨by decide, fun _ => ?_, fun q => absurd rfl q⟩
    have := kk mem QC.rfl
    rwa [if_neg (fun c => q1 ⟨c.1.1, by omega, by decide, by decide, c.1.2⟩)] at this
theorem t_copyT {d : Nat} {Q : zF → Prop} {mem : zF} (hX : RX rf mem pl sc) (hP : PX pl sc) (kk : ∀ mem', RV mem' 1 pl sc → RF 1 mem mem' → Q mem') : Cv X d 242 [(2, 261), (0, 1), (0, 0)] rf mem Q :=
  t_copies hX.1 hP.1 hP.2.2.1 (by decide) (by decide) (by decide) hX.2.2 kk
theorem t_doors_35 {d : Nat} {Q : Int → zF → Prop} (hD : 7 ≤ d) (hP : PX pl sc) {dd h n : Int} (hd : 0 ≤ dd ∧ dd < pl 1 2) (hh : inI h) (hn : 0 ≤ n ∧ n ≤ 1000 ∧ sc 0 0 + n ≤ 999) : ∀ (m : Nat) {x best : Int} {mem : zF}, RX rf mem pl sc → 0 ≤ x → x + m = zshl 1 (pl 1 0) → (best = -1 ∨ (0 ≤ best ∧ best < 64)) → (∀ mem', QR mem mem' → Q (aIt (aDoor1 pl sc dd h n.toNat) x m best) mem') → L_m_doors_35 X d rf Q mem dd h n best x
  | 0, x, best, mem, hX, h0, hx, hb, kk => by
    have hN := hP.1.n
    have hsh := zshl_rng hN.1
    refine s_m_doors_35 hX.1 ⟨hX.2.1.bank, ?_⟩
    rw [hX.2.1.n.1]
    exact ⟨by omega, fun _ => kk mem QR.rfl, fun q => absurd q (by omega)⟩
  | m + 1, x, best, mem, hX, h0, hx, hb, kk => by
    have hN := hP.1.n
    have hsh := zshl_rng hN.1
    have hop := zxor_lt hP.2.2.1.opn (y := x) (by omega)
    unfold aIt at kk
    have g57 : ¬ (best ≠ -1 ∧ zpop best ≤ zpop x) → L_m_doors_73 X d rf Q mem dd h n best x := by
      intro hc
      have ea : aDoor1 pl sc dd h n.toNat x best = if aRun pl n.toNat (zup sc 0 2 (zxor (sc 0 2) x)) 6 dd.toNat = h then x else best := by
        unfold aDoor1
        rw [if_neg hc]
      rw [ea] at kk
      refine s_m_doors_73 hX.1 (t_copyT hX hP ?_)
      intro m1 g1 f1
      have e5 : m1 295 1 = sc 0 2 := g1.1.2.2.1
      rw [e5]
      have hs2 : RV (zup m1 295 1 (zxor (sc 0 2) x)) 1 pl (zup sc 0 2 (zxor (sc 0 2) x)) := g1.up0 295 2 (Or.inr (Or.inr ⟨rfl, rfl⟩)) _
      have hF2 : RF 1 mem (zup m1 295 1 (zxor (sc 0 2) x)) := f1.up (by unfold zofv; omega)
      have hW2 := hP.2.2.1.s02 hop
      refine t_run hX.1 hD hP.1 hP.2.1 (by omega) (hF2.rp hX.2.1) hs2 hW2 (by rw [zup_ne _ _ _ _ (by decide)]; omega) ?_
      intro m3 g3 f3
      have hW3 := WS.run hP.1 n.toNat hW2 (by rw [zup_ne _ _ _ _ (by decide)]; omega)
      have e6 : m3 301 (6 + dd).toNat = aRun pl n.toNat (zup sc 0 2 (zxor (sc 0 2) x)) 6 dd.toNat := g3.b 6 (by decide) (by decide) hd.1 hd.2
      have ho := (hW3.owner (k := dd) (by omega)).1
      have hq4 := hF2.qr.trans f3.qr
      refine ⟨by omega, ?_⟩
      rw [e6]
      refine ⟨⟨by omega, hh⟩, fun q => ?_, fun q => ?_⟩
      · rw [if_neg q] at kk
        exact t_doors_35 hD hP hd hh hn m (hX.q hP hq4) (by omega) (by omega) hb (fun m4 f4 => kk m4 (hq4.trans f4))
      · rw [if_pos q] at kk
        exact t_doors_35 hD hP hd hh hn m (hX.q hP hq4) (by omega) (by omega) (Or.inr (by omega)) (fun m4 f4 => kk m4 (hq4.trans f4))
    refine s_m_doors_35 hX.1 ⟨hX.2.1.bank, ?_⟩
    rw [hX.2.1.n.1]
    refine ⟨by omega, fun q => absurd q (by omega), fun _ => ⟨by omega, fun q => g57 (fun c => c.1 q), fun q => ?_⟩⟩
    have hx1 := zpop_rng (x := x) (by omega)
    have hx2 := zpop_rng (x := best) (by omega)
    refine t_bits hX.1 (by omega) (t_bits hX.1 (by omega) ⟨by omega, fun q2 => g57 (fun c => by omega), fun q2 => ?_⟩)
    have ea : aDoor1 pl sc dd h n.toNat x best = best := by
      unfold aDoor1
      rw [if_pos ⟨q, by omega⟩]
    rw [ea] at kk
    exact t_doors_35 hD hP hd hh hn m hX (by omega) (by omega) hb kk
theorem t_doors {D : Nat} {Q : Int → zF → Prop} {mem : zF} (hX : RX rf mem pl sc) (hP : PX pl sc) (hD : 8 ≤ D) {b h n : Int} (hb : inI b) (hh : inI h) (hn : inI n) (kk : ∀ mem', QR mem mem' → Q (aDoors pl sc b h n) mem') : Ci X D 288 [(2, 261), (0, b), (0, h), (0, n)] rf mem Q := by
  obtain ⟨d, rfl⟩ : ∃ d, D = d + 1 := ⟨D - 1, by omega⟩
  have hN := hP.1.n
  have hc0 := hP.1.c0
  have hsh := zshl_rng hN.1
  unfold aDoors at kk
  refine s_m_doors hX.1 (t_isBubble hX hP.1 hb (fun q1 => ?_) (fun q1 => ?_))
  · refine ⟨by decide, fun q => absurd q (by decide), fun _ => t_isHeir hX hP.1 hh (fun q2 => ?_) (fun q2 => ?_)⟩
    · refine ⟨by decide, fun q => absurd q (by decide), fun _ => t_isAhead hX hP (by omega) hn (by decide) (by decide) (fun hc => ?_) (fun hc => ?_) (by decide)⟩
      · have hc2 := hc.2
        unfold zcan at hc2
        rw [if_pos ⟨q1, q2, hc2⟩] at kk
        exact ⟨by decide, fun _ => t_doors_35 (by omega) hP q1 hh (by omega) (zshl 1 (pl 1 0)).toNat hX (by omega) (by omega) (Or.inl rfl) kk, fun q => absurd q (by decide)⟩
      · refine ⟨by decide, fun q => absurd rfl q, fun _ => ?_⟩
        have := kk mem QR.rfl
        rwa [if_neg (fun c => hc ⟨by omega, c.2.2⟩)] at this
    · refine ⟨by decide, fun _ => ?_, fun q => absurd rfl q⟩
      have := kk mem QR.rfl
      rwa [if_neg (fun c => q2 c.2.1)] at this
  · refine ⟨by decide, fun _ => ?_, fun q => absurd rfl q⟩
    have := kk mem QR.rfl
    rwa [if_neg (fun c => q1 c.1)] at this
end DOORS
