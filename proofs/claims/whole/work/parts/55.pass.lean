/-! the program's thinOne and pass -/
theorem zwind_neg {pl : zF} (hP : WP pl) (op : Int) {c : Int} (hc : c < 0) : zwind pl op c = -1 := by
  have hn := hP.n
  have hcr := hP.cr
  unfold zwind
  rw [if_pos]
  unfold zwdoor
  refine aFd_no _ _ (fun k k1 k2 => ?_)
  have hd := hP.door (k := k) k1 (by omega)
  cases h : zblown pl k c with
  | false => simp
  | true =>
    have := zbl_in hcr.1.2 hcr.2.2 _ _ (Or.inr hd.1) h
    unfold zic at this
    omega
section PASS
variable {X : zX} {p w o : Nat} {rf pl : zF}
theorem u_thin_227 {d : Nat} {Q : Int → zF → Prop} (hR : zall rf zRK = true) (hp : zPln rf p) (hw : zWrk rf w) (ho : zScn rf o) (hD : 1 ≤ d) {b v : Int} (hb : 0 ≤ b ∧ b < 6) (hv : inI v) {mem sc : zF} (hs : SC mem o sc) (hW : WS pl sc) (kk : ∀ mem', SC mem' o (aRent b (max 0 (min 9 v)) sc) → FS o mem mem' → Q 0 mem') : L_works_thinOne_227 X d rf Q mem w p o b v := by
  refine s_works_thinOne_227 hR hw hp ho ?_
  refine u_min hR (by decide) hv (u_max hR (by decide) (by omega) ?_)
  exact u_addRent hR ho hD hs hW hb (by omega) kk
theorem u_thin_149 {d : Nat} {Q : Int → zF → Prop} (hR : zall rf zRK = true) (hp : zPln rf p) (hu : zRul rf (p + 9)) (hw : zWrk rf w) (ho : zScn rf o) (hj : DJ p w o) (hD : 2 ≤ d) (hWP : WP pl) (hrk : WR3 pl) {b : Int} (hb : 0 ≤ b ∧ b < 6) {mem sc : zF} (hP : PC mem p pl) (hs : SC mem o sc) (hW : WS pl sc) (hf : sc 2 b.toNat ≠ -1) (hdr : 0 ≤ sc 9 b.toNat ∧ sc 9 b.toNat ≤ 1) (hq : ∀ j : Nat, j < 4 → mem (p + 13) j = aQ pl sc b j) (kk : ∀ mem', SC mem' o (aThin2 pl b sc).2 → FT p o mem mem' → Q (aThin2 pl b sc).1 mem') : L_works_thinOne_149 X d rf Q mem w p o b (sc 3 b.toNat) (aHeirIn sc (sc 2 b.toNat)) (-5) (aTall pl sc b) := by
  have hj2 := hj
  unfold DJ at hj2
  have hfi := hW.film hb
  refine s_works_thinOne_149 hR hw hp ho (u_setQ hR hu (by decide) ?_)
  have e4 : ((-1 : Int) - -5).toNat = 4 := rfl
  rw [e4]
  have hP1 : PC (zup mem (p + 9 + 4) 4 (aTall pl sc b)) p pl := hP.fr (fun s h1 h2 => zup_row _ _ _ (by omega))
  have hs1 : SC (zup mem (p + 9 + 4) 4 (aTall pl sc b)) o sc := hs.fr (fun i h1 h2 => zup_row _ _ _ (by omega))
  have hq1 : ∀ j : Nat, j < 5 → (zup mem (p + 9 + 4) 4 (aTall pl sc b)) (p + 13) j = aQ pl sc b j := by
    intro j j1
    rw [zup_get]
    by_cases e : j = 4
    · rw [if_pos ⟨by omega, e⟩, e]
      rfl
    · rw [if_neg (fun q => e q.2)]
      exact hq j (by omega)
  have hF1 : FT p o mem (zup mem (p + 9 + 4) 4 (aTall pl sc b)) := fun i i1 i3 i4 i5 => zup_row _ _ _ (by omega)
  generalize zup mem (p + 9 + 4) 4 (aTall pl sc b) = m1 at hP1 hs1 hq1 hF1
  have hbu : (∀ mem' , SC mem' o (aBurst b (aHeirIn sc (sc 2 b.toNat)) sc) → FT p o mem mem' → Q 1 mem') → ∀ m2 : zF, SC m2 o sc → FT p o mem m2 → Cv X d 94 [(2, o), (0, b), (0, aHeirIn sc (sc 2 b.toNat))] rf m2 (fun mem22 => Q 1 mem22) := by
    intro h m2 g1 g2
    refine u_burst hR ho hD g1 hW hb hf ?_
    intro m3 g3 g4
    exact h m3 g3 (g2.trans g4.ft)
  unfold aThin2 at kk
  refine ⟨by omega, fun q => ?_, fun q => ?_⟩
  · rw [if_pos (Or.inl q)] at kk
    exact hbu kk m1 hs1 hF1
  · have hqr := aQ_rng hWP hW hb hdr
    refine u_result (r := 1) (pl := pl) hR hu hD (by decide) (hP1.r 10 (by decide) (by decide)) (hP1.r 11 (by decide) (by decide)) (hP1.r 12 (by decide) (by decide)) hrk.2.1 (q := aQ pl sc b) (fun j j1 j2 => hq1 j (by omega)) (fun j _ _ => hqr j) ?_
    intro m2 f2
    have hs2 : SC m2 o sc := hs1.fr (fun i h1 h2 => f2 i (by omega) (by omega))
    have hP2 : PC m2 p pl := hP1.fr (fun s h1 h2 => f2 _ (by omega) (by omega))
    have hF2 : FT p o mem m2 := hF1.trans (fun i i1 i3 i4 i5 => f2 i i3 i5)
    have hq2 : ∀ j : Nat, j < 5 → m2 (p + 13) j = aQ pl sc b j := fun j j1 => by rw [f2 (p + 13) (by omega) (by omega)]; exact hq1 j j1
    have hc01 : (if pl 11 1 = -1 then 0 else zres pl 1 (aQ pl sc b)) = 1 ∨ (if pl 11 1 = -1 then 0 else zres pl 1 (aQ pl sc b)) = 0 := by
      split
      · exact Or.inr rfl
      · next ht =>
        have := (zres_rng hrk.2.1 ht (q := aQ pl sc b) (fun j _ _ => hqr j)).2 rfl
        omega
    refine ⟨by omega, fun q2 => ⟨hb, ?_⟩, fun q2 => ?_⟩
    · have hnb : ¬ (sc 3 b.toNat = 0 ∨ (pl 11 1 ≠ -1 ∧ zres pl 1 (aQ pl sc b) = 1)) := by
        rintro (h | ⟨h1, h2⟩)
        · exact q h
        · rw [if_neg h1] at q2
          omega
      rw [if_neg hnb] at kk
      rw [hs2.i 2 (by decide) hb, hs2.z 1 (by decide)]
      have hbI := hW.bubI hb
      have hlI := hW.lampI
      refine ⟨by omega, fun q3 => ?_, fun q3 => ⟨hb, ?_⟩⟩
      · rw [if_neg q3] at kk
        exact kk m2 hs2 hF2
      · rw [if_pos q3] at kk
        rw [hs2.i 5 (by decide) hb]
        refine u_bitCount hR (hW.deeds hb) (u_setQ hR hu (by decide) ?_)
        have e5 : ((-1 : Int) - -6).toNat = 5 := rfl
        rw [e5]
        have hP3 : PC (zup m2 (p + 9 + 4) 5 (zpop (sc 5 b.toNat))) p pl := hP2.fr (fun s h1 h2 => zup_row _ _ _ (by omega))
        have hs3 : SC (zup m2 (p + 9 + 4) 5 (zpop (sc 5 b.toNat))) o sc := hs2.fr (fun i h1 h2 => zup_row _ _ _ (by omega))
        have hq3 : ∀ j : Nat, j < 6 → (zup m2 (p + 9 + 4) 5 (zpop (sc 5 b.toNat))) (p + 13) j = aQ pl sc b j := by
          intro j j1
          rw [zup_get]
          by_cases e : j = 5
          · rw [if_pos ⟨by omega, e⟩, e]
            rfl
          · rw [if_neg (fun q => e q.2)]
            exact hq2 j (by omega)
        have hF3 : FT p o mem (zup m2 (p + 9 + 4) 5 (zpop (sc 5 b.toNat))) := hF2.trans (fun i i1 i3 i4 i5 => zup_row _ _ _ (by omega))
        generalize zup m2 (p + 9 + 4) 5 (zpop (sc 5 b.toNat)) = m3 at hP3 hs3 hq3 hF3
        refine u_isTold (r := 2) (pl := pl) hR hu (by decide) (hP3.r 11 (by decide) (by decide)) (hP3.r 12 (by decide) (by decide)) hrk.2.2 (fun ht => ?_) (fun ht => ?_)
        · refine ⟨by decide, fun q => absurd q (by decide), fun _ => ?_⟩
          refine u_result (r := 2) (pl := pl) hR hu hD (by decide) (hP3.r 10 (by decide) (by decide)) (hP3.r 11 (by decide) (by decide)) (hP3.r 12 (by decide) (by decide)) hrk.2.2 (q := aQ pl sc b) (fun j j1 j2 => hq3 j j1) (fun j _ _ => hqr j) ?_
          intro m4 f4
          have hz := (zres_rng hrk.2.2 ht (q := aQ pl sc b) (fun j _ _ => hqr j)).1
          rw [if_neg ht]
          refine u_thin_227 hR hp hw ho (by omega) hb (by omega) (hs3.fr (fun i h1 h2 => f4 i (by omega) (by omega))) hW ?_
          intro m5 g5 f5
          refine kk m5 ?_ ((hF3.trans (fun i i1 i3 i4 i5 => f4 i i3 i5)).trans f5.ft)
          unfold aHue
          rw [if_neg ht]
          exact g5
        · refine ⟨by decide, fun _ => ⟨by omega, ?_⟩, fun q => absurd rfl q⟩
          have e10 : (sc 3 b.toNat).tdiv 10 = sc 3 b.toNat / 10 := Int.tdiv_eq_ediv_of_nonneg hfi.1
          rw [e10]
          refine u_thin_227 hR hp hw ho (by omega) hb (by omega) hs3 hW ?_
          intro m5 g5 f5
          refine kk m5 ?_ (hF3.trans f5.ft)
          unfold aHue
          rw [if_pos ht]
          exact g5
    · have hyb : sc 3 b.toNat = 0 ∨ (pl 11 1 ≠ -1 ∧ zres pl 1 (aQ pl sc b) = 1) := by
        right
        by_cases ht : pl 11 1 = -1
        · rw [if_pos ht] at q2
          exact absurd rfl q2
        · rw [if_neg ht] at q2 hc01
          exact ⟨ht, by omega⟩
      rw [if_pos hyb] at kk
      exact hbu kk m2 hs2 hF2
theorem u_thin_74 {d : Nat} {Q : Int → zF → Prop} (hR : zall rf zRK = true) (hp : zPln rf p) (hu : zRul rf (p + 9)) (hw : zWrk rf w) (ho : zScn rf o) (hj : DJ p w o) (hD : 2 ≤ d) (hWP : WP pl) (hrk : WR3 pl) {b less : Int} (hb : 0 ≤ b ∧ b < 6) (hle : -1000000 ≤ less ∧ less ≤ 1000000) {mem sc : zF} (hP : PC mem p pl) (hs : SC mem o sc) (hW : WS pl sc) (hf : sc 2 b.toNat ≠ -1) (hdr : 0 ≤ sc 9 b.toNat ∧ sc 9 b.toNat ≤ 1) (hq : ∀ j : Nat, j < 4 → mem (p + 13) j = aQ pl sc b j) (kk : ∀ mem', SC mem' o (aThin2 pl b (zup sc 3 b.toNat (max 0 (min 99 (sc 3 b.toNat - less))))).2 → FT p o mem mem' → Q (aThin2 pl b (zup sc 3 b.toNat (max 0 (min 99 (sc 3 b.toNat - less))))).1 mem') : L_works_thinOne_74 X d rf Q mem w p o b less := by
  have hj2 := hj
  unfold DJ at hj2
  have hfi := hW.film hb
  have hbI := hW.bubI hb
  have hn := hWP.n
  refine s_works_thinOne_74 hR hw hp ho ⟨hb, ?_⟩
  rw [hs.i 3 (by decide) hb]
  have hfr : 0 ≤ max 0 (min 99 (sc 3 b.toNat - less)) ∧ max 0 (min 99 (sc 3 b.toNat - less)) ≤ 99 := by omega
  refine u_min hR (by decide) (by omega) (u_max hR (by decide) (by omega) ⟨hb, ?_⟩)
  generalize hfe : max 0 (min 99 (sc 3 b.toNat - less)) = f at kk hfr
  refine u_setQ hR hu (by decide) ⟨hb, ?_⟩
  have e0 : ((-1 : Int) - -1).toNat = 0 := rfl
  rw [e0]
  have hP1 : PC (zup (zup mem (o + 3) b.toNat f) (p + 9 + 4) 0 f) p pl := hP.fr (fun s h1 h2 => by rw [zup_row _ _ _ (by omega), zup_row _ _ _ (by omega)])
  have hs1 : SC (zup (zup mem (o + 3) b.toNat f) (p + 9 + 4) 0 f) o (zup sc 3 b.toNat f) := (hs.up 3 _ _).fr (fun i h1 h2 => zup_row _ _ _ (by omega))
  have hW1 : WS pl (zup sc 3 b.toNat f) := hW.s3 hb hf hfr
  have hq1 : ∀ j : Nat, j < 4 → (zup (zup mem (o + 3) b.toNat f) (p + 9 + 4) 0 f) (p + 13) j = aQ pl (zup sc 3 b.toNat f) b j := by
    intro j j1
    rw [zup_get]
    by_cases e : j = 0
    · rw [if_pos ⟨by omega, e⟩, e]
      show f = zup sc 3 b.toNat f 3 b.toNat
      rw [zup_at]
    · rw [if_neg (fun q => e q.2), zup_row _ _ _ (by omega), hq j j1]
      unfold aQ
      rw [if_neg e, if_neg e, zup_row _ _ _ (show (4 : Nat) ≠ 3 by decide), zup_row _ _ _ (show (0 : Nat) ≠ 3 by decide), zup_row _ _ _ (show (9 : Nat) ≠ 3 by decide)]
      by_cases e1 : j = 1
      · rw [if_pos e1, if_pos e1]
      · rw [if_neg e1, if_neg e1]
        by_cases e2 : j = 2
        · rw [if_pos e2, if_pos e2]
        · rw [if_neg e2, if_neg e2, if_pos (by omega), if_pos (by omega)]
  have hF1 : FT p o mem (zup (zup mem (o + 3) b.toNat f) (p + 9 + 4) 0 f) := fun i i1 i3 i4 i5 => by rw [zup_row _ _ _ (by omega), zup_row _ _ _ (by omega)]
  have hf1 : zup sc 3 b.toNat f 2 b.toNat ≠ -1 := by rw [zup_row _ _ _ (by decide)]; exact hf
  have hdr1 : 0 ≤ zup sc 3 b.toNat f 9 b.toNat ∧ zup sc 3 b.toNat f 9 b.toNat ≤ 1 := by rw [zup_row _ _ _ (by decide)]; exact hdr
  have e3 : zup sc 3 b.toNat f 3 b.toNat = f := zup_at _ _ _ _
  generalize zup (zup mem (o + 3) b.toNat f) (p + 9 + 4) 0 f = m1 at hP1 hs1 hq1 hF1
  generalize zup sc 3 b.toNat f = s1 at kk hs1 hW1 hq1 hf1 hdr1 e3
  have hbI1 := hW1.bubI hb
  have hhr := aHeirIn_rng pl s1 hW1 (s1 2 b.toNat)
  rw [hs1.i 2 (by decide) hb]
  refine u_heirIn hR ho hs1 (fun k k1 k2 => by have := hW1.heirI ⟨k1, k2⟩; omega) (by omega) ?_
  have go := u_thin_149 (X := X) hR hp hu hw ho hj hD hWP hrk hb hP1 hs1 hW1 hf1 hdr1 hq1 (Q := Q) (fun m' g1 g2 => kk m' g1 (hF1.trans g2))
  rw [e3] at go
  unfold aTall at go
  refine u_isThere hR hp hP1 hWP (by omega) (by decide) (by omega) (fun h => ?_) (fun h => ?_)
  · unfold zthere at h
    refine ⟨by decide, fun q => absurd q (by decide), fun _ => ⟨by omega, ?_⟩⟩
    rw [hP1.r 6 (by decide) (by decide)]
    rw [if_neg (by omega)] at go
    exact go
  · refine ⟨by decide, fun _ => ?_, fun q => absurd rfl q⟩
    unfold zthere at h
    have e1 : ((1 : Int)).toNat = 1 := rfl
    rw [e1] at h
    rw [if_pos (by omega)] at go
    exact go
theorem u_thinOne {D : Nat} {Q : Int → zF → Prop} (hR : zall rf zRK = true) (hp : zPln rf p) (hu : zRul rf (p + 9)) (hw : zWrk rf w) (ho : zScn rf o) (hj : DJ p w o) (hD : 3 ≤ D) (hWP : WP pl) (hrk : WR3 pl) {b : Int} (hb : 0 ≤ b ∧ b < 6) {mem sc : zF} (hP : PC mem p pl) (hs : SC mem o sc) (hdd : DR mem w sc) (hW : WS pl sc) (hf : sc 2 b.toNat ≠ -1) (hdr : WD sc) (kk : ∀ mem', SC mem' o (aThin pl b sc).2 → FT p o mem mem' → Q (aThin pl b sc).1 mem') : Ci X D 147 [(2, w), (2, p), (2, o), (0, b)] rf mem Q := by
  obtain ⟨d, rfl⟩ : ∃ d, D = d + 1 := ⟨D - 1, by omega⟩
  have hj2 := hj
  unfold DJ at hj2
  have hdr1 := hdr b hb.1 hb.2
  have hqr := aQ_rng hWP hW hb hdr1
  refine s_works_thinOne hR hw hp ho ⟨hb, u_setQ hR hu (by decide) ⟨hb, u_setQ hR hu (by decide) (u_setQ hR hu (by decide) ⟨hb, u_setQ hR hu (by decide) ?_⟩)⟩⟩
  have e0 : ((-1 : Int) - -1).toNat = 0 := rfl
  have e1 : ((-1 : Int) - -2).toNat = 1 := rfl
  have e2 : ((-1 : Int) - -3).toNat = 2 := rfl
  have e3 : ((-1 : Int) - -4).toNat = 3 := rfl
  rw [e0, e1, e2, e3]
  simp only [zup_row _ _ _ (show o + 4 ≠ p + 9 + 4 by omega), zup_row _ _ _ (show o ≠ p + 9 + 4 by omega), zup_row _ _ _ (show w + 2 ≠ p + 9 + 4 by omega)]
  rw [hs.i 3 (by decide) hb, hs.i 4 (by decide) hb, hs.z 0 (by decide), hdd b hb.1 hb.2]
  have hP1 : PC (zup (zup (zup (zup mem (p + 9 + 4) 0 (sc 3 b.toNat)) (p + 9 + 4) 1 (sc 4 b.toNat)) (p + 9 + 4) 2 (sc 0 0)) (p + 9 + 4) 3 (sc 9 b.toNat)) p pl := hP.fr (fun s h1 h2 => by rw [zup_row _ _ _ (by omega), zup_row _ _ _ (by omega), zup_row _ _ _ (by omega), zup_row _ _ _ (by omega)])
  have hs1 : SC (zup (zup (zup (zup mem (p + 9 + 4) 0 (sc 3 b.toNat)) (p + 9 + 4) 1 (sc 4 b.toNat)) (p + 9 + 4) 2 (sc 0 0)) (p + 9 + 4) 3 (sc 9 b.toNat)) o sc := hs.fr (fun i h1 h2 => by rw [zup_row _ _ _ (by omega), zup_row _ _ _ (by omega), zup_row _ _ _ (by omega), zup_row _ _ _ (by omega)])
  have hF1 : FT p o mem (zup (zup (zup (zup mem (p + 9 + 4) 0 (sc 3 b.toNat)) (p + 9 + 4) 1 (sc 4 b.toNat)) (p + 9 + 4) 2 (sc 0 0)) (p + 9 + 4) 3 (sc 9 b.toNat)) := fun i i1 i3 i4 i5 => by rw [zup_row _ _ _ (by omega), zup_row _ _ _ (by omega), zup_row _ _ _ (by omega), zup_row _ _ _ (by omega)]
  have hq1 : ∀ j : Nat, j < 4 → (zup (zup (zup (zup mem (p + 9 + 4) 0 (sc 3 b.toNat)) (p + 9 + 4) 1 (sc 4 b.toNat)) (p + 9 + 4) 2 (sc 0 0)) (p + 9 + 4) 3 (sc 9 b.toNat)) (p + 13) j = aQ pl sc b j := by
    intro j j1
    rw [show p + 13 = p + 9 + 4 from rfl]
    have : j = 0 ∨ j = 1 ∨ j = 2 ∨ j = 3 := by omega
    rcases this with rfl | rfl | rfl | rfl <;> simp [zup_get, aQ]
  generalize zup (zup (zup (zup mem (p + 9 + 4) 0 (sc 3 b.toNat)) (p + 9 + 4) 1 (sc 4 b.toNat)) (p + 9 + 4) 2 (sc 0 0)) (p + 9 + 4) 3 (sc 9 b.toNat) = m1 at hP1 hs1 hF1 hq1
  unfold aThin aFilm aLess at kk
  rw [if_neg hf] at kk
  refine u_isTold (r := 0) (pl := pl) hR hu (by decide) (hP1.r 11 (by decide) (by decide)) (hP1.r 12 (by decide) (by decide)) hrk.1 (fun ht => ?_) (fun ht => ?_)
  · refine ⟨by decide, fun q => absurd q (by decide), fun _ => ?_⟩
    refine u_result (r := 0) (pl := pl) hR hu (by omega) (by decide) (hP1.r 10 (by decide) (by decide)) (hP1.r 11 (by decide) (by decide)) (hP1.r 12 (by decide) (by decide)) hrk.1 (q := aQ pl sc b) (fun j j1 j2 => hq1 j (by omega)) (fun j _ _ => hqr j) ?_
    intro m2 f2
    rw [if_neg ht] at kk ⊢
    refine u_thin_74 hR hp hu hw ho hj (by omega) hWP hrk hb (zres_rng hrk.1 ht (q := aQ pl sc b) (fun j _ _ => hqr j)).1 (hP1.fr (fun s h1 h2 => f2 _ (by omega) (by omega))) (hs1.fr (fun i h1 h2 => f2 i (by omega) (by omega))) hW hf hdr1 (fun j j1 => by rw [f2 (p + 13) (by omega) (by omega)]; exact hq1 j j1) ?_
    intro m3 g3 f3
    exact kk m3 g3 ((hF1.trans (fun i i1 i3 i4 i5 => f2 i i3 i5)).trans f3)
  · refine ⟨by decide, fun _ => ?_, fun q => absurd rfl q⟩
    rw [if_pos ht] at kk
    refine u_thin_74 hR hp hu hw ho hj (by omega) hWP hrk hb (by decide) hP1 hs1 hW hf hdr1 hq1 ?_
    intro m3 g3 f3
    exact kk m3 g3 (hF1.trans f3)
theorem u_pass_18 {d : Nat} {Q : Int → zF → Prop} (hR : zall rf zRK = true) (hp : zPln rf p) (hu : zRul rf (p + 9)) (hw : zWrk rf w) (ho : zScn rf o) (hj : DJ p w o) (hD : 3 ≤ d) (hWP : WP pl) (hrk : WR3 pl) : ∀ (n : Nat) {x c : Int} {mem sc : zF}, 0 ≤ x → x + n = 6 → PC mem p pl → SC mem o sc → DR mem w sc → WS pl sc → WD sc → sc 0 0 ≤ 998 → (∀ mem', SC mem' o (aTick (aIt (aThinS pl) x n (c, sc)).2) → FT p o mem mem' → Q (aIt (aThinS pl) x n (c, sc)).1 mem') → L_works_pass_18 X d rf Q mem w p o c x
  | 0, x, c, mem, sc, h0, hx, hP, hs, hdd, hW, hdr, h9, kk => by
    have h1 := hW.sec
    refine s_works_pass_18 hR hw hp ho ⟨by omega, fun _ => ?_, fun q => absurd q (by omega)⟩
    rw [hs.z 0 (by decide)]
    refine u_min hR (by decide) (by omega) ?_
    have e : min 999 (sc 0 0 + 1) = sc 0 0 + 1 := by omega
    rw [e]
    exact kk _ (hs.up0 0 _) (FS.rfl.up0).ft
  | n + 1, x, c, mem, sc, h0, hx, hP, hs, hdd, hW, hdr, h9, kk => by
    have hbI := hW.bubI (k := x) (by omega)
    refine s_works_pass_18 hR hw hp ho ⟨by omega, fun q => absurd q (by omega), fun _ => ⟨by omega, ?_⟩⟩
    rw [hs.i 2 (by decide) (by omega)]
    unfold aIt at kk
    have ea : aThinS pl x (c, sc) = (c + (aThin pl x sc).1, (aThin pl x sc).2) := rfl
    rw [ea] at kk
    have hW2 := hW.thin hWP (b := x) (by omega)
    refine ⟨by omega, fun q => ?_, fun q => ?_⟩
    · have e : aThin pl x sc = (0, sc) := by unfold aThin; rw [if_pos q]
      rw [e] at kk
      have e0 : c + ((0 : Int), sc).1 = c := by show c + 0 = c; omega
      rw [e0] at kk
      exact u_pass_18 hR hp hu hw ho hj hD hWP hrk n (by omega) (by omega) hP hs hdd hW hdr h9 kk
    · refine u_thinOne hR hp hu hw ho hj hD hWP hrk (by omega) hP hs hdd hW q hdr ?_
      intro m1 g1 f1
      have hj2 := hj
      unfold DJ at hj2
      have e9 : (aThin pl x sc).2 9 = sc 9 := aThin_row (by omega)
      have hdd1 : DR m1 w (aThin pl x sc).2 := by
        intro k k1 k2
        rw [e9, f1 (w + 2) (by omega) (by omega) (by omega) (by omega)]
        exact hdd k k1 k2
      have h01 : (aThin pl x sc).1 = 0 ∨ (aThin pl x sc).1 = 1 := by
        unfold aThin
        rw [if_neg q]
        unfold aThin2
        split
        · exact Or.inr rfl
        · split <;> exact Or.inl rfl
      have go : ∀ v, v = (aThin pl x sc).1 → L_works_pass_18 X d rf Q m1 w p o (c + v) (x + 1) := by
        intro v hv
        rw [hv]
        refine u_pass_18 hR hp hu hw ho hj hD hWP hrk n (by omega) (by omega) (f1.pc hj hP) g1 hdd1 hW2 (hdr.row e9) (by rw [aThin_r0 (by decide)]; exact h9) ?_
        intro m2 g2 f2
        exact kk m2 g2 (f1.trans f2)
      refine ⟨by omega, fun q2 => go 0 q2.symm, fun q2 => go 1 (by omega)⟩
theorem u_pass {D : Nat} {Q : Int → zF → Prop} (hR : zall rf zRK = true) (hp : zPln rf p) (hu : zRul rf (p + 9)) (hw : zWrk rf w) (ho : zScn rf o) (hj : DJ p w o) (hD : 4 ≤ D) (hWP : WP pl) (hrk : WR3 pl) {wf : Int → Int} (hwf : ∀ c, -1 ≤ wf c ∧ wf c < 4) (hwn : ∀ c, c < 0 → wf c = -1) {br : Int} (hbr : -1 ≤ br ∧ br < 4) {mem sc : zF} (hP : PC mem p pl) (hs : SC mem o sc) (hr : WR mem w wf) (hW : WS pl sc) (h9 : sc 0 0 ≤ 998) (kk : ∀ mem', SC mem' o (aPass pl wf br sc).2 → FP p w o mem mem' → Q (aPass pl wf br sc).1 mem') : Ci X D 144 [(2, w), (2, p), (2, o), (0, br)] rf mem Q := by
  obtain ⟨d, rfl⟩ : ∃ d, D = d + 1 := ⟨D - 1, by omega⟩
  have hj2 := hj
  unfold DJ at hj2
  refine s_works_pass hR hw hp ho ?_
  obtain ⟨d, rfl⟩ : ∃ e, d = e + 1 := ⟨d - 1, by omega⟩
  refine s_works_driftAll hR hw hp ho (u_drift_3 hR hp hw ho hj (by omega) hWP hwf hwn hbr 6 (by omega) (by omega) hP hs hr hW (fun k k1 k2 => by omega) ?_)
  intro m1 g1 g2 f1
  have hW1 := hW.drifts hWP wf br
  refine s_works_joinAll hR hw ho (u_join_2 hR hw ho (by omega) 6 (by omega) (by omega) g1 hW1 ?_)
  intro m2 g3 f2
  have e9 : aJoins (aDrifts pl wf br sc) 9 = aDrifts pl wf br sc 9 := aJoins_row (by omega)
  have hd2 : DR m2 w (aJoins (aDrifts pl wf br sc)) := by
    intro k k1 k2
    rw [e9, f2 (w + 2) (by omega)]
    exact g2 k k1 k2
  refine u_pass_18 hR hp hu hw ho hj (by omega) hWP hrk 6 (by omega) (by omega) (FP.pc (f1.trans f2.fp) hj hP) g3 hd2 hW1.joins (WD.drifts.row e9) ?_ ?_
  · show aJoins (aDrifts pl wf br sc) 0 0 ≤ 998
    rw [aJoins_row (by omega), aDrifts_row (by omega)]
    exact h9
  · intro m3 g4 f3
    exact kk m3 g4 ((f1.trans f2.fp).trans f3.fp)
end PASS
