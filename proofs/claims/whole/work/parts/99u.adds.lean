/-! door, heir, bubble: both -/
def pDoor (tb : Nat → Int) (n : Int) (pl : zF) (s : Int) : zPS (Int × Int × Int × Int) := pB (pM tb n pl s) (fun s1 nm => pB (pW tb n 20004 s1) (fun s2 _ => pB (pC tb n pl s2) (fun s3 c => pB (pW tb n 20005 s3) (fun s4 _ => pB (pN tb n 0 3 s4) (fun s5 v1 => pB (pW tb n 20006 s5) (fun s6 _ => pB (pN tb n 1 6 s6) (fun s7 v2 => .inr (s7, (nm, c, v1, v2)))))))))
def bDoor (pl : zF) (v : Int × Int × Int × Int) : zF := zup (zup (aAdd pl ((0 : Nat) : Int) v.1 v.2.1) 4 (pl 1 0).toNat v.2.2.1) 5 (pl 1 0).toNat v.2.2.2
theorem pDoor_ok {tb : Nat → Int} {n : Int} {pl : zF} {s : Int} (hb : TBy tb n) (hn : n ≤ 1600) (hs : 0 ≤ s ∧ s ≤ n) : pOK n s (pDoor tb n pl s) := by
  unfold pDoor
  refine pB_ok (pM_ok hb hn hs) (fun s1 nm e1 a1 b1 => pB_ok (pW_ok hb hn (by omega) (by decide)) (fun s2 z2 e2 a2 b2 => pB_ok (pC_ok hb hn (by omega)) (fun s3 c e3 a3 b3 => pB_ok (pW_ok hb hn (by omega) (by decide)) (fun s4 z4 e4 a4 b4 => ?_))))
  refine pB_ok (pN_ok hb hn (by omega)) (fun s5 v1 e5 a5 b5 => pB_ok (pW_ok hb hn (by omega) (by decide)) (fun s6 z6 e6 a6 b6 => ?_))
  have h9 := pN_ok (tb := tb) (lo := 1) (hi := 6) hb hn (s := s6) (by omega)
  cases e9 : pN tb n 1 6 s6 with
  | inl e => rw [e9] at h9; exact h9
  | inr z => rw [e9] at h9; exact h9
section STDoor
variable {X : zX} {rf m0 mem : zF} {p D : Nat} {tb : Nat → Int} {n b s : Int} {pl : zF} {L : zC}
theorem u_stDoor {Q : Int → zF → Prop} (hz : ZX rf p tb n) (hW : WQ pl) (h : CS m0 mem p tb n s pl L) (hl : L.length ≤ 1600) (hD : 6 ≤ D) (hsn : s < n) (hcd : tCod tb n s ≠ -1) (k6 : pl 1 0 = 6 → ∀ mem', CSF m0 mem' p 6 (tPlc tb n s) → Q 0 mem') (kf : pl 1 0 < 6 → ∀ k pc, pDoor tb n pl (tNxt tb n s) = .inl (k, pc) → ∀ mem', CSF m0 mem' p k pc → Q 0 mem') (kk : pl 1 0 < 6 → ∀ s' v, pDoor tb n pl (tNxt tb n s) = .inr (s', v) → ∀ mem', CS m0 mem' p tb n s' (bDoor pl v) L → Q 1 mem') : Ci X D 31 [(2, 3)] rf mem Q := by
  obtain ⟨d, rfl⟩ : ∃ d, D = d + 1 := ⟨D - 1, by omega⟩
  have hp := hz.2.2.2.2.1
  have hb := hz.2.2.2.2.2.2
  have hcr := hW.1.cr
  have hcn := hW.cnt (so := 0) (by decide)
  have hcn : 0 ≤ pl 1 0 ∧ pl 1 0 ≤ 6 := hcn
  have F3 : ∀ (m : zF) (x1 x2 x3 k pc : Int), CSF m0 m p k pc → (∀ mem', CSF m0 mem' p k pc → Q 0 mem') → L_parser_readDoor_93 X d rf Q m p x1 x2 x3 (-1) := fun m x1 x2 x3 k pc hF kq => s_parser_readDoor_93 hz.1 hz.2.1 hz.2.2.1 ⟨by decide, fun q => absurd rfl q, fun _ => kq m hF⟩
  have F2 : ∀ (m : zF) (x1 x2 k pc : Int), CSF m0 m p k pc → (∀ mem', CSF m0 mem' p k pc → Q 0 mem') → L_parser_readDoor_73 X d rf Q m p x1 x2 (-1) := fun m x1 x2 k pc hF kq => s_parser_readDoor_73 hz.1 hz.2.1 hz.2.2.1 ⟨by decide, fun q => absurd rfl q, fun _ => F3 m x1 x2 (-1) k pc hF kq⟩
  have F1 : ∀ (m : zF) (x1 k pc : Int), CSF m0 m p k pc → (∀ mem', CSF m0 mem' p k pc → Q 0 mem') → L_parser_readDoor_54 X d rf Q m p x1 (-1) := fun m x1 k pc hF kq => s_parser_readDoor_54 hz.1 hz.2.1 hz.2.2.1 ⟨by decide, fun q => absurd rfl q, fun _ => F2 m x1 (-1) k pc hF kq⟩
  refine s_parser_readDoor hz.1 hz.2.1 hz.2.2.1 (h.full hz (so := 0) (by decide) hcn (fun q => ⟨by decide, fun c => absurd c (by decide), fun _ => h.ce.refuse hz hl (fun m2 h2 => ⟨Or.inl rfl, k6 q m2 (h2.cs hp h)⟩)⟩) (fun q6 => ⟨by decide, fun _ => ?_, fun c => absurd rfl c⟩))
  have q6 : pl 1 0 < 6 := q6
  have kf := kf q6
  have kk := kk q6
  refine h.ce.next hz hsn hcd (fun m0' h0' => ?_)
  have g0 := h0'.cs hp h
  have hs0 := g0.sr hz
  refine g0.newName hz hW hl (by omega) (fun s1 nm e1 n0 m1 g1 => ?_) (fun k pc e1 m1 hF => ⟨by decide, fun _ => F1 m1 _ k pc hF (kf k pc (by simp only [pDoor, e1, pB_inl])), fun c => absurd rfl c⟩)
  have r1 := pM_inr hb hs0.1 e1
  refine ⟨by omega, fun c => absurd c (by omega), fun _ => ?_⟩
  refine g1.ce.word hz hl (by omega) (by decide) (fun s2 z2 e2 m2 h2 => ⟨by decide, fun _ => ?_, fun c => absurd c (by decide)⟩) (fun k pc e2 m2 h2 => ⟨by decide, fun c => absurd rfl c, fun _ => F1 m2 _ k pc (h2.cs hp g1) (kf k pc (by simp only [pDoor, e1, pB_inr, e2, pB_inl]))⟩)
  have g2 := h2.cs hp g1
  refine g2.cell hz hW hl (by omega) (so := -1) (Or.inl rfl) (fun s3 c e3 c0 m3 g3 => ?_) (fun k pc e3 m3 hF => ?_)
  · rw [if_pos rfl] at e3
    have r3 := pC_inr (by omega) e3
    unfold zic at r3
    refine s_parser_readDoor_54 hz.1 hz.2.1 hz.2.2.1 ⟨by omega, fun _ => ?_, fun q => absurd q (by omega)⟩
    refine g3.ce.numB hz hl (by omega) (by decide) (by decide) (by decide) (fun s4 z4 s5 v1 e4 e5 m5 h5 => ?_) (fun k pc e4 m4 h4 => F2 m4 _ _ k pc (h4.cs hp g3) (kf k pc (by simp only [pDoor, e1, pB_inr, e2, e3, e4, pB_inl]))) (fun s4 z4 k pc e4 e5 m4 h4 => F2 m4 _ _ k pc (h4.cs hp g3) (kf k pc (by simp only [pDoor, e1, pB_inr, e2, e3, e4, e5, pB_inl])))
    have g5 := h5.cs hp g3
    have r5 := pN_inr e5
    refine s_parser_readDoor_73 hz.1 hz.2.1 hz.2.2.1 ⟨by omega, fun _ => ?_, fun q => absurd q (by omega)⟩
    refine g5.ce.numB hz hl (by omega) (by decide) (by decide) (by decide) (fun s6 z6 s7 v2 e6 e7 m7 h7 => ?_) (fun k pc e6 m4 h4 => F3 m4 _ _ _ k pc (h4.cs hp g5) (kf k pc (by simp only [pDoor, e1, pB_inr, e2, e3, e4, e5, e6, pB_inl]))) (fun s6 z6 k pc e6 e7 m4 h4 => F3 m4 _ _ _ k pc (h4.cs hp g5) (kf k pc (by simp only [pDoor, e1, pB_inr, e2, e3, e4, e5, e6, e7, pB_inl])))
    have g7 := h7.cs hp g5
    have r7 := pN_inr e7
    refine s_parser_readDoor_93 hz.1 hz.2.1 hz.2.2.1 ⟨by omega, fun _ => ?_, fun q => absurd q (by omega)⟩
    refine g7.add hz (by omega) (so := ((0 : Nat) : Int)) (by decide) (show 0 ≤ pl 1 0 ∧ pl 1 0 < 6 by omega) (fun m8 g8 => ⟨show 0 ≤ pl 1 0 ∧ pl 1 0 < 6 by omega, show 0 ≤ pl 1 0 ∧ pl 1 0 < 6 by omega, ?_⟩)
    exact kk s7 (nm, c, v1, v2) (by simp only [pDoor, e1, pB_inr, e2, e3, e4, e5, e6, e7]) _ ((g8.up hp (by decide) (by decide) (by decide)).up hp (by decide) (by decide) (by decide))
  · rw [if_pos rfl] at e3
    exact F1 m3 _ k pc hF (kf k pc (by simp only [pDoor, e1, pB_inr, e2, e3, pB_inl]))
theorem t_stDoor {Q : zF → Prop} (hR : zall rf zRK = true) (hb : TBy tb n) (hn : 0 ≤ n ∧ n ≤ 1600) (hW : WQ pl) (h : RSs m0 mem b tb n s pl L) (hD : 6 ≤ D) (hs : 0 ≤ s ∧ s < n) (hcd : tCod tb n s ≠ -1) (k6 : pl 1 0 = 6 → ∀ mem', RSF m0 mem' b 6 (tPlc tb n s) → Q mem') (kf : pl 1 0 < 6 → ∀ k pc, pDoor tb n pl (tNxt tb n s) = .inl (k, pc) → ∀ mem', RSF m0 mem' b k pc → Q mem') (kk : pl 1 0 < 6 → ∀ s' v, pDoor tb n pl (tNxt tb n s) = .inr (s', v) → ∀ mem', RSs m0 mem' b tb n s' (bDoor pl v) L → Q mem') : Cv X D 230 [(2, 261)] rf mem Q := by
  obtain ⟨d, rfl⟩ : ∃ d, D = d + 1 := ⟨D - 1, by omega⟩
  have hcn := hW.cnt (so := 0) (by decide)
  have hcn : 0 ≤ pl 1 0 ∧ pl 1 0 ≤ 6 := hcn
  have hcr := hW.1.cr
  have hb2 := h.2.2.1.2
  have hs' : 0 ≤ s ∧ s ≤ n := by omega
  have ecnt : mem 266 b.toNat = pl 1 0 := h.2.2.2.2.2.2.1.1
  have hnx := tNxt_rng (tb := tb) hs.2
  refine s_m_dooring hR ?_
  rw [h.2.2.1.1, ecnt]
  refine ⟨by omega, by omega, fun q => ?_, fun q => ?_⟩
  · have q6 : pl 1 0 < 6 := by omega
    have kf := kf q6
    have kk := kk q6
    have hok := pDoor_ok (tb := tb) (pl := pl) (s := tNxt tb n s) hb hn.2 (by omega)
    refine s_m_dooring_20 hR (t_counts hR (by omega) hb hn hs' h.1 (Or.inl rfl) (fun _ m3 f3 t3 => ⟨by decide, fun _ => ?_, fun c => absurd c (by decide)⟩) (fun c => absurd c (by decide)))
    have g3 := h.fa f3 t3
    have ec3 : m3 266 b.toNat = pl 1 0 := g3.2.2.2.2.2.2.1.1
    have hs0 : 0 ≤ tNxt tb n s ∧ tNxt tb n s ≤ n := by omega
    rw [g3.2.2.1.1, ec3]
    refine ⟨by omega, t_fresh hR (by omega) hb hn hs0 hW g3 (fun s1 nm e1 m6 w nr f6 t6 => ?_) (fun k pc e1 w => ?_)⟩
    · have o1 := pM_ok (tb := tb) (pl := pl) hb hn.2 hs0
      rw [e1] at o1
      have o1 : tNxt tb n s < s1 ∧ s1 ≤ n := o1
      have r1 := pM_inr hb hs0.1 e1
      have g6 := g3.fa f6 t6
      have g6' := g6.upx (a := 283) (so := 0) (v := w) (by decide) (by omega)
      have w6 : (zup m6 283 (6 * b + pl 1 0).toNat w) 283 (6 * b + pl 1 0).toNat = w := zup_at _ _ _ _
      have hs1 : 0 ≤ s1 ∧ s1 ≤ n := by omega
      refine ⟨by omega, t_mustw 4 hR (by omega) hb hn hs1 g6'.1 (by decide) rfl (fun e2' m7 f7 t7 => ?_) (fun e2' => ?_)⟩
      · have e2 : pW tb n 20004 s1 = .inr (tNxt tb n s1, 0) := by unfold pW; rw [if_pos (by omega)]
        have o2 := pW_ok (tb := tb) (c := 20004) hb hn.2 hs1 (by decide)
        rw [e2] at o2
        have o2 : s1 < tNxt tb n s1 ∧ tNxt tb n s1 ≤ n := o2
        have g7 := g6'.fa f7 t7
        have w7 : m7 283 (6 * b + pl 1 0).toNat = w := by rw [f7.1 283 (by decide)]; exact w6
        have hs2 : 0 ≤ tNxt tb n s1 ∧ tNxt tb n s1 ≤ n := by omega
        refine t_cellTold hR (by omega) hb hn hs2 hW g7 (fun s3 c e3 m9 f9 t9 => ?_) (fun k pc e3 vc m9 hF => ?_)
        · have o3 := pC_ok (tb := tb) (pl := pl) hb hn.2 hs2
          rw [e3] at o3
          have o3 : tNxt tb n s1 < s3 ∧ s3 ≤ n := o3
          have g9 := g7.fa f9 t9
          have g9' := g9.upx (a := 267) (so := 0) (v := c) (by decide) (by omega)
          have w9 : (zup m9 267 (6 * b + pl 1 0).toNat c) 283 (6 * b + pl 1 0).toNat = w := by rw [zup_row _ _ _ (by decide), f9.1 283 (by decide)]; exact w7
          have c9 : (zup m9 267 (6 * b + pl 1 0).toNat c) 267 (6 * b + pl 1 0).toNat = c := zup_at _ _ _ _
          have hs3 : 0 ≤ s3 ∧ s3 ≤ n := by omega
          refine ⟨by omega, t_mustw 5 hR (by omega) hb hn hs3 g9'.1 (by decide) rfl (fun e4' m10 f10 t10 => ?_) (fun e4' => ?_)⟩
          · have e4 : pW tb n 20005 s3 = .inr (tNxt tb n s3, 0) := by unfold pW; rw [if_pos (by omega)]
            have o4 := pW_ok (tb := tb) (c := 20005) hb hn.2 hs3 (by decide)
            rw [e4] at o4
            have o4 : s3 < tNxt tb n s3 ∧ tNxt tb n s3 ≤ n := o4
            have g10 := g9'.fa f10 t10
            have w10 : m10 283 (6 * b + pl 1 0).toNat = w := by rw [f10.1 283 (by decide)]; exact w9
            have c10 : m10 267 (6 * b + pl 1 0).toNat = c := by rw [f10.1 267 (by decide)]; exact c9
            have hs4 : 0 ≤ tNxt tb n s3 ∧ tNxt tb n s3 ≤ n := by omega
            refine t_number hR (by omega) hb hn hs4 g10.1 (by decide) (by decide) (fun s5 v1 e5 m12 f12 t12 => ?_) (fun k pc e5 v => ?_)
            · have o5 := pN_ok (tb := tb) (lo := 0) (hi := 3) hb hn.2 hs4
              rw [e5] at o5
              have o5 : tNxt tb n s3 < s5 ∧ s5 ≤ n := o5
              have r5 := pN_inr e5
              have g12 := g10.fa f12 t12
              have g12' := g12.upx (a := 268) (so := 0) (v := v1) (by decide) (by omega)
              have w12 : (zup m12 268 (6 * b + pl 1 0).toNat v1) 283 (6 * b + pl 1 0).toNat = w := by rw [zup_row _ _ _ (by decide), f12.1 283 (by decide)]; exact w10
              have c12 : (zup m12 268 (6 * b + pl 1 0).toNat v1) 267 (6 * b + pl 1 0).toNat = c := by rw [zup_row _ _ _ (by decide), f12.1 267 (by decide)]; exact c10
              have v12 : (zup m12 268 (6 * b + pl 1 0).toNat v1) 268 (6 * b + pl 1 0).toNat = v1 := zup_at _ _ _ _
              have hs5 : 0 ≤ s5 ∧ s5 ≤ n := by omega
              refine ⟨by omega, t_mustw 6 hR (by omega) hb hn hs5 g12'.1 (by decide) rfl (fun e6' m13 f13 t13 => ?_) (fun e6' => ?_)⟩
              · have e6 : pW tb n 20006 s5 = .inr (tNxt tb n s5, 0) := by unfold pW; rw [if_pos (by omega)]
                have o6 := pW_ok (tb := tb) (c := 20006) hb hn.2 hs5 (by decide)
                rw [e6] at o6
                have o6 : s5 < tNxt tb n s5 ∧ tNxt tb n s5 ≤ n := o6
                have g13 := g12'.fa f13 t13
                have w13 : m13 283 (6 * b + pl 1 0).toNat = w := by rw [f13.1 283 (by decide)]; exact w12
                have c13 : m13 267 (6 * b + pl 1 0).toNat = c := by rw [f13.1 267 (by decide)]; exact c12
                have v13 : m13 268 (6 * b + pl 1 0).toNat = v1 := by rw [f13.1 268 (by decide)]; exact v12
                have hs6 : 0 ≤ tNxt tb n s5 ∧ tNxt tb n s5 ≤ n := by omega
                refine t_number hR (by omega) hb hn hs6 g13.1 (by decide) (by decide) (fun s7 v2 e7 m15 f15 t15 => ?_) (fun k pc e7 v => ?_)
                · have r7 := pN_inr e7
                  have g15 := g13.fa f15 t15
                  have g15' := g15.upx (a := 269) (so := 0) (v := v2) (by decide) (by omega)
                  have w15 : (zup m15 269 (6 * b + pl 1 0).toNat v2) 283 (6 * b + pl 1 0).toNat = w := by rw [zup_row _ _ _ (by decide), f15.1 283 (by decide)]; exact w13
                  have c15 : (zup m15 269 (6 * b + pl 1 0).toNat v2) 267 (6 * b + pl 1 0).toNat = c := by rw [zup_row _ _ _ (by decide), f15.1 267 (by decide)]; exact c13
                  have v15 : (zup m15 269 (6 * b + pl 1 0).toNat v2) 268 (6 * b + pl 1 0).toNat = v1 := by rw [zup_row _ _ _ (by decide), f15.1 268 (by decide)]; exact v13
                  have u15 : (zup m15 269 (6 * b + pl 1 0).toNat v2) 269 (6 * b + pl 1 0).toNat = v2 := zup_at _ _ _ _
                  have ec15 : m15 266 b.toNat = pl 1 0 := g15.2.2.2.2.2.2.1.1
                  rw [g15.1.2.2.2, g15.2.2.1.1, ec15]
                  refine ⟨by omega, by decide, fun c => absurd rfl c, fun _ => ⟨by omega, by omega, kk s7 (nm, c, v1, v2) (by simp only [pDoor, e1, pB_inr, e2, e3, e4, e5, e6, e7]) _ ?_⟩⟩
                  generalize zup m15 269 (6 * b + pl 1 0).toNat v2 = mE at g15' w15 c15 v15 u15
                  have mr : ∀ a, a ≠ 266 → (zup mE 266 b.toNat (pl 1 0 + 1)) a = mE a := fun a ha => zup_row _ _ _ ha
                  have G : GrowP pl (bDoor pl (nm, c, v1, v2)) 0 nm c := GrowP.of (by decide)
                  refine ⟨g15'.1.fr (fun j _ => by rw [mr 261 (by decide)]) (mr 262 (by decide)), g15'.2.1.up (by decide) (by rw [wd1 (by decide)]; omega), by rw [mr 261 (by decide)]; exact g15'.2.2.1, ?_, ?_⟩
                  · have := g15'.2.2.2.1
                    unfold RCo
                    rw [mr 261 (by decide), mr 281 (by decide), mr 282 (by decide)]
                    exact this
                  · refine RQ.grow g15'.2.2.2.2 hb2 (by decide) hW.1 q6 G mr (zup_at _ _ _ _) (by rw [w15]; exact nr) (fun _ => ⟨c15, by rw [v15]; show v1 = (zup (zup (aAdd pl ((0 : Nat) : Int) nm c) 4 (pl 1 0).toNat v1) 5 (pl 1 0).toNat v2) 4 (pl 1 0).toNat; rw [zup_row _ _ _ (by decide), zup_at], by rw [u15]; show v2 = (zup (zup (aAdd pl ((0 : Nat) : Int) nm c) 4 (pl 1 0).toNat v1) 5 (pl 1 0).toNat v2) 5 (pl 1 0).toNat; rw [zup_at]⟩) (fun c => absurd c (by decide)) (fun c => absurd c (by decide))
                · have hF := g13.flt (k := k) (pc := pc) hs6 hn.2
                  have hk : 1 ≤ k ∧ k ≤ 6 := by
                    have := pN_ok (tb := tb) (lo := 1) (hi := 6) hb hn.2 hs6
                    rw [e7] at this
                    exact this.1
                  refine ⟨by omega, ?_⟩
                  rw [hF.2.1]
                  exact ⟨by omega, fun _ => kf k pc (by simp only [pDoor, e1, pB_inr, e2, e3, e4, e5, e6, e7, pB_inl]) _ (hF.up6 (a := 269) (x := pl 1 0) (by decide) (by omega)), fun c => absurd c (by omega)⟩
              · have e6 : pW tb n 20006 s5 = .inl (1, tPlc tb n s5) := by unfold pW; rw [if_neg (by omega)]
                have hF := g12'.flt (k := 1) (pc := tPlc tb n s5) hs5 hn.2
                have hk : (1 : Int) ≤ 1 ∧ (1 : Int) ≤ 6 := by decide
                refine t_numberF hR (by omega) hF.2.1 hk hF.2.2.2.1 ?_
                refine ⟨by omega, ?_⟩
                rw [hF.2.1]
                exact ⟨by omega, fun _ => kf 1 _ (by simp only [pDoor, e1, pB_inr, e2, e3, e4, e5, e6, pB_inl]) _ (hF.up6 (a := 269) (x := pl 1 0) (by decide) (by omega)), fun c => absurd c (by omega)⟩
            · have hF := g10.flt (k := k) (pc := pc) hs4 hn.2
              have hk : 1 ≤ k ∧ k ≤ 6 := by
                have := pN_ok (tb := tb) (lo := 0) (hi := 3) hb hn.2 hs4
                rw [e5] at this
                exact this.1
              refine ⟨by omega, ?_⟩
              refine t_mustF hR (by omega) (hF.up6 (a := 268) (x := pl 1 0) (by decide) (by omega)).2.1 hk (hF.up6 (a := 268) (x := pl 1 0) (by decide) (by omega)).2.2.2.1 ?_
              refine t_numberF hR (by omega) (hF.up6 (a := 268) (x := pl 1 0) (by decide) (by omega)).2.1 hk (hF.up6 (a := 268) (x := pl 1 0) (by decide) (by omega)).2.2.2.1 ?_
              refine ⟨by omega, ?_⟩
              rw [(hF.up6 (a := 268) (x := pl 1 0) (by decide) (by omega)).2.1]
              exact ⟨by omega, fun _ => kf k pc (by simp only [pDoor, e1, pB_inr, e2, e3, e4, e5, pB_inl]) _ ((hF.up6 (a := 268) (x := pl 1 0) (by decide) (by omega)).up6 (a := 269) (x := pl 1 0) (by decide) (by omega)), fun c => absurd c (by omega)⟩
          · have e4 : pW tb n 20005 s3 = .inl (1, tPlc tb n s3) := by unfold pW; rw [if_neg (by omega)]
            have hF := g9'.flt (k := 1) (pc := tPlc tb n s3) hs3 hn.2
            have hk : (1 : Int) ≤ 1 ∧ (1 : Int) ≤ 6 := by decide
            refine t_numberF hR (by omega) hF.2.1 hk hF.2.2.2.1 ?_
            refine ⟨by omega, ?_⟩
            refine t_mustF hR (by omega) (hF.up6 (a := 268) (x := pl 1 0) (by decide) (by omega)).2.1 hk (hF.up6 (a := 268) (x := pl 1 0) (by decide) (by omega)).2.2.2.1 ?_
            refine t_numberF hR (by omega) (hF.up6 (a := 268) (x := pl 1 0) (by decide) (by omega)).2.1 hk (hF.up6 (a := 268) (x := pl 1 0) (by decide) (by omega)).2.2.2.1 ?_
            refine ⟨by omega, ?_⟩
            rw [(hF.up6 (a := 268) (x := pl 1 0) (by decide) (by omega)).2.1]
            exact ⟨by omega, fun _ => kf 1 _ (by simp only [pDoor, e1, pB_inr, e2, e3, e4, pB_inl]) _ ((hF.up6 (a := 268) (x := pl 1 0) (by decide) (by omega)).up6 (a := 269) (x := pl 1 0) (by decide) (by omega)), fun c => absurd c (by omega)⟩
        · have hk : 1 ≤ k ∧ k ≤ 6 := by
            have := pC_ok (tb := tb) (pl := pl) hb hn.2 hs2
            rw [e3] at this
            exact this.1
          refine ⟨by omega, ?_⟩
          refine t_mustF hR (by omega) (hF.up6 (a := 267) (x := pl 1 0) (by decide) (by omega)).2.1 hk (hF.up6 (a := 267) (x := pl 1 0) (by decide) (by omega)).2.2.2.1 ?_
          refine t_numberF hR (by omega) (hF.up6 (a := 267) (x := pl 1 0) (by decide) (by omega)).2.1 hk (hF.up6 (a := 267) (x := pl 1 0) (by decide) (by omega)).2.2.2.1 ?_
          refine ⟨by omega, ?_⟩
          refine t_mustF hR (by omega) ((hF.up6 (a := 267) (x := pl 1 0) (by decide) (by omega)).up6 (a := 268) (x := pl 1 0) (by decide) (by omega)).2.1 hk ((hF.up6 (a := 267) (x := pl 1 0) (by decide) (by omega)).up6 (a := 268) (x := pl 1 0) (by decide) (by omega)).2.2.2.1 ?_
          refine t_numberF hR (by omega) ((hF.up6 (a := 267) (x := pl 1 0) (by decide) (by omega)).up6 (a := 268) (x := pl 1 0) (by decide) (by omega)).2.1 hk ((hF.up6 (a := 267) (x := pl 1 0) (by decide) (by omega)).up6 (a := 268) (x := pl 1 0) (by decide) (by omega)).2.2.2.1 ?_
          refine ⟨by omega, ?_⟩
          rw [((hF.up6 (a := 267) (x := pl 1 0) (by decide) (by omega)).up6 (a := 268) (x := pl 1 0) (by decide) (by omega)).2.1]
          exact ⟨by omega, fun _ => kf k pc (by simp only [pDoor, e1, pB_inr, e2, e3, pB_inl]) _ (((hF.up6 (a := 267) (x := pl 1 0) (by decide) (by omega)).up6 (a := 268) (x := pl 1 0) (by decide) (by omega)).up6 (a := 269) (x := pl 1 0) (by decide) (by omega)), fun c => absurd c (by omega)⟩
      · have e2 : pW tb n 20004 s1 = .inl (1, tPlc tb n s1) := by unfold pW; rw [if_neg (by omega)]
        have hF := g6'.flt (k := 1) (pc := tPlc tb n s1) hs1 hn.2
        have hk : (1 : Int) ≤ 1 ∧ (1 : Int) ≤ 6 := by decide
        refine t_cellToldF hR (by omega) hF hk (fun vc => ?_)
        refine ⟨by omega, ?_⟩
        refine t_mustF hR (by omega) (hF.up6 (a := 267) (x := pl 1 0) (by decide) (by omega)).2.1 hk (hF.up6 (a := 267) (x := pl 1 0) (by decide) (by omega)).2.2.2.1 ?_
        refine t_numberF hR (by omega) (hF.up6 (a := 267) (x := pl 1 0) (by decide) (by omega)).2.1 hk (hF.up6 (a := 267) (x := pl 1 0) (by decide) (by omega)).2.2.2.1 ?_
        refine ⟨by omega, ?_⟩
        refine t_mustF hR (by omega) ((hF.up6 (a := 267) (x := pl 1 0) (by decide) (by omega)).up6 (a := 268) (x := pl 1 0) (by decide) (by omega)).2.1 hk ((hF.up6 (a := 267) (x := pl 1 0) (by decide) (by omega)).up6 (a := 268) (x := pl 1 0) (by decide) (by omega)).2.2.2.1 ?_
        refine t_numberF hR (by omega) ((hF.up6 (a := 267) (x := pl 1 0) (by decide) (by omega)).up6 (a := 268) (x := pl 1 0) (by decide) (by omega)).2.1 hk ((hF.up6 (a := 267) (x := pl 1 0) (by decide) (by omega)).up6 (a := 268) (x := pl 1 0) (by decide) (by omega)).2.2.2.1 ?_
        refine ⟨by omega, ?_⟩
        rw [((hF.up6 (a := 267) (x := pl 1 0) (by decide) (by omega)).up6 (a := 268) (x := pl 1 0) (by decide) (by omega)).2.1]
        exact ⟨by omega, fun _ => kf 1 _ (by simp only [pDoor, e1, pB_inr, e2, pB_inl]) _ (((hF.up6 (a := 267) (x := pl 1 0) (by decide) (by omega)).up6 (a := 268) (x := pl 1 0) (by decide) (by omega)).up6 (a := 269) (x := pl 1 0) (by decide) (by omega)), fun c => absurd c (by omega)⟩
    · have hF := g3.flt (k := k) (pc := pc) hs0 hn.2
      have hk : 1 ≤ k ∧ k ≤ 6 := by
        have := pM_ok (tb := tb) (pl := pl) hb hn.2 hs0
        rw [e1] at this
        exact this.1
      refine ⟨by omega, ?_⟩
      refine t_mustF hR (by omega) (hF.up6 (a := 283) (x := pl 1 0) (by decide) (by omega)).2.1 hk (hF.up6 (a := 283) (x := pl 1 0) (by decide) (by omega)).2.2.2.1 ?_
      refine t_cellToldF hR (by omega) (hF.up6 (a := 283) (x := pl 1 0) (by decide) (by omega)) hk (fun vc => ?_)
      refine ⟨by omega, ?_⟩
      refine t_mustF hR (by omega) ((hF.up6 (a := 283) (x := pl 1 0) (by decide) (by omega)).up6 (a := 267) (x := pl 1 0) (by decide) (by omega)).2.1 hk ((hF.up6 (a := 283) (x := pl 1 0) (by decide) (by omega)).up6 (a := 267) (x := pl 1 0) (by decide) (by omega)).2.2.2.1 ?_
      refine t_numberF hR (by omega) ((hF.up6 (a := 283) (x := pl 1 0) (by decide) (by omega)).up6 (a := 267) (x := pl 1 0) (by decide) (by omega)).2.1 hk ((hF.up6 (a := 283) (x := pl 1 0) (by decide) (by omega)).up6 (a := 267) (x := pl 1 0) (by decide) (by omega)).2.2.2.1 ?_
      refine ⟨by omega, ?_⟩
      refine t_mustF hR (by omega) (((hF.up6 (a := 283) (x := pl 1 0) (by decide) (by omega)).up6 (a := 267) (x := pl 1 0) (by decide) (by omega)).up6 (a := 268) (x := pl 1 0) (by decide) (by omega)).2.1 hk (((hF.up6 (a := 283) (x := pl 1 0) (by decide) (by omega)).up6 (a := 267) (x := pl 1 0) (by decide) (by omega)).up6 (a := 268) (x := pl 1 0) (by decide) (by omega)).2.2.2.1 ?_
      refine t_numberF hR (by omega) (((hF.up6 (a := 283) (x := pl 1 0) (by decide) (by omega)).up6 (a := 267) (x := pl 1 0) (by decide) (by omega)).up6 (a := 268) (x := pl 1 0) (by decide) (by omega)).2.1 hk (((hF.up6 (a := 283) (x := pl 1 0) (by decide) (by omega)).up6 (a := 267) (x := pl 1 0) (by decide) (by omega)).up6 (a := 268) (x := pl 1 0) (by decide) (by omega)).2.2.2.1 ?_
      refine ⟨by omega, ?_⟩
      rw [(((hF.up6 (a := 283) (x := pl 1 0) (by decide) (by omega)).up6 (a := 267) (x := pl 1 0) (by decide) (by omega)).up6 (a := 268) (x := pl 1 0) (by decide) (by omega)).2.1]
      exact ⟨by omega, fun _ => kf k pc (by simp only [pDoor, e1, pB_inl]) _ ((((hF.up6 (a := 283) (x := pl 1 0) (by decide) (by omega)).up6 (a := 267) (x := pl 1 0) (by decide) (by omega)).up6 (a := 268) (x := pl 1 0) (by decide) (by omega)).up6 (a := 269) (x := pl 1 0) (by decide) (by omega)), fun c => absurd c (by omega)⟩
  · refine s_m_dooring_20 hR (t_counts hR (by omega) hb hn hs' h.1 (Or.inr rfl) (fun c => absurd c (by decide)) (fun _ => ⟨by decide, fun c => absurd rfl c, fun _ => k6 q _ ?_⟩))
    rw [tPlc_s hcd]
    exact h.flt hs' hn.2
end STDoor
def pHeir (tb : Nat → Int) (n : Int) (pl : zF) (s : Int) : zPS (Int × Int × Int) := pB (pM tb n pl s) (fun s1 nm => pB (pW tb n 20004 s1) (fun s2 _ => pB (pF tb n pl 1 s2) (fun s3 c => pB (pW tb n 20009 s3) (fun s4 _ => pB (pN tb n 0 9 s4) (fun s5 v1 => .inr (s5, (nm, c, v1)))))))
def bHeir (pl : zF) (v : Int × Int × Int) : zF := zup (aAdd pl ((1 : Nat) : Int) v.1 v.2.1) 6 (pl 1 1).toNat v.2.2
theorem pHeir_ok {tb : Nat → Int} {n : Int} {pl : zF} {s : Int} (hb : TBy tb n) (hn : n ≤ 1600) (hs : 0 ≤ s ∧ s ≤ n) : pOK n s (pHeir tb n pl s) := by
  unfold pHeir
  refine pB_ok (pM_ok hb hn hs) (fun s1 nm e1 a1 b1 => pB_ok (pW_ok hb hn (by omega) (by decide)) (fun s2 z2 e2 a2 b2 => pB_ok (pF_ok hb hn (by omega)) (fun s3 c e3 a3 b3 => pB_ok (pW_ok hb hn (by omega) (by decide)) (fun s4 z4 e4 a4 b4 => ?_))))
  have h9 := pN_ok (tb := tb) (lo := 0) (hi := 9) hb hn (s := s4) (by omega)
  cases e9 : pN tb n 0 9 s4 with
  | inl e => rw [e9] at h9; exact h9
  | inr z => rw [e9] at h9; exact h9
section STHeir
variable {X : zX} {rf m0 mem : zF} {p D : Nat} {tb : Nat → Int} {n b s : Int} {pl : zF} {L : zC}
theorem u_stHeir {Q : Int → zF → Prop} (hz : ZX rf p tb n) (hW : WQ pl) (h : CS m0 mem p tb n s pl L) (hl : L.length ≤ 1600) (hD : 6 ≤ D) (hsn : s < n) (hcd : tCod tb n s ≠ -1) (k6 : pl 1 1 = 6 → ∀ mem', CSF m0 mem' p 6 (tPlc tb n s) → Q 0 mem') (kf : pl 1 1 < 6 → ∀ k pc, pHeir tb n pl (tNxt tb n s) = .inl (k, pc) → ∀ mem', CSF m0 mem' p k pc → Q 0 mem') (kk : pl 1 1 < 6 → ∀ s' v, pHeir tb n pl (tNxt tb n s) = .inr (s', v) → ∀ mem', CS m0 mem' p tb n s' (bHeir pl v) L → Q 1 mem') : Ci X D 33 [(2, 3)] rf mem Q := by
  obtain ⟨d, rfl⟩ : ∃ d, D = d + 1 := ⟨D - 1, by omega⟩
  have hp := hz.2.2.2.2.1
  have hb := hz.2.2.2.2.2.2
  have hcr := hW.1.cr
  have hcn := hW.cnt (so := 1) (by decide)
  have hcn : 0 ≤ pl 1 1 ∧ pl 1 1 ≤ 6 := hcn
  have F2 : ∀ (m : zF) (x1 x2 k pc : Int), CSF m0 m p k pc → (∀ mem', CSF m0 mem' p k pc → Q 0 mem') → L_parser_readHeir_74 X d rf Q m p x1 x2 (-1) := fun m x1 x2 k pc hF kq => s_parser_readHeir_74 hz.1 hz.2.1 hz.2.2.1 ⟨by decide, fun q => absurd rfl q, fun _ => kq m hF⟩
  have F1 : ∀ (m : zF) (x1 k pc : Int), CSF m0 m p k pc → (∀ mem', CSF m0 mem' p k pc → Q 0 mem') → L_parser_readHeir_54 X d rf Q m p x1 (-1) := fun m x1 k pc hF kq => s_parser_readHeir_54 hz.1 hz.2.1 hz.2.2.1 ⟨by decide, fun q => absurd rfl q, fun _ => F2 m x1 (-1) k pc hF kq⟩
  refine s_parser_readHeir hz.1 hz.2.1 hz.2.2.1 (h.full hz (so := 1) (by decide) hcn (fun q => ⟨by decide, fun c => absurd c (by decide), fun _ => h.ce.refuse hz hl (fun m2 h2 => ⟨Or.inl rfl, k6 q m2 (h2.cs hp h)⟩)⟩) (fun q6 => ⟨by decide, fun _ => ?_, fun c => absurd rfl c⟩))
  have q6 : pl 1 1 < 6 := q6
  have kf := kf q6
  have kk := kk q6
  refine h.ce.next hz hsn hcd (fun m0' h0' => ?_)
  have g0 := h0'.cs hp h
  have hs0 := g0.sr hz
  refine g0.newName hz hW hl (by omega) (fun s1 nm e1 n0 m1 g1 => ?_) (fun k pc e1 m1 hF => ⟨by decide, fun _ => F1 m1 _ k pc hF (kf k pc (by simp only [pHeir, e1, pB_inl])), fun c => absurd rfl c⟩)
  have r1 := pM_inr hb hs0.1 e1
  refine ⟨by omega, fun c => absurd c (by omega), fun _ => ?_⟩
  refine g1.ce.word hz hl (by omega) (by decide) (fun s2 z2 e2 m2 h2 => ⟨by decide, fun _ => ?_, fun c => absurd c (by decide)⟩) (fun k pc e2 m2 h2 => ⟨by decide, fun c => absurd rfl c, fun _ => F1 m2 _ k pc (h2.cs hp g1) (kf k pc (by simp only [pHeir, e1, pB_inr, e2, pB_inl]))⟩)
  have g2 := h2.cs hp g1
  refine g2.cell hz hW hl (by omega) (so := 1) (by decide) (fun s3 c e3 c0 m3 g3 => ?_) (fun k pc e3 m3 hF => ?_)
  · rw [if_neg (by decide)] at e3
    have r3 := (pF_inr (by omega) e3).1
    unfold zic at r3
    refine s_parser_readHeir_54 hz.1 hz.2.1 hz.2.2.1 ⟨by omega, fun _ => ?_, fun q => absurd q (by omega)⟩
    refine g3.ce.numB hz hl (by omega) (by decide) (by decide) (by decide) (fun s4 z4 s5 v1 e4 e5 m5 h5 => ?_) (fun k pc e4 m4 h4 => F2 m4 _ _ k pc (h4.cs hp g3) (kf k pc (by simp only [pHeir, e1, pB_inr, e2, e3, e4, pB_inl]))) (fun s4 z4 k pc e4 e5 m4 h4 => F2 m4 _ _ k pc (h4.cs hp g3) (kf k pc (by simp only [pHeir, e1, pB_inr, e2, e3, e4, e5, pB_inl])))
    have g5 := h5.cs hp g3
    have r5 := pN_inr e5
    refine s_parser_readHeir_74 hz.1 hz.2.1 hz.2.2.1 ⟨by omega, fun _ => ?_, fun q => absurd q (by omega)⟩
    refine g5.add hz (by omega) (so := ((1 : Nat) : Int)) (by decide) (show 0 ≤ pl 1 1 ∧ pl 1 1 < 6 by omega) (fun m8 g8 => ⟨show 0 ≤ pl 1 1 ∧ pl 1 1 < 6 by omega, ?_⟩)
    exact kk s5 (nm, c, v1) (by simp only [pHeir, e1, pB_inr, e2, e3, e4, e5]) _ (g8.up hp (by decide) (by decide) (by decide))
  · rw [if_neg (by decide)] at e3
    exact F1 m3 _ k pc hF (kf k pc (by simp only [pHeir, e1, pB_inr, e2, e3, pB_inl]))
theorem t_stHeir {Q : zF → Prop} (hR : zall rf zRK = true) (hb : TBy tb n) (hn : 0 ≤ n ∧ n ≤ 1600) (hW : WQ pl) (h : RSs m0 mem b tb n s pl L) (hD : 6 ≤ D) (hs : 0 ≤ s ∧ s < n) (hcd : tCod tb n s ≠ -1) (k6 : pl 1 1 = 6 → ∀ mem', RSF m0 mem' b 6 (tPlc tb n s) → Q mem') (kf : pl 1 1 < 6 → ∀ k pc, pHeir tb n pl (tNxt tb n s) = .inl (k, pc) → ∀ mem', RSF m0 mem' b k pc → Q mem') (kk : pl 1 1 < 6 → ∀ s' v, pHeir tb n pl (tNxt tb n s) = .inr (s', v) → ∀ mem', RSs m0 mem' b tb n s' (bHeir pl v) L → Q mem') : Cv X D 232 [(2, 261)] rf mem Q := by
  obtain ⟨d, rfl⟩ : ∃ d, D = d + 1 := ⟨D - 1, by omega⟩
  have hcn := hW.cnt (so := 1) (by decide)
  have hcn : 0 ≤ pl 1 1 ∧ pl 1 1 ≤ 6 := hcn
  have hcr := hW.1.cr
  have hb2 := h.2.2.1.2
  have hs' : 0 ≤ s ∧ s ≤ n := by omega
  have ecnt : mem 271 b.toNat = pl 1 1 := h.2.2.2.2.2.2.1.2.1
  have hnx := tNxt_rng (tb := tb) hs.2
  refine s_m_heiring hR ?_
  rw [h.2.2.1.1, ecnt]
  refine ⟨by omega, by omega, fun q => ?_, fun q => ?_⟩
  · have q6 : pl 1 1 < 6 := by omega
    have kf := kf q6
    have kk := kk q6
    have hok := pHeir_ok (tb := tb) (pl := pl) (s := tNxt tb n s) hb hn.2 (by omega)
    refine s_m_heiring_20 hR (t_counts hR (by omega) hb hn hs' h.1 (Or.inl rfl) (fun _ m3 f3 t3 => ⟨by decide, fun _ => ?_, fun c => absurd c (by decide)⟩) (fun c => absurd c (by decide)))
    have g3 := h.fa f3 t3
    have ec3 : m3 271 b.toNat = pl 1 1 := g3.2.2.2.2.2.2.1.2.1
    have hs0 : 0 ≤ tNxt tb n s ∧ tNxt tb n s ≤ n := by omega
    rw [g3.2.2.1.1, ec3]
    refine ⟨by omega, t_fresh hR (by omega) hb hn hs0 hW g3 (fun s1 nm e1 m6 w nr f6 t6 => ?_) (fun k pc e1 w => ?_)⟩
    · have o1 := pM_ok (tb := tb) (pl := pl) hb hn.2 hs0
      rw [e1] at o1
      have o1 : tNxt tb n s < s1 ∧ s1 ≤ n := o1
      have r1 := pM_inr hb hs0.1 e1
      have g6 := g3.fa f6 t6
      have g6' := g6.upx (a := 284) (so := 1) (v := w) (by decide) (by omega)
      have w6 : (zup m6 284 (6 * b + pl 1 1).toNat w) 284 (6 * b + pl 1 1).toNat = w := zup_at _ _ _ _
      have hs1 : 0 ≤ s1 ∧ s1 ≤ n := by omega
      refine ⟨by omega, t_mustw 4 hR (by omega) hb hn hs1 g6'.1 (by decide) rfl (fun e2' m7 f7 t7 => ?_) (fun e2' => ?_)⟩
      · have e2 : pW tb n 20004 s1 = .inr (tNxt tb n s1, 0) := by unfold pW; rw [if_pos (by omega)]
        have o2 := pW_ok (tb := tb) (c := 20004) hb hn.2 hs1 (by decide)
        rw [e2] at o2
        have o2 : s1 < tNxt tb n s1 ∧ tNxt tb n s1 ≤ n := o2
        have g7 := g6'.fa f7 t7
        have w7 : m7 284 (6 * b + pl 1 1).toNat = w := by rw [f7.1 284 (by decide)]; exact w6
        have hs2 : 0 ≤ tNxt tb n s1 ∧ tNxt tb n s1 ≤ n := by omega
        refine t_freeCell hR (by omega) hb hn hs2 hW g7 (by decide) (fun s3 c e3 m9 f9 t9 => ?_) (fun k pc e3 vc m9 hF => ?_)
        · have o3 := pF_ok (tb := tb) (pl := pl) (so := 1) hb hn.2 hs2
          rw [e3] at o3
          have o3 : tNxt tb n s1 < s3 ∧ s3 ≤ n := o3
          have g9 := g7.fa f9 t9
          have g9' := g9.upx (a := 272) (so := 1) (v := c) (by decide) (by omega)
          have w9 : (zup m9 272 (6 * b + pl 1 1).toNat c) 284 (6 * b + pl 1 1).toNat = w := by rw [zup_row _ _ _ (by decide), f9.1 284 (by decide)]; exact w7
          have c9 : (zup m9 272 (6 * b + pl 1 1).toNat c) 272 (6 * b + pl 1 1).toNat = c := zup_at _ _ _ _
          have hs3 : 0 ≤ s3 ∧ s3 ≤ n := by omega
          refine ⟨by omega, t_mustw 9 hR (by omega) hb hn hs3 g9'.1 (by decide) rfl (fun e4' m10 f10 t10 => ?_) (fun e4' => ?_)⟩
          · have e4 : pW tb n 20009 s3 = .inr (tNxt tb n s3, 0) := by unfold pW; rw [if_pos (by omega)]
            have o4 := pW_ok (tb := tb) (c := 20009) hb hn.2 hs3 (by decide)
            rw [e4] at o4
            have o4 : s3 < tNxt tb n s3 ∧ tNxt tb n s3 ≤ n := o4
            have g10 := g9'.fa f10 t10
            have w10 : m10 284 (6 * b + pl 1 1).toNat = w := by rw [f10.1 284 (by decide)]; exact w9
            have c10 : m10 272 (6 * b + pl 1 1).toNat = c := by rw [f10.1 272 (by decide)]; exact c9
            have hs4 : 0 ≤ tNxt tb n s3 ∧ tNxt tb n s3 ≤ n := by omega
            refine t_number hR (by omega) hb hn hs4 g10.1 (by decide) (by decide) (fun s5 v1 e5 m12 f12 t12 => ?_) (fun k pc e5 v => ?_)
            · have o5 := pN_ok (tb := tb) (lo := 0) (hi := 9) hb hn.2 hs4
              rw [e5] at o5
              have o5 : tNxt tb n s3 < s5 ∧ s5 ≤ n := o5
              have r5 := pN_inr e5
              have g12 := g10.fa f12 t12
              have g12' := g12.upx (a := 273) (so := 1) (v := v1) (by decide) (by omega)
              have w12 : (zup m12 273 (6 * b + pl 1 1).toNat v1) 284 (6 * b + pl 1 1).toNat = w := by rw [zup_row _ _ _ (by decide), f12.1 284 (by decide)]; exact w10
              have c12 : (zup m12 273 (6 * b + pl 1 1).toNat v1) 272 (6 * b + pl 1 1).toNat = c := by rw [zup_row _ _ _ (by decide), f12.1 272 (by decide)]; exact c10
              have v12 : (zup m12 273 (6 * b + pl 1 1).toNat v1) 273 (6 * b + pl 1 1).toNat = v1 := zup_at _ _ _ _
              have ec12 : m12 271 b.toNat = pl 1 1 := g12.2.2.2.2.2.2.1.2.1
              rw [g12.1.2.2.2, g12.2.2.1.1, ec12]
              refine ⟨by omega, by decide, fun c => absurd rfl c, fun _ => ⟨by omega, by omega, kk s5 (nm, c, v1) (by simp only [pHeir, e1, pB_inr, e2, e3, e4, e5]) _ ?_⟩⟩
              generalize zup m12 273 (6 * b + pl 1 1).toNat v1 = mE at g12' w12 c12 v12
              have mr : ∀ a, a ≠ 271 → (zup mE 271 b.toNat (pl 1 1 + 1)) a = mE a := fun a ha => zup_row _ _ _ ha
              have G : GrowP pl (bHeir pl (nm, c, v1)) 1 nm c := GrowP.of1
              refine ⟨g12'.1.fr (fun j _ => by rw [mr 261 (by decide)]) (mr 262 (by decide)), g12'.2.1.up (by decide) (by rw [wd1 (by decide)]; omega), by rw [mr 261 (by decide)]; exact g12'.2.2.1, ?_, ?_⟩
              · have := g12'.2.2.2.1
                unfold RCo
                rw [mr 261 (by decide), mr 281 (by decide), mr 282 (by decide)]
                exact this
              · refine RQ.grow g12'.2.2.2.2 hb2 (by decide) hW.1 q6 G mr (zup_at _ _ _ _) (by rw [w12]; exact nr) (fun c => absurd c (by decide)) (fun _ => ⟨c12, by rw [v12]; show v1 = (zup (aAdd pl ((1 : Nat) : Int) nm c) 6 (pl 1 1).toNat v1) 6 (pl 1 1).toNat; rw [zup_at]⟩) (fun c => absurd c (by decide))
            · have hF := g10.flt (k := k) (pc := pc) hs4 hn.2
              have hk : 1 ≤ k ∧ k ≤ 6 := by
                have := pN_ok (tb := tb) (lo := 0) (hi := 9) hb hn.2 hs4
                rw [e5] at this
                exact this.1
              refine ⟨by omega, ?_⟩
              rw [hF.2.1]
              exact ⟨by omega, fun _ => kf k pc (by simp only [pHeir, e1, pB_inr, e2, e3, e4, e5, pB_inl]) _ (hF.up6 (a := 273) (x := pl 1 1) (by decide) (by omega)), fun c => absurd c (by omega)⟩
          · have e4 : pW tb n 20009 s3 = .inl (1, tPlc tb n s3) := by unfold pW; rw [if_neg (by omega)]
            have hF := g9'.flt (k := 1) (pc := tPlc tb n s3) hs3 hn.2
            have hk : (1 : Int) ≤ 1 ∧ (1 : Int) ≤ 6 := by decide
            refine t_numberF hR (by omega) hF.2.1 hk hF.2.2.2.1 ?_
            refine ⟨by omega, ?_⟩
            rw [hF.2.1]
            exact ⟨by omega, fun _ => kf 1 _ (by simp only [pHeir, e1, pB_inr, e2, e3, e4, pB_inl]) _ (hF.up6 (a := 273) (x := pl 1 1) (by decide) (by omega)), fun c => absurd c (by omega)⟩
        · have hk : 1 ≤ k ∧ k ≤ 6 := by
            have := pF_ok (tb := tb) (pl := pl) (so := 1) hb hn.2 hs2
            rw [e3] at this
            exact this.1
          refine ⟨by omega, ?_⟩
          refine t_mustF hR (by omega) (hF.up6 (a := 272) (x := pl 1 1) (by decide) (by omega)).2.1 hk (hF.up6 (a := 272) (x := pl 1 1) (by decide) (by omega)).2.2.2.1 ?_
          refine t_numberF hR (by omega) (hF.up6 (a := 272) (x := pl 1 1) (by decide) (by omega)).2.1 hk (hF.up6 (a := 272) (x := pl 1 1) (by decide) (by omega)).2.2.2.1 ?_
          refine ⟨by omega, ?_⟩
          rw [(hF.up6 (a := 272) (x := pl 1 1) (by decide) (by omega)).2.1]
          exact ⟨by omega, fun _ => kf k pc (by simp only [pHeir, e1, pB_inr, e2, e3, pB_inl]) _ ((hF.up6 (a := 272) (x := pl 1 1) (by decide) (by omega)).up6 (a := 273) (x := pl 1 1) (by decide) (by omega)), fun c => absurd c (by omega)⟩
      · have e2 : pW tb n 20004 s1 = .inl (1, tPlc tb n s1) := by unfold pW; rw [if_neg (by omega)]
        have hF := g6'.flt (k := 1) (pc := tPlc tb n s1) hs1 hn.2
        have hk : (1 : Int) ≤ 1 ∧ (1 : Int) ≤ 6 := by decide
        refine t_freeCellF hR (by omega) hF hk (fun vc => ?_)
        refine ⟨by omega, ?_⟩
        refine t_mustF hR (by omega) (hF.up6 (a := 272) (x := pl 1 1) (by decide) (by omega)).2.1 hk (hF.up6 (a := 272) (x := pl 1 1) (by decide) (by omega)).2.2.2.1 ?_
        refine t_numberF hR (by omega) (hF.up6 (a := 272) (x := pl 1 1) (by decide) (by omega)).2.1 hk (hF.up6 (a := 272) (x := pl 1 1) (by decide) (by omega)).2.2.2.1 ?_
        refine ⟨by omega, ?_⟩
        rw [(hF.up6 (a := 272) (x := pl 1 1) (by decide) (by omega)).2.1]
        exact ⟨by omega, fun _ => kf 1 _ (by simp only [pHeir, e1, pB_inr, e2, pB_inl]) _ ((hF.up6 (a := 272) (x := pl 1 1) (by decide) (by omega)).up6 (a := 273) (x := pl 1 1) (by decide) (by omega)), fun c => absurd c (by omega)⟩
    · have hF := g3.flt (k := k) (pc := pc) hs0 hn.2
      have hk : 1 ≤ k ∧ k ≤ 6 := by
        have := pM_ok (tb := tb) (pl := pl) hb hn.2 hs0
        rw [e1] at this
        exact this.1
      refine ⟨by omega, ?_⟩
      refine t_mustF hR (by omega) (hF.up6 (a := 284) (x := pl 1 1) (by decide) (by omega)).2.1 hk (hF.up6 (a := 284) (x := pl 1 1) (by decide) (by omega)).2.2.2.1 ?_
      refine t_freeCellF hR (by omega) (hF.up6 (a := 284) (x := pl 1 1) (by decide) (by omega)) hk (fun vc => ?_)
      refine ⟨by omega, ?_⟩
      refine t_mustF hR (by omega) ((hF.up6 (a := 284) (x := pl 1 1) (by decide) (by omega)).up6 (a := 272) (x := pl 1 1) (by decide) (by omega)).2.1 hk ((hF.up6 (a := 284) (x := pl 1 1) (by decide) (by omega)).up6 (a := 272) (x := pl 1 1) (by decide) (by omega)).2.2.2.1 ?_
      refine t_numberF hR (by omega) ((hF.up6 (a := 284) (x := pl 1 1) (by decide) (by omega)).up6 (a := 272) (x := pl 1 1) (by decide) (by omega)).2.1 hk ((hF.up6 (a := 284) (x := pl 1 1) (by decide) (by omega)).up6 (a := 272) (x := pl 1 1) (by decide) (by omega)).2.2.2.1 ?_
      refine ⟨by omega, ?_⟩
      rw [((hF.up6 (a := 284) (x := pl 1 1) (by decide) (by omega)).up6 (a := 272) (x := pl 1 1) (by decide) (by omega)).2.1]
      exact ⟨by omega, fun _ => kf k pc (by simp only [pHeir, e1, pB_inl]) _ (((hF.up6 (a := 284) (x := pl 1 1) (by decide) (by omega)).up6 (a := 272) (x := pl 1 1) (by decide) (by omega)).up6 (a := 273) (x := pl 1 1) (by decide) (by omega)), fun c => absurd c (by omega)⟩
  · refine s_m_heiring_20 hR (t_counts hR (by omega) hb hn hs' h.1 (Or.inr rfl) (fun c => absurd c (by decide)) (fun _ => ⟨by decide, fun c => absurd rfl c, fun _ => k6 q _ ?_⟩))
    rw [tPlc_s hcd]
    exact h.flt hs' hn.2
end STHeir
def pBubble (tb : Nat → Int) (n : Int) (pl : zF) (s : Int) : zPS (Int × Int × Int × Int) := pB (pM tb n pl s) (fun s1 nm => pB (pW tb n 20004 s1) (fun s2 _ => pB (pF tb n pl 2 s2) (fun s3 c => pB (pW tb n 20011 s3) (fun s4 _ => pB (pN tb n 1 99 s4) (fun s5 v1 => pB (pW tb n 20012 s5) (fun s6 _ => pB (pN tb n 1 9 s6) (fun s7 v2 => .inr (s7, (nm, c, v1, v2)))))))))
def bBubble (pl : zF) (v : Int × Int × Int × Int) : zF := zup (zup (aAdd pl ((2 : Nat) : Int) v.1 v.2.1) 7 (pl 1 2).toNat v.2.2.1) 8 (pl 1 2).toNat v.2.2.2
theorem pBubble_ok {tb : Nat → Int} {n : Int} {pl : zF} {s : Int} (hb : TBy tb n) (hn : n ≤ 1600) (hs : 0 ≤ s ∧ s ≤ n) : pOK n s (pBubble tb n pl s) := by
  unfold pBubble
  refine pB_ok (pM_ok hb hn hs) (fun s1 nm e1 a1 b1 => pB_ok (pW_ok hb hn (by omega) (by decide)) (fun s2 z2 e2 a2 b2 => pB_ok (pF_ok hb hn (by omega)) (fun s3 c e3 a3 b3 => pB_ok (pW_ok hb hn (by omega) (by decide)) (fun s4 z4 e4 a4 b4 => ?_))))
  refine pB_ok (pN_ok hb hn (by omega)) (fun s5 v1 e5 a5 b5 => pB_ok (pW_ok hb hn (by omega) (by decide)) (fun s6 z6 e6 a6 b6 => ?_))
  have h9 := pN_ok (tb := tb) (lo := 1) (hi := 9) hb hn (s := s6) (by omega)
  cases e9 : pN tb n 1 9 s6 with
  | inl e => rw [e9] at h9; exact h9
  | inr z => rw [e9] at h9; exact h9
section STBubble
variable {X : zX} {rf m0 mem : zF} {p D : Nat} {tb : Nat → Int} {n b s : Int} {pl : zF} {L : zC}
theorem u_stBubble {Q : Int → zF → Prop} (hz : ZX rf p tb n) (hW : WQ pl) (h : CS m0 mem p tb n s pl L) (hl : L.length ≤ 1600) (hD : 6 ≤ D) (hsn : s < n) (hcd : tCod tb n s ≠ -1) (k6 : pl 1 2 = 6 → ∀ mem', CSF m0 mem' p 6 (tPlc tb n s) → Q 0 mem') (kf : pl 1 2 < 6 → ∀ k pc, pBubble tb n pl (tNxt tb n s) = .inl (k, pc) → ∀ mem', CSF m0 mem' p k pc → Q 0 mem') (kk : pl 1 2 < 6 → ∀ s' v, pBubble tb n pl (tNxt tb n s) = .inr (s', v) → ∀ mem', CS m0 mem' p tb n s' (bBubble pl v) L → Q 1 mem') : Ci X D 34 [(2, 3)] rf mem Q := by
  obtain ⟨d, rfl⟩ : ∃ d, D = d + 1 := ⟨D - 1, by omega⟩
  have hp := hz.2.2.2.2.1
  have hb := hz.2.2.2.2.2.2
  have hcr := hW.1.cr
  have hcn := hW.cnt (so := 2) (by decide)
  have hcn : 0 ≤ pl 1 2 ∧ pl 1 2 ≤ 6 := hcn
  have F3 : ∀ (m : zF) (x1 x2 x3 k pc : Int), CSF m0 m p k pc → (∀ mem', CSF m0 mem' p k pc → Q 0 mem') → L_parser_readBubble_94 X d rf Q m p x1 x2 x3 (-1) := fun m x1 x2 x3 k pc hF kq => s_parser_readBubble_94 hz.1 hz.2.1 hz.2.2.1 ⟨by decide, fun q => absurd rfl q, fun _ => kq m hF⟩
  have F2 : ∀ (m : zF) (x1 x2 k pc : Int), CSF m0 m p k pc → (∀ mem', CSF m0 mem' p k pc → Q 0 mem') → L_parser_readBubble_74 X d rf Q m p x1 x2 (-1) := fun m x1 x2 k pc hF kq => s_parser_readBubble_74 hz.1 hz.2.1 hz.2.2.1 ⟨by decide, fun q => absurd rfl q, fun _ => F3 m x1 x2 (-1) k pc hF kq⟩
  have F1 : ∀ (m : zF) (x1 k pc : Int), CSF m0 m p k pc → (∀ mem', CSF m0 mem' p k pc → Q 0 mem') → L_parser_readBubble_54 X d rf Q m p x1 (-1) := fun m x1 k pc hF kq => s_parser_readBubble_54 hz.1 hz.2.1 hz.2.2.1 ⟨by decide, fun q => absurd rfl q, fun _ => F2 m x1 (-1) k pc hF kq⟩
  refine s_parser_readBubble hz.1 hz.2.1 hz.2.2.1 (h.full hz (so := 2) (by decide) hcn (fun q => ⟨by decide, fun c => absurd c (by decide), fun _ => h.ce.refuse hz hl (fun m2 h2 => ⟨Or.inl rfl, k6 q m2 (h2.cs hp h)⟩)⟩) (fun q6 => ⟨by decide, fun _ => ?_, fun c => absurd rfl c⟩))
  have q6 : pl 1 2 < 6 := q6
  have kf := kf q6
  have kk := kk q6
  refine h.ce.next hz hsn hcd (fun m0' h0' => ?_)
  have g0 := h0'.cs hp h
  have hs0 := g0.sr hz
  refine g0.newName hz hW hl (by omega) (fun s1 nm e1 n0 m1 g1 => ?_) (fun k pc e1 m1 hF => ⟨by decide, fun _ => F1 m1 _ k pc hF (kf k pc (by simp only [pBubble, e1, pB_inl])), fun c => absurd rfl c⟩)
  have r1 := pM_inr hb hs0.1 e1
  refine ⟨by omega, fun c => absurd c (by omega), fun _ => ?_⟩
  refine g1.ce.word hz hl (by omega) (by decide) (fun s2 z2 e2 m2 h2 => ⟨by decide, fun _ => ?_, fun c => absurd c (by decide)⟩) (fun k pc e2 m2 h2 => ⟨by decide, fun c => absurd rfl c, fun _ => F1 m2 _ k pc (h2.cs hp g1) (kf k pc (by simp only [pBubble, e1, pB_inr, e2, pB_inl]))⟩)
  have g2 := h2.cs hp g1
  refine g2.cell hz hW hl (by omega) (so := 2) (by decide) (fun s3 c e3 c0 m3 g3 => ?_) (fun k pc e3 m3 hF => ?_)
  · rw [if_neg (by decide)] at e3
    have r3 := (pF_inr (by omega) e3).1
    unfold zic at r3
    refine s_parser_readBubble_54 hz.1 hz.2.1 hz.2.2.1 ⟨by omega, fun _ => ?_, fun q => absurd q (by omega)⟩
    refine g3.ce.numB hz hl (by omega) (by decide) (by decide) (by decide) (fun s4 z4 s5 v1 e4 e5 m5 h5 => ?_) (fun k pc e4 m4 h4 => F2 m4 _ _ k pc (h4.cs hp g3) (kf k pc (by simp only [pBubble, e1, pB_inr, e2, e3, e4, pB_inl]))) (fun s4 z4 k pc e4 e5 m4 h4 => F2 m4 _ _ k pc (h4.cs hp g3) (kf k pc (by simp only [pBubble, e1, pB_inr, e2, e3, e4, e5, pB_inl])))
    have g5 := h5.cs hp g3
    have r5 := pN_inr e5
    refine s_parser_readBubble_74 hz.1 hz.2.1 hz.2.2.1 ⟨by omega, fun _ => ?_, fun q => absurd q (by omega)⟩
    refine g5.ce.numB hz hl (by omega) (by decide) (by decide) (by decide) (fun s6 z6 s7 v2 e6 e7 m7 h7 => ?_) (fun k pc e6 m4 h4 => F3 m4 _ _ _ k pc (h4.cs hp g5) (kf k pc (by simp only [pBubble, e1, pB_inr, e2, e3, e4, e5, e6, pB_inl]))) (fun s6 z6 k pc e6 e7 m4 h4 => F3 m4 _ _ _ k pc (h4.cs hp g5) (kf k pc (by simp only [pBubble, e1, pB_inr, e2, e3, e4, e5, e6, e7, pB_inl])))
    have g7 := h7.cs hp g5
    have r7 := pN_inr e7
    refine s_parser_readBubble_94 hz.1 hz.2.1 hz.2.2.1 ⟨by omega, fun _ => ?_, fun q => absurd q (by omega)⟩
    refine g7.add hz (by omega) (so := ((2 : Nat) : Int)) (by decide) (show 0 ≤ pl 1 2 ∧ pl 1 2 < 6 by omega) (fun m8 g8 => ⟨show 0 ≤ pl 1 2 ∧ pl 1 2 < 6 by omega, show 0 ≤ pl 1 2 ∧ pl 1 2 < 6 by omega, ?_⟩)
    exact kk s7 (nm, c, v1, v2) (by simp only [pBubble, e1, pB_inr, e2, e3, e4, e5, e6, e7]) _ ((g8.up hp (by decide) (by decide) (by decide)).up hp (by decide) (by decide) (by decide))
  · rw [if_neg (by decide)] at e3
    exact F1 m3 _ k pc hF (kf k pc (by simp only [pBubble, e1, pB_inr, e2, e3, pB_inl]))
theorem t_stBubble {Q : zF → Prop} (hR : zall rf zRK = true) (hb : TBy tb n) (hn : 0 ≤ n ∧ n ≤ 1600) (hW : WQ pl) (h : RSs m0 mem b tb n s pl L) (hD : 6 ≤ D) (hs : 0 ≤ s ∧ s < n) (hcd : tCod tb n s ≠ -1) (k6 : pl 1 2 = 6 → ∀ mem', RSF m0 mem' b 6 (tPlc tb n s) → Q mem') (kf : pl 1 2 < 6 → ∀ k pc, pBubble tb n pl (tNxt tb n s) = .inl (k, pc) → ∀ mem', RSF m0 mem' b k pc → Q mem') (kk : pl 1 2 < 6 → ∀ s' v, pBubble tb n pl (tNxt tb n s) = .inr (s', v) → ∀ mem', RSs m0 mem' b tb n s' (bBubble pl v) L → Q mem') : Cv X D 233 [(2, 261)] rf mem Q := by
  obtain ⟨d, rfl⟩ : ∃ d, D = d + 1 := ⟨D - 1, by omega⟩
  have hcn := hW.cnt (so := 2) (by decide)
  have hcn : 0 ≤ pl 1 2 ∧ pl 1 2 ≤ 6 := hcn
  have hcr := hW.1.cr
  have hb2 := h.2.2.1.2
  have hs' : 0 ≤ s ∧ s ≤ n := by omega
  have ecnt : mem 274 b.toNat = pl 1 2 := h.2.2.2.2.2.2.1.2.2
  have hnx := tNxt_rng (tb := tb) hs.2
  refine s_m_bubbling hR ?_
  rw [h.2.2.1.1, ecnt]
  refine ⟨by omega, by omega, fun q => ?_, fun q => ?_⟩
  · have q6 : pl 1 2 < 6 := by omega
    have kf := kf q6
    have kk := kk q6
    have hok := pBubble_ok (tb := tb) (pl := pl) (s := tNxt tb n s) hb hn.2 (by omega)
    refine s_m_bubbling_20 hR (t_counts hR (by omega) hb hn hs' h.1 (Or.inl rfl) (fun _ m3 f3 t3 => ⟨by decide, fun _ => ?_, fun c => absurd c (by decide)⟩) (fun c => absurd c (by decide)))
    have g3 := h.fa f3 t3
    have ec3 : m3 274 b.toNat = pl 1 2 := g3.2.2.2.2.2.2.1.2.2
    have hs0 : 0 ≤ tNxt tb n s ∧ tNxt tb n s ≤ n := by omega
    rw [g3.2.2.1.1, ec3]
    refine ⟨by omega, t_fresh hR (by omega) hb hn hs0 hW g3 (fun s1 nm e1 m6 w nr f6 t6 => ?_) (fun k pc e1 w => ?_)⟩
    · have o1 := pM_ok (tb := tb) (pl := pl) hb hn.2 hs0
      rw [e1] at o1
      have o1 : tNxt tb n s < s1 ∧ s1 ≤ n := o1
      have r1 := pM_inr hb hs0.1 e1
      have g6 := g3.fa f6 t6
      have g6' := g6.upx (a := 285) (so := 2) (v := w) (by decide) (by omega)
      have w6 : (zup m6 285 (6 * b + pl 1 2).toNat w) 285 (6 * b + pl 1 2).toNat = w := zup_at _ _ _ _
      have hs1 : 0 ≤ s1 ∧ s1 ≤ n := by omega
      refine ⟨by omega, t_mustw 4 hR (by omega) hb hn hs1 g6'.1 (by decide) rfl (fun e2' m7 f7 t7 => ?_) (fun e2' => ?_)⟩
      · have e2 : pW tb n 20004 s1 = .inr (tNxt tb n s1, 0) := by unfold pW; rw [if_pos (by omega)]
        have o2 := pW_ok (tb := tb) (c := 20004) hb hn.2 hs1 (by decide)
        rw [e2] at o2
        have o2 : s1 < tNxt tb n s1 ∧ tNxt tb n s1 ≤ n := o2
        have g7 := g6'.fa f7 t7
        have w7 : m7 285 (6 * b + pl 1 2).toNat = w := by rw [f7.1 285 (by decide)]; exact w6
        have hs2 : 0 ≤ tNxt tb n s1 ∧ tNxt tb n s1 ≤ n := by omega
        refine t_freeCell hR (by omega) hb hn hs2 hW g7 (by decide) (fun s3 c e3 m9 f9 t9 => ?_) (fun k pc e3 vc m9 hF => ?_)
        · have o3 := pF_ok (tb := tb) (pl := pl) (so := 2) hb hn.2 hs2
          rw [e3] at o3
          have o3 : tNxt tb n s1 < s3 ∧ s3 ≤ n := o3
          have g9 := g7.fa f9 t9
          have g9' := g9.upx (a := 275) (so := 2) (v := c) (by decide) (by omega)
          have w9 : (zup m9 275 (6 * b + pl 1 2).toNat c) 285 (6 * b + pl 1 2).toNat = w := by rw [zup_row _ _ _ (by decide), f9.1 285 (by decide)]; exact w7
          have c9 : (zup m9 275 (6 * b + pl 1 2).toNat c) 275 (6 * b + pl 1 2).toNat = c := zup_at _ _ _ _
          have hs3 : 0 ≤ s3 ∧ s3 ≤ n := by omega
          refine ⟨by omega, t_mustw 11 hR (by omega) hb hn hs3 g9'.1 (by decide) rfl (fun e4' m10 f10 t10 => ?_) (fun e4' => ?_)⟩
          · have e4 : pW tb n 20011 s3 = .inr (tNxt tb n s3, 0) := by unfold pW; rw [if_pos (by omega)]
            have o4 := pW_ok (tb := tb) (c := 20011) hb hn.2 hs3 (by decide)
            rw [e4] at o4
            have o4 : s3 < tNxt tb n s3 ∧ tNxt tb n s3 ≤ n := o4
            have g10 := g9'.fa f10 t10
            have w10 : m10 285 (6 * b + pl 1 2).toNat = w := by rw [f10.1 285 (by decide)]; exact w9
            have c10 : m10 275 (6 * b + pl 1 2).toNat = c := by rw [f10.1 275 (by decide)]; exact c9
            have hs4 : 0 ≤ tNxt tb n s3 ∧ tNxt tb n s3 ≤ n := by omega
            refine t_number hR (by omega) hb hn hs4 g10.1 (by decide) (by decide) (fun s5 v1 e5 m12 f12 t12 => ?_) (fun k pc e5 v => ?_)
            · have o5 := pN_ok (tb := tb) (lo := 1) (hi := 99) hb hn.2 hs4
              rw [e5] at o5
              have o5 : tNxt tb n s3 < s5 ∧ s5 ≤ n := o5
              have r5 := pN_inr e5
              have g12 := g10.fa f12 t12
              have g12' := g12.upx (a := 276) (so := 2) (v := v1) (by decide) (by omega)
              have w12 : (zup m12 276 (6 * b + pl 1 2).toNat v1) 285 (6 * b + pl 1 2).toNat = w := by rw [zup_row _ _ _ (by decide), f12.1 285 (by decide)]; exact w10
              have c12 : (zup m12 276 (6 * b + pl 1 2).toNat v1) 275 (6 * b + pl 1 2).toNat = c := by rw [zup_row _ _ _ (by decide), f12.1 275 (by decide)]; exact c10
              have v12 : (zup m12 276 (6 * b + pl 1 2).toNat v1) 276 (6 * b + pl 1 2).toNat = v1 := zup_at _ _ _ _
              have hs5 : 0 ≤ s5 ∧ s5 ≤ n := by omega
              refine ⟨by omega, t_mustw 12 hR (by omega) hb hn hs5 g12'.1 (by decide) rfl (fun e6' m13 f13 t13 => ?_) (fun e6' => ?_)⟩
              · have e6 : pW tb n 20012 s5 = .inr (tNxt tb n s5, 0) := by unfold pW; rw [if_pos (by omega)]
                have o6 := pW_ok (tb := tb) (c := 20012) hb hn.2 hs5 (by decide)
                rw [e6] at o6
                have o6 : s5 < tNxt tb n s5 ∧ tNxt tb n s5 ≤ n := o6
                have g13 := g12'.fa f13 t13
                have w13 : m13 285 (6 * b + pl 1 2).toNat = w := by rw [f13.1 285 (by decide)]; exact w12
                have c13 : m13 275 (6 * b + pl 1 2).toNat = c := by rw [f13.1 275 (by decide)]; exact c12
                have v13 : m13 276 (6 * b + pl 1 2).toNat = v1 := by rw [f13.1 276 (by decide)]; exact v12
                have hs6 : 0 ≤ tNxt tb n s5 ∧ tNxt tb n s5 ≤ n := by omega
                refine t_number hR (by omega) hb hn hs6 g13.1 (by decide) (by decide) (fun s7 v2 e7 m15 f15 t15 => ?_) (fun k pc e7 v => ?_)
                · have r7 := pN_inr e7
                  have g15 := g13.fa f15 t15
                  have g15' := g15.upx (a := 277) (so := 2) (v := v2) (by decide) (by omega)
                  have w15 : (zup m15 277 (6 * b + pl 1 2).toNat v2) 285 (6 * b + pl 1 2).toNat = w := by rw [zup_row _ _ _ (by decide), f15.1 285 (by decide)]; exact w13
                  have c15 : (zup m15 277 (6 * b + pl 1 2).toNat v2) 275 (6 * b + pl 1 2).toNat = c := by rw [zup_row _ _ _ (by decide), f15.1 275 (by decide)]; exact c13
                  have v15 : (zup m15 277 (6 * b + pl 1 2).toNat v2) 276 (6 * b + pl 1 2).toNat = v1 := by rw [zup_row _ _ _ (by decide), f15.1 276 (by decide)]; exact v13
                  have u15 : (zup m15 277 (6 * b + pl 1 2).toNat v2) 277 (6 * b + pl 1 2).toNat = v2 := zup_at _ _ _ _
                  have ec15 : m15 274 b.toNat = pl 1 2 := g15.2.2.2.2.2.2.1.2.2
                  rw [g15.1.2.2.2, g15.2.2.1.1, ec15]
                  refine ⟨by omega, by decide, fun c => absurd rfl c, fun _ => ⟨by omega, by omega, kk s7 (nm, c, v1, v2) (by simp only [pBubble, e1, pB_inr, e2, e3, e4, e5, e6, e7]) _ ?_⟩⟩
                  generalize zup m15 277 (6 * b + pl 1 2).toNat v2 = mE at g15' w15 c15 v15 u15
                  have mr : ∀ a, a ≠ 274 → (zup mE 274 b.toNat (pl 1 2 + 1)) a = mE a := fun a ha => zup_row _ _ _ ha
                  have G : GrowP pl (bBubble pl (nm, c, v1, v2)) 2 nm c := GrowP.of (by decide)
                  refine ⟨g15'.1.fr (fun j _ => by rw [mr 261 (by decide)]) (mr 262 (by decide)), g15'.2.1.up (by decide) (by rw [wd1 (by decide)]; omega), by rw [mr 261 (by decide)]; exact g15'.2.2.1, ?_, ?_⟩
                  · have := g15'.2.2.2.1
                    unfold RCo
                    rw [mr 261 (by decide), mr 281 (by decide), mr 282 (by decide)]
                    exact this
                  · refine RQ.grow g15'.2.2.2.2 hb2 (by decide) hW.1 q6 G mr (zup_at _ _ _ _) (by rw [w15]; exact nr) (fun c => absurd c (by decide)) (fun c => absurd c (by decide)) (fun _ => ⟨c15, by rw [v15]; show v1 = (zup (zup (aAdd pl ((2 : Nat) : Int) nm c) 7 (pl 1 2).toNat v1) 8 (pl 1 2).toNat v2) 7 (pl 1 2).toNat; rw [zup_row _ _ _ (by decide), zup_at], by rw [u15]; show v2 = (zup (zup (aAdd pl ((2 : Nat) : Int) nm c) 7 (pl 1 2).toNat v1) 8 (pl 1 2).toNat v2) 8 (pl 1 2).toNat; rw [zup_at]⟩)
                · have hF := g13.flt (k := k) (pc := pc) hs6 hn.2
                  have hk : 1 ≤ k ∧ k ≤ 6 := by
                    have := pN_ok (tb := tb) (lo := 1) (hi := 9) hb hn.2 hs6
                    rw [e7] at this
                    exact this.1
                  refine ⟨by omega, ?_⟩
                  rw [hF.2.1]
                  exact ⟨by omega, fun _ => kf k pc (by simp only [pBubble, e1, pB_inr, e2, e3, e4, e5, e6, e7, pB_inl]) _ (hF.up6 (a := 277) (x := pl 1 2) (by decide) (by omega)), fun c => absurd c (by omega)⟩
              · have e6 : pW tb n 20012 s5 = .inl (1, tPlc tb n s5) := by unfold pW; rw [if_neg (by omega)]
                have hF := g12'.flt (k := 1) (pc := tPlc tb n s5) hs5 hn.2
                have hk : (1 : Int) ≤ 1 ∧ (1 : Int) ≤ 6 := by decide
                refine t_numberF hR (by omega) hF.2.1 hk hF.2.2.2.1 ?_
                refine ⟨by omega, ?_⟩
                rw [hF.2.1]
                exact ⟨by omega, fun _ => kf 1 _ (by simp only [pBubble, e1, pB_inr, e2, e3, e4, e5, e6, pB_inl]) _ (hF.up6 (a := 277) (x := pl 1 2) (by decide) (by omega)), fun c => absurd c (by omega)⟩
            · have hF := g10.flt (k := k) (pc := pc) hs4 hn.2
              have hk : 1 ≤ k ∧ k ≤ 6 := by
                have := pN_ok (tb := tb) (lo := 1) (hi := 99) hb hn.2 hs4
                rw [e5] at this
                exact this.1
              refine ⟨by omega, ?_⟩
              refine t_mustF hR (by omega) (hF.up6 (a := 276) (x := pl 1 2) (by decide) (by omega)).2.1 hk (hF.up6 (a := 276) (x := pl 1 2) (by decide) (by omega)).2.2.2.1 ?_
              refine t_numberF hR (by omega) (hF.up6 (a := 276) (x := pl 1 2) (by decide) (by omega)).2.1 hk (hF.up6 (a := 276) (x := pl 1 2) (by decide) (by omega)).2.2.2.1 ?_
              refine ⟨by omega, ?_⟩
              rw [(hF.up6 (a := 276) (x := pl 1 2) (by decide) (by omega)).2.1]
              exact ⟨by omega, fun _ => kf k pc (by simp only [pBubble, e1, pB_inr, e2, e3, e4, e5, pB_inl]) _ ((hF.up6 (a := 276) (x := pl 1 2) (by decide) (by omega)).up6 (a := 277) (x := pl 1 2) (by decide) (by omega)), fun c => absurd c (by omega)⟩
          · have e4 : pW tb n 20011 s3 = .inl (1, tPlc tb n s3) := by unfold pW; rw [if_neg (by omega)]
            have hF := g9'.flt (k := 1) (pc := tPlc tb n s3) hs3 hn.2
            have hk : (1 : Int) ≤ 1 ∧ (1 : Int) ≤ 6 := by decide
            refine t_numberF hR (by omega) hF.2.1 hk hF.2.2.2.1 ?_
            refine ⟨by omega, ?_⟩
            refine t_mustF hR (by omega) (hF.up6 (a := 276) (x := pl 1 2) (by decide) (by omega)).2.1 hk (hF.up6 (a := 276) (x := pl 1 2) (by decide) (by omega)).2.2.2.1 ?_
            refine t_numberF hR (by omega) (hF.up6 (a := 276) (x := pl 1 2) (by decide) (by omega)).2.1 hk (hF.up6 (a := 276) (x := pl 1 2) (by decide) (by omega)).2.2.2.1 ?_
            refine ⟨by omega, ?_⟩
            rw [(hF.up6 (a := 276) (x := pl 1 2) (by decide) (by omega)).2.1]
            exact ⟨by omega, fun _ => kf 1 _ (by simp only [pBubble, e1, pB_inr, e2, e3, e4, pB_inl]) _ ((hF.up6 (a := 276) (x := pl 1 2) (by decide) (by omega)).up6 (a := 277) (x := pl 1 2) (by decide) (by omega)), fun c => absurd c (by omega)⟩
        · have hk : 1 ≤ k ∧ k ≤ 6 := by
            have := pF_ok (tb := tb) (pl := pl) (so := 2) hb hn.2 hs2
            rw [e3] at this
            exact this.1
          refine ⟨by omega, ?_⟩
          refine t_mustF hR (by omega) (hF.up6 (a := 275) (x := pl 1 2) (by decide) (by omega)).2.1 hk (hF.up6 (a := 275) (x := pl 1 2) (by decide) (by omega)).2.2.2.1 ?_
          refine t_numberF hR (by omega) (hF.up6 (a := 275) (x := pl 1 2) (by decide) (by omega)).2.1 hk (hF.up6 (a := 275) (x := pl 1 2) (by decide) (by omega)).2.2.2.1 ?_
          refine ⟨by omega, ?_⟩
          refine t_mustF hR (by omega) ((hF.up6 (a := 275) (x := pl 1 2) (by decide) (by omega)).up6 (a := 276) (x := pl 1 2) (by decide) (by omega)).2.1 hk ((hF.up6 (a := 275) (x := pl 1 2) (by decide) (by omega)).up6 (a := 276) (x := pl 1 2) (by decide) (by omega)).2.2.2.1 ?_
          refine t_numberF hR (by omega) ((hF.up6 (a := 275) (x := pl 1 2) (by decide) (by omega)).up6 (a := 276) (x := pl 1 2) (by decide) (by omega)).2.1 hk ((hF.up6 (a := 275) (x := pl 1 2) (by decide) (by omega)).up6 (a := 276) (x := pl 1 2) (by decide) (by omega)).2.2.2.1 ?_
          refine ⟨by omega, ?_⟩
          rw [((hF.up6 (a := 275) (x := pl 1 2) (by decide) (by omega)).up6 (a := 276) (x := pl 1 2) (by decide) (by omega)).2.1]
          exact ⟨by omega, fun _ => kf k pc (by simp only [pBubble, e1, pB_inr, e2, e3, pB_inl]) _ (((hF.up6 (a := 275) (x := pl 1 2) (by decide) (by omega)).up6 (a := 276) (x := pl 1 2) (by decide) (by omega)).up6 (a := 277) (x := pl 1 2) (by decide) (by omega)), fun c => absurd c (by omega)⟩
      · have e2 : pW tb n 20004 s1 = .inl (1, tPlc tb n s1) := by unfold pW; rw [if_neg (by omega)]
        have hF := g6'.flt (k := 1) (pc := tPlc tb n s1) hs1 hn.2
        have hk : (1 : Int) ≤ 1 ∧ (1 : Int) ≤ 6 := by decide
        refine t_freeCellF hR (by omega) hF hk (fun vc => ?_)
        refine ⟨by omega, ?_⟩
        refine t_mustF hR (by omega) (hF.up6 (a := 275) (x := pl 1 2) (by decide) (by omega)).2.1 hk (hF.up6 (a := 275) (x := pl 1 2) (by decide) (by omega)).2.2.2.1 ?_
        refine t_numberF hR (by omega) (hF.up6 (a := 275) (x := pl 1 2) (by decide) (by omega)).2.1 hk (hF.up6 (a := 275) (x := pl 1 2) (by decide) (by omega)).2.2.2.1 ?_
        refine ⟨by omega, ?_⟩
        refine t_mustF hR (by omega) ((hF.up6 (a := 275) (x := pl 1 2) (by decide) (by omega)).up6 (a := 276) (x := pl 1 2) (by decide) (by omega)).2.1 hk ((hF.up6 (a := 275) (x := pl 1 2) (by decide) (by omega)).up6 (a := 276) (x := pl 1 2) (by decide) (by omega)).2.2.2.1 ?_
        refine t_numberF hR (by omega) ((hF.up6 (a := 275) (x := pl 1 2) (by decide) (by omega)).up6 (a := 276) (x := pl 1 2) (by decide) (by omega)).2.1 hk ((hF.up6 (a := 275) (x := pl 1 2) (by decide) (by omega)).up6 (a := 276) (x := pl 1 2) (by decide) (by omega)).2.2.2.1 ?_
        refine ⟨by omega, ?_⟩
        rw [((hF.up6 (a := 275) (x := pl 1 2) (by decide) (by omega)).up6 (a := 276) (x := pl 1 2) (by decide) (by omega)).2.1]
        exact ⟨by omega, fun _ => kf 1 _ (by simp only [pBubble, e1, pB_inr, e2, pB_inl]) _ (((hF.up6 (a := 275) (x := pl 1 2) (by decide) (by omega)).up6 (a := 276) (x := pl 1 2) (by decide) (by omega)).up6 (a := 277) (x := pl 1 2) (by decide) (by omega)), fun c => absurd c (by omega)⟩
    · have hF := g3.flt (k := k) (pc := pc) hs0 hn.2
      have hk : 1 ≤ k ∧ k ≤ 6 := by
        have := pM_ok (tb := tb) (pl := pl) hb hn.2 hs0
        rw [e1] at this
        exact this.1
      refine ⟨by omega, ?_⟩
      refine t_mustF hR (by omega) (hF.up6 (a := 285) (x := pl 1 2) (by decide) (by omega)).2.1 hk (hF.up6 (a := 285) (x := pl 1 2) (by decide) (by omega)).2.2.2.1 ?_
      refine t_freeCellF hR (by omega) (hF.up6 (a := 285) (x := pl 1 2) (by decide) (by omega)) hk (fun vc => ?_)
      refine ⟨by omega, ?_⟩
      refine t_mustF hR (by omega) ((hF.up6 (a := 285) (x := pl 1 2) (by decide) (by omega)).up6 (a := 275) (x := pl 1 2) (by decide) (by omega)).2.1 hk ((hF.up6 (a := 285) (x := pl 1 2) (by decide) (by omega)).up6 (a := 275) (x := pl 1 2) (by decide) (by omega)).2.2.2.1 ?_
      refine t_numberF hR (by omega) ((hF.up6 (a := 285) (x := pl 1 2) (by decide) (by omega)).up6 (a := 275) (x := pl 1 2) (by decide) (by omega)).2.1 hk ((hF.up6 (a := 285) (x := pl 1 2) (by decide) (by omega)).up6 (a := 275) (x := pl 1 2) (by decide) (by omega)).2.2.2.1 ?_
      refine ⟨by omega, ?_⟩
      refine t_mustF hR (by omega) (((hF.up6 (a := 285) (x := pl 1 2) (by decide) (by omega)).up6 (a := 275) (x := pl 1 2) (by decide) (by omega)).up6 (a := 276) (x := pl 1 2) (by decide) (by omega)).2.1 hk (((hF.up6 (a := 285) (x := pl 1 2) (by decide) (by omega)).up6 (a := 275) (x := pl 1 2) (by decide) (by omega)).up6 (a := 276) (x := pl 1 2) (by decide) (by omega)).2.2.2.1 ?_
      refine t_numberF hR (by omega) (((hF.up6 (a := 285) (x := pl 1 2) (by decide) (by omega)).up6 (a := 275) (x := pl 1 2) (by decide) (by omega)).up6 (a := 276) (x := pl 1 2) (by decide) (by omega)).2.1 hk (((hF.up6 (a := 285) (x := pl 1 2) (by decide) (by omega)).up6 (a := 275) (x := pl 1 2) (by decide) (by omega)).up6 (a := 276) (x := pl 1 2) (by decide) (by omega)).2.2.2.1 ?_
      refine ⟨by omega, ?_⟩
      rw [(((hF.up6 (a := 285) (x := pl 1 2) (by decide) (by omega)).up6 (a := 275) (x := pl 1 2) (by decide) (by omega)).up6 (a := 276) (x := pl 1 2) (by decide) (by omega)).2.1]
      exact ⟨by omega, fun _ => kf k pc (by simp only [pBubble, e1, pB_inl]) _ ((((hF.up6 (a := 285) (x := pl 1 2) (by decide) (by omega)).up6 (a := 275) (x := pl 1 2) (by decide) (by omega)).up6 (a := 276) (x := pl 1 2) (by decide) (by omega)).up6 (a := 277) (x := pl 1 2) (by decide) (by omega)), fun c => absurd c (by omega)⟩
  · refine s_m_bubbling_20 hR (t_counts hR (by omega) hb hn hs' h.1 (Or.inr rfl) (fun c => absurd c (by decide)) (fun _ => ⟨by decide, fun c => absurd rfl c, fun _ => k6 q _ ?_⟩))
    rw [tPlc_s hcd]
    exact h.flt hs' hn.2
end STBubble
