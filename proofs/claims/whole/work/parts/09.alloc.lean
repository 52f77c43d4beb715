theorem zcell_cg2 {cl : List vw_C} {aC : Nat → ClassId} {ad ad' : Nat → Nat} {rf mem rf' mem' : zF} {a n : Nat} {t : zT} (hr : ∀ k, (t.1 = 0 ∧ k < znF cl t.2) ∨ (t.1 = 5 ∧ k < t.2) → rf a k < n) (had : ∀ i, i < n → ad' i = ad i) (h1 : ∀ k, rf' a k = rf a k) (h2 : ∀ k, mem' a k = mem a k) : zcell cl aC ad' rf' mem' a t = zcell cl aC ad rf mem a t := by
  have e1 : ∀ k, (t.1 = 0 ∧ k < znF cl t.2) ∨ (t.1 = 5 ∧ k < t.2) → zrv ad' (rf a k) = zrv ad (rf a k) ∧ zro ad' (rf a k) = zro ad (rf a k) := by
    intro k hk
    have := hr k hk
    unfold zrv zro
    constructor
    · split
      · rfl
      · rw [had _ (by omega)]
    · split
      · rfl
      · rw [had _ (by omega)]
  unfold zcell
  by_cases h0 : t.1 = 0
  · rw [if_pos h0, if_pos h0]
    congr 2
    apply List.map_congr_left
    intro k hk
    have hk := List.mem_range.mp hk
    unfold zfv
    rw [h1, h2, (e1 k (Or.inl ⟨h0, hk⟩)).1]
  · rw [if_neg h0, if_neg h0]
    by_cases h5 : t.1 = 2
    · rw [if_pos h5, if_pos h5]
      simp only [h2]
    · rw [if_neg h5, if_neg h5]
      by_cases h6 : t.1 = 5
      · rw [if_pos h6, if_pos h6]
        congr 7
        funext j
        split
        · next hj => rw [h1, (e1 j (Or.inr ⟨h6, hj⟩)).2]
        · rfl
      · rw [if_neg h6, if_neg h6]
        simp only [h2]
theorem zw_push {cl : List vw_C} {aC : Nat → ClassId} {ad ad' : Nat → Nat} {S : zS} {t : zT} (hr : zrok S.1.length S.1 (znF cl) S.2.1 = true) (had : ∀ i, i < S.1.length → ad' i = ad i) :
    zw cl aC ad' (S.1 ++ [t], zclr S.2.1 S.1.length (-1), zclr S.2.2 S.1.length 0) = zw cl aC ad S ++ [(ad' S.1.length, zcell cl aC ad' (zclr S.2.1 S.1.length (-1)) (zclr S.2.2 S.1.length 0) S.1.length t)] := by
  unfold zw
  dsimp only
  rw [List.mapIdx_append]
  congr 1
  · apply List.ext_getElem?
    intro a
    simp only [List.getElem?_mapIdx]
    cases ha : S.1[a]? with
    | none => rfl
    | some u =>
      have hl : a < S.1.length := (List.getElem?_eq_some_iff.mp ha).1
      simp only [Option.map_some]
      rw [had a hl, zcell_cg2 (ad := ad) (rf := S.2.1) (mem := S.2.2) (n := S.1.length) ?_ had (fun k => ?_) (fun k => ?_)]
      · intro k hk
        have h1 := List.all_eq_true.mp hr a (List.mem_range.mpr hl)
        rw [ha] at h1
        dsimp only at h1
        rcases hk with ⟨q1, q2⟩ | ⟨q1, q2⟩
        · rw [if_pos (Or.inl q1), if_pos q1] at h1
          exact of_decide_eq_true (List.all_eq_true.mp h1 k (List.mem_range.mpr q2))
        · rw [if_pos (Or.inr q1), if_neg (by omega)] at h1
          exact of_decide_eq_true (List.all_eq_true.mp h1 k (List.mem_range.mpr q2))
      · unfold zclr
        rw [if_neg (by omega)]
      · unfold zclr
        rw [if_neg (by omega)]
  · simp
theorem zsl_push {nF : Nat → Nat} {ty : List zT} {t : zT} : zsl nF (ty ++ [t]) = zsl nF ty + (if t.1 = 0 then nF t.2 else t.2) := by
  unfold zsl
  simp
section ZN
variable {p : Program} {l : Launch} {e : Env} {R : Room} {s : State} {m : MethodId} {args : Array Value} {below : List Frame} {meth : Method} {c : Code} {Q : State → Prop} {D : va_G} {cl : List vw_C} {aC : Nat → ClassId} {ov : Nat → Value} {A : Nat → Prop} {X : zX} {k0 s0 : Nat} {ad0 : Nat → Nat} {cc : ByteArray} {own nm : String} {Ts : List Cond} {pc : Nat} {ls r : List zV} {S : zS}
theorem zs_new (C : zCx p R s m args meth c D cl aC ov A X cc own nm Ts) {idx a : Nat} {cq : vw_C} (O : zClo cl Ts) (hc : cl[a]? = some cq) (ha : a < 100000) (hw : Cond.classLink own idx cq.1 ∈ Ts) (hok : zvok S.1.length ls = true ∧ zvok S.1.length r = true ∧ zrok S.1.length S.1 (znF cl) S.2.1 = true) (hR : S.1.length + 1 ≤ k0 + R.cells) (hR2 : zsl (znF cl) (S.1 ++ [(0, a)]) ≤ s0 + R.slots) (hd : decode cc pc = .ok (.new idx, 3)) (K0 : zAt p l e R s m args below meth c Q D cl aC ov A k0 s0 ad0 (pc + 3) ls ((2, (S.1.length : Int)) :: r) (S.1 ++ [(0, a)], zclr S.2.1 S.1.length (-1), zclr S.2.2 S.1.length 0)) : zAt p l e R s m args below meth c Q D cl aC ov A k0 s0 ad0 pc ls r S := by
  intro ad L H locs cells slots h1 h2 hl hP hD hS h3 h4 h5
  obtain ⟨cn, T, N⟩ := cq
  have O' := O a _ hc
  have hN := znF_of hc
  dsimp only at hN
  rw [zsl_push, if_pos rfl] at hR2
  dsimp only at hR2
  rw [hN] at hR2
  refine va_new (ci := a) (fs := (List.range N).map (fun k => zfv ad (zclr S.2.1 S.1.length (-1)) (zclr S.2.2 S.1.length 0) S.1.length k (zftc (zfty cl a k)))) C.1 C.2.1 C.2.2.2.1 O'.1 (zfty cl a) O'.2.1 C.2.2.1 (C.2.2.2.1 _ hw) (C.2.2.2.1 _ O'.2.2.2.1) (C.2.2.2.1 _ O'.2.2.2.2.1) C.2.2.2.2.2.2.1.1 hP hD hS C.2.2.2.2.2.1 hc ?_ (by omega) (by show slots + N ≤ R.slots; omega) hd (fun q H1 hP1 hD1 hS1 => ?_)
  · intro j hj
    unfold vp_V
    rw [List.getD_eq_getElem?_getD, zfs_at hj]
    have h7 := O'.2.2.2.2.2 j hj
    simp only [Option.getD_some]
    revert h7
    unfold zfv zclr
    simp only [if_true]
    cases zfty cl a j <;> intro h7 <;> first | rfl | (exact absurd rfl h7)
  · generalize had' : (fun i => if i = S.1.length then q else ad i) = ad'
    have g1 : ∀ i, i < S.1.length → ad' i = ad i := fun i hi => by rw [← had']; dsimp only; rw [if_neg (by omega)]
    have g2 : ad' S.1.length = q := by rw [← had']; dsimp only; rw [if_pos rfl]
    have ew := zw_push (cl := cl) (aC := aC) (t := (0, a)) hok.2.2 g1
    rw [g2, zcell_o, hN] at ew
    have ef : (List.range N).map (fun k => zfv ad (zclr S.2.1 S.1.length (-1)) (zclr S.2.2 S.1.length 0) S.1.length k (zftc (zfty cl a k))) = (List.range N).map (fun k => zfv ad' (zclr S.2.1 S.1.length (-1)) (zclr S.2.2 S.1.length 0) S.1.length k (zftc (zfty cl a k))) := by
      apply List.map_congr_left
      intro k hk
      unfold zfv zclr zrv
      simp
    rw [ef, ← ew] at hP1 hD1
    have kk := K0 ad' L H1 locs (cells + 1) (slots + N) (fun i hi => by rw [g1 i (by omega)]; exact h1 i hi) (fun hq => by rw [List.length_append] at hq; simp at hq; omega) (zlv_ext g1 hok.1 hl) hP1 hD1 hS1 (by rw [List.length_append, List.length_singleton]; omega) (by rw [zsl_push, if_pos rfl, hN]; omega) (by
      intro t ht
      rcases List.mem_append.mp ht with q | q
      · exact h5 t q
      · rw [List.mem_singleton.mp q]; exact ha)
    rw [List.map_cons, zc_ref, g2, zvok_map g1 hok.2.1] at kk
    exact kk
theorem zs_newa (C : zCx p R s m args meth c D cl aC ov A X cc own nm Ts) {a : Nat} {x : Int} {at' : ArrayType} {ty : FieldType} (hty : newarray.typeOf at' = ty) (hprim : (a = 1 ∧ ty = .int) ∨ (a = 2 ∧ ty = .long) ∨ (a = 3 ∧ ty = .byte) ∨ (a = 4 ∧ ty = .boolean)) (h0 : 0 ≤ x) (hx : x < 100000) (hw : Cond.arrayClass ty ∈ Ts) (hok : zvok S.1.length ls = true ∧ zvok S.1.length r = true ∧ zrok S.1.length S.1 (znF cl) S.2.1 = true) (hR : S.1.length + 1 ≤ k0 + R.cells) (hR2 : zsl (znF cl) (S.1 ++ [(a, x.toNat)]) ≤ s0 + R.slots) (hd : decode cc pc = .ok (.newarray at', 2)) (K0 : zAt p l e R s m args below meth c Q D cl aC ov A k0 s0 ad0 (pc + 2) ls ((2, (S.1.length : Int)) :: r) (S.1 ++ [(a, x.toNat)], zclr S.2.1 S.1.length (-1), zclr S.2.2 S.1.length 0)) : zAt p l e R s m args below meth c Q D cl aC ov A k0 s0 ad0 pc ls ((0, x) :: r) S := by
  intro ad L H locs cells slots h1 h2 hl hP hD hS h3 h4 h5
  have hb : x.toNat * componentBytes ty ≤ 536870912 := by
    rcases hprim with ⟨-, rfl⟩ | ⟨-, rfl⟩ | ⟨-, rfl⟩ | ⟨-, rfl⟩ <;> simp only [componentBytes] <;> omega
  rw [zsl_push, if_neg (by omega)] at hR2
  dsimp only at hR2
  generalize hc0 : zcell cl aC ad (zclr S.2.1 S.1.length (-1)) (zclr S.2.2 S.1.length 0) S.1.length (a, x.toNat) = cz
  have hcz : ∃ a0 : vp_A, (∀ cA : ClassId, vp_cell cA a0 = arrV cA x.toNat (fun _ => defaultValue ty)) ∧ cz = .inl (aC a, a0) := by
    subst hc0
    rcases hprim with ⟨rfl, rfl⟩ | ⟨rfl, rfl⟩ | ⟨rfl, rfl⟩ | ⟨rfl, rfl⟩
    · exact ⟨(x.toNat, .inl (fun j => Int32.ofInt (zclr S.2.2 S.1.length 0 S.1.length j))), fun cA => by rw [vp_cell_i]; simp [zclr, defaultValue], rfl⟩
    · exact ⟨(x.toNat, .inr (.inl (fun j => Int64.ofInt (zclr S.2.2 S.1.length 0 S.1.length j)))), fun cA => by rw [vp_cell_l]; simp [zclr, defaultValue], rfl⟩
    · exact ⟨(x.toNat, .inl (fun j => Int32.ofInt (zclr S.2.2 S.1.length 0 S.1.length j))), fun cA => by rw [vp_cell_i]; simp [zclr, defaultValue], rfl⟩
    · exact ⟨(x.toNat, .inl (fun j => Int32.ofInt (zclr S.2.2 S.1.length 0 S.1.length j))), fun cA => by rw [vp_cell_i]; simp [zclr, defaultValue], rfl⟩
  obtain ⟨a0, ha0, hcz⟩ := hcz
  have hK := C.2.2.2.2.2.2.1.1
  refine va_newa C.1 C.2.1 (by rw [hty]; exact C.2.2.2.1 _ hw) hty hK hP hD hS C.2.2.2.2.2.1 ha0 (fun q => ?_) (zi_clamp h0 (by omega)) hb (by omega) (by omega) hd (fun q cA H1 hK1 hP1 hD1 hS1 => ?_)
  · have := (zi_lt (x := x) (y := 0) ⟨by omega, by omega⟩ ⟨by decide, by decide⟩).mp q
    omega
  · have hcA : cA = aC a := by
      have k1 := (hK1.2 5 (cA, ty) (by simp [zTys])).2
      rcases hprim with ⟨rfl, rfl⟩ | ⟨rfl, rfl⟩ | ⟨rfl, rfl⟩ | ⟨rfl, rfl⟩
      · have k2 := (hK.2 0 (aC 1, .int) rfl).2
        exact Option.some.inj (k1.symm.trans k2)
      · have k2 := (hK.2 1 (aC 2, .long) rfl).2
        exact Option.some.inj (k1.symm.trans k2)
      · have k2 := (hK.2 2 (aC 3, .byte) rfl).2
        exact Option.some.inj (k1.symm.trans k2)
      · have k2 := (hK.2 3 (aC 4, .boolean) rfl).2
        exact Option.some.inj (k1.symm.trans k2)
    subst hcA
    generalize had' : (fun i => if i = S.1.length then q else ad i) = ad'
    have g1 : ∀ i, i < S.1.length → ad' i = ad i := fun i hi => by rw [← had']; dsimp only; rw [if_neg (by omega)]
    have g2 : ad' S.1.length = q := by rw [← had']; dsimp only; rw [if_pos rfl]
    have ew := zw_push (cl := cl) (aC := aC) (t := (a, x.toNat)) hok.2.2 g1
    have ef : zcell cl aC ad' (zclr S.2.1 S.1.length (-1)) (zclr S.2.2 S.1.length 0) S.1.length (a, x.toNat) = .inl (aC a, a0) := by
      rw [← hcz, ← hc0]
      exact zcell_cg2 (n := 0) (fun k hk => by unfold zclr; rw [if_pos rfl]; decide) (fun i hi => absurd hi (Nat.not_lt_zero i)) (fun _ => rfl) (fun _ => rfl)
    rw [g2, ef] at ew
    rw [← ew] at hP1 hD1
    have kk := K0 ad' L H1 locs (cells + 1) (slots + x.toNat) (fun i hi => by rw [g1 i (by omega)]; exact h1 i hi) (fun hq => by rw [List.length_append] at hq; simp at hq; omega) (zlv_ext g1 hok.1 hl) hP1 hD1 hS1 (by rw [List.length_append, List.length_singleton]; omega) (by rw [zsl_push, if_neg (by omega)]; dsimp only; omega) (by
      intro t ht
      rcases List.mem_append.mp ht with q | q
      · exact h5 t q
      · rw [List.mem_singleton.mp q]; dsimp only; omega)
    rw [List.map_cons, zc_ref, g2, zvok_map g1 hok.2.1] at kk
    exact kk
theorem zs_anewa (C : zCx p R s m args meth c D cl aC ov A X cc own nm Ts) {idx : Nat} {x : Int} (h0 : 0 ≤ x) (hx : x < 100000) (hw : Cond.classLink own idx "SoapDeeds$Scene" ∈ Ts) (hok : zvok S.1.length ls = true ∧ zvok S.1.length r = true ∧ zrok S.1.length S.1 (znF cl) S.2.1 = true) (hR : S.1.length + 1 ≤ k0 + R.cells) (hR2 : zsl (znF cl) (S.1 ++ [(5, x.toNat)]) ≤ s0 + R.slots) (hd : decode cc pc = .ok (.anewarray idx, 3)) (K0 : zAt p l e R s m args below meth c Q D cl aC ov A k0 s0 ad0 (pc + 3) ls ((2, (S.1.length : Int)) :: r) (S.1 ++ [(5, x.toNat)], zclr S.2.1 S.1.length (-1), zclr S.2.2 S.1.length 0)) : zAt p l e R s m args below meth c Q D cl aC ov A k0 s0 ad0 pc ls ((0, x) :: r) S := by
  intro ad L H locs cells slots h1 h2 hl hP hD hS h3 h4 h5
  rw [zsl_push, if_neg (by show ¬ (5 : Nat) = 0; decide)] at hR2
  dsimp only at hR2
  have hK := C.2.2.2.2.2.2.1.1
  refine va_newq C.1 C.2.1 C.2.2.1 (C.2.2.2.1 _ hw) C.2.2.2.2.2.2.1.2.2.2.2.2.2.2.1.1 hK hP hD hS C.2.2.2.2.2.1 (fun q => ?_) (zi_clamp h0 (by omega)) (by omega) (by omega) (by omega) hd (fun q cA H1 hK1 hP1 hD1 hS1 => ?_)
  · have := (zi_lt (x := x) (y := 0) ⟨by omega, by omega⟩ ⟨by decide, by decide⟩).mp q
    omega
  · have hcA : cA = aC 5 := by
      obtain ⟨_, _, _, _, _, k1⟩ := (hK1.2 5 (cA, .object "SoapDeeds$Scene") (by simp [zTys])).2
      obtain ⟨_, _, _, _, _, k2⟩ := (hK.2 4 (aC 5, .object "SoapDeeds$Scene") rfl).2
      exact Option.some.inj (k1.symm.trans k2)
    subst hcA
    generalize had' : (fun i => if i = S.1.length then q else ad i) = ad'
    have g1 : ∀ i, i < S.1.length → ad' i = ad i := fun i hi => by rw [← had']; dsimp only; rw [if_neg (by omega)]
    have g2 : ad' S.1.length = q := by rw [← had']; dsimp only; rw [if_pos rfl]
    have ew := zw_push (cl := cl) (aC := aC) (t := (5, x.toNat)) hok.2.2 g1
    have ef : zcell cl aC ad' (zclr S.2.1 S.1.length (-1)) (zclr S.2.2 S.1.length 0) S.1.length (5, x.toNat) = .inl (aC 5, x.toNat, .inr (.inr (.inr (.inr (fun _ => none))))) := by
      show Sum.inl (aC 5, x.toNat, Sum.inr (Sum.inr (Sum.inr (Sum.inr (fun j => if j < x.toNat then zro ad' (zclr S.2.1 S.1.length (-1) S.1.length j) else none))))) = _
      have : (fun j => if j < x.toNat then zro ad' (zclr S.2.1 S.1.length (-1) S.1.length j) else none) = fun _ => none := by
        funext j
        unfold zclr zro
        simp
      rw [this]
    rw [g2, ef] at ew
    rw [← ew] at hP1 hD1
    have kk := K0 ad' L H1 locs (cells + 1) (slots + x.toNat) (fun i hi => by rw [g1 i (by omega)]; exact h1 i hi) (fun hq => by rw [List.length_append] at hq; simp at hq; omega) (zlv_ext g1 hok.1 hl) hP1 hD1 hS1 (by rw [List.length_append, List.length_singleton]; omega) (by rw [zsl_push, if_neg (by show ¬ (5 : Nat) = 0; decide)]; dsimp only; omega) (by
      intro t ht
      rcases List.mem_append.mp ht with q | q
      · exact h5 t q
      · rw [List.mem_singleton.mp q]; dsimp only; omega)
    rw [List.map_cons, zc_ref, g2, zvok_map g1 hok.2.1] at kk
    exact kk
theorem zs_aast (C : zCx p R s m args meth c D cl aC ov A X cc own nm Ts) {q n v a : Nat} {i : Int} {cq : vw_C} (hc : cl[a]? = some cq) (hcn : cq.1 = "SoapDeeds$Scene") (ht : S.1[q]? = some (5, n)) (hv : S.1[v]? = some (0, a)) (h0 : 0 ≤ i) (hn : i < n) (hd : decode cc pc = .ok (.aastore, 1)) (K0 : zAt p l e R s m args below meth c Q D cl aC ov A k0 s0 ad0 (pc + 1) ls r (S.1, zup S.2.1 q i.toNat (v : Int), S.2.2)) : zAt p l e R s m args below meth c Q D cl aC ov A k0 s0 ad0 pc ls ((2, (v : Int)) :: (0, i) :: (2, (q : Int)) :: r) S := by
  intro ad L H locs cells slots h1 h2 hl hP hD hS h3 h4 h5
  have hN : n < 100000 := h5 (5, n) (List.mem_of_getElem? ht)
  rw [List.map_cons, List.map_cons, List.map_cons, zc_ref, zc_ref]
  refine va_astq C.1 C.2.1 C.2.2.2.2.2.2.1.1 hP hD hS q 4 v a (zw_at ht) (by rw [hcn]; rfl) (zw_at hv) hc (zi_in h0 hn (by omega)) hd (fun H1 locs1 hP1 hD1 hS1 => ?_)
  have e0 : (Int32.ofInt i).toNatClampNeg = i.toNat := zi_clamp h0 (by omega)
  have ef : va_up (fun j => if j < n then zro ad (S.2.1 q j) else none) i.toNat (some (ad v)) = fun j => if j < n then zro ad (zup S.2.1 q i.toNat (v : Int) q j) else none := by
    funext j
    simp only [va_up, zup, if_true]
    by_cases hj : j = i.toNat
    · subst hj
      rw [if_pos rfl, if_pos rfl, if_pos (by omega)]
      unfold zro
      rw [if_neg (by omega)]
      rfl
    · rw [if_neg hj, if_neg hj]
  have ew := zw_set (cl := cl) (aC := aC) (ad := ad) (rf := S.2.1) (mem := S.2.2) (rf' := zup S.2.1 q i.toNat (v : Int)) (mem' := S.2.2) ht (congrArg (fun f => (Sum.inl (aC 5, n, Sum.inr (Sum.inr (Sum.inr (Sum.inr f)))) : va_E)) ef) (fun b' hb' k => by simp [zup, hb'])
  exact K0 ad L H1 locs1 cells slots h1 h2 hl (by rw [← ew, ← e0]; exact hP1) (by rw [← ew, ← e0]; exact hD1) hS1 h3 h4 h5
theorem zs_objInit (C : zCx p R s m args meth c D cl aC ov A X cc own nm Ts) {idx q : Nat} (hml : c.maxLocals = ls.length) (hcat : zcat r ≤ 8) (hw : Cond.methodLink own idx Lib.objectInit ∈ Ts) (hw2 : Cond.instanceMethod Lib.objectInit ∈ Ts) (hw3 : Cond.code Lib.objectInit ⟨#[0xb1]⟩ 1 none ∈ Ts) (hd : decode cc pc = .ok (.invokespecial idx, 3)) (K0 : zAt p l e R s m args below meth c Q D cl aC ov A k0 s0 ad0 (pc + 3) ls r S) : zAt p l e R s m args below meth c Q D cl aC ov A k0 s0 ad0 pc ls ((2, (q : Int)) :: r) S := by
  intro ad L H locs cells slots h1 h2 hl hP hD hS h3 h4 h5
  rw [List.map_cons, zc_ref]
  have e1 : ((r.map (zc ov ad)).map fun v => v.category).sum = zcat r := by
    unfold zcat
    rw [List.map_map]
    congr 1
    apply List.map_congr_left
    intro v _
    exact zc_cat (zEnv.cat C.2.2.2.2.2.2.1)
  refine W.objInit C.1 C.2.1 C.2.2.1 (C.2.2.2.1 _ hw) (C.2.2.2.1 _ hw2) (C.2.2.2.1 _ hw3) rfl (hl.1.trans hml.symm) rfl hd C.2.2.2.2.2.2.2.1 ?_ (K0 ad L H locs cells slots h1 h2 hl hP hD hS h3 h4 h5)
  rw [e1]
  have h9 := C.2.2.2.2.2.2.2.2
  show 2 * 0 + zcat r + 12 ≤ R.locals
  omega
theorem zs_copy (C : zCx p R s m args meth c D cl aC ov A X cc own nm Ts) {idx q q1 n0 n1 : Nat} {sp dp n : Int} (hml : c.maxLocals = ls.length) (hcat : zcat r ≤ 8) (hw : Cond.methodLink own idx arraycopyName ∈ Ts) (hw2 : Cond.native arraycopyName ∈ Ts) (hw3 : Cond.static arraycopyName ∈ Ts) (hw4 : Cond.initialized "java/lang/System" ∈ Ts) (ht : S.1[q1]? = some (1, n0)) (hu : S.1[q]? = some (1, n1)) (g1 : 0 ≤ sp) (g2 : 0 ≤ dp) (g3 : 0 ≤ n) (g4 : n < 100000) (g5 : sp < 100000) (g6 : dp < 100000) (g7 : sp + n ≤ n0) (g8 : dp + n ≤ n1) (hd : decode cc pc = .ok (.invokestatic idx, 3)) (K0 : zAt p l e R s m args below meth c Q D cl aC ov A k0 s0 ad0 (pc + 3) ls r (S.1, S.2.1, fun b k => if b = q ∧ dp.toNat ≤ k ∧ k < dp.toNat + n.toNat then S.2.2 q1 (sp.toNat + (k - dp.toNat)) else S.2.2 b k)) : zAt p l e R s m args below meth c Q D cl aC ov A k0 s0 ad0 pc ls ((0, n) :: (0, dp) :: (2, (q : Int)) :: (0, sp) :: (2, (q1 : Int)) :: r) S := by
  intro ad L H locs cells slots h1 h2 hl hP hD hS h3 h4 h5
  rw [List.map_cons, List.map_cons, List.map_cons, List.map_cons, List.map_cons, zc_ref, zc_ref]
  have e1 : ((r.map (zc ov ad)).map fun v => v.category).sum = zcat r := by
    unfold zcat
    rw [List.map_map]
    congr 1
    apply List.map_congr_left
    intro v _
    exact zc_cat (zEnv.cat C.2.2.2.2.2.2.1)
  have nn : ∀ z : Int, 0 ≤ z → z < 100000 → ¬ Int32.ofInt z < 0 := fun z z1 z2 q => by
    have := (zi_lt (x := z) (y := 0) ⟨by omega, by omega⟩ ⟨by decide, by decide⟩).mp q
    omega
  have c1 : (Int32.ofInt sp).toNatClampNeg = sp.toNat := zi_clamp g1 (by omega)
  have c2 : (Int32.ofInt dp).toNatClampNeg = dp.toNat := zi_clamp g2 (by omega)
  have c3 : (Int32.ofInt n).toNatClampNeg = n.toNat := zi_clamp g3 (by omega)
  refine va_copyi C.1 C.2.1 (hml.trans hl.1.symm) C.2.2.1 (C.2.2.2.1 _ hw) (C.2.2.2.1 _ hw2) (C.2.2.2.1 _ hw3) (C.2.2.2.1 _ hw4) C.2.2.2.2.2.2.1.1 hP hD hS q1 q 0 0 (zw_at ht) (zw_at hu) rfl rfl rfl (nn sp g1 g5) (nn dp g2 g6) (nn n g3 g4) (by rw [show (Int32.ofInt ((0, sp) : zV).2) = Int32.ofInt sp from rfl, show (Int32.ofInt ((0, n) : zV).2) = Int32.ofInt n from rfl, c1, c3]; omega) (by rw [show (Int32.ofInt ((0, dp) : zV).2) = Int32.ofInt dp from rfl, show (Int32.ofInt ((0, n) : zV).2) = Int32.ofInt n from rfl, c2, c3]; omega) (fun _ _ => rfl) C.2.2.2.2.2.2.2.1 ?_ hd (fun H1 locs1 hP1 hD1 hS1 => ?_)
  · rw [e1]
    have h9 := C.2.2.2.2.2.2.2.2
    have h10 : nativeFrameWords "java/lang/System" "arraycopy" 5 ≤ 40 := by decide +kernel
    omega
  · have ef : va_cpy (fun j => Int32.ofInt (S.2.2 q1 j)) (fun j => Int32.ofInt (S.2.2 q j)) sp.toNat dp.toNat n.toNat = fun j => Int32.ofInt (if q = q ∧ dp.toNat ≤ j ∧ j < dp.toNat + n.toNat then S.2.2 q1 (sp.toNat + (j - dp.toNat)) else S.2.2 q j) := by
      funext j
      simp only [va_cpy, true_and]
      split <;> rfl
    have ew := zw_set (cl := cl) (aC := aC) (ad := ad) (rf := S.2.1) (mem := S.2.2) (rf' := S.2.1) (mem' := fun b k => if b = q ∧ dp.toNat ≤ k ∧ k < dp.toNat + n.toNat then S.2.2 q1 (sp.toNat + (k - dp.toNat)) else S.2.2 b k) hu (congrArg (fun f => (Sum.inl (aC 1, n1, Sum.inl f) : va_E)) ef) (fun b' hb' k => by simp [hb'])
    exact K0 ad L H1 locs1 cells slots h1 h2 hl (by rw [← ew, ← c1, ← c2, ← c3]; exact hP1) (by rw [← ew, ← c1, ← c2, ← c3]; exact hD1) hS1 h3 h4 h5
end ZN
