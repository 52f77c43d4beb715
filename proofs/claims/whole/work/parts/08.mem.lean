theorem zc_ref {ov : Nat → Value} {ad : Nat → Nat} (q : Nat) : zc ov ad (2, (q : Int)) = .ref (ad q) := by
  show zrv ad (q : Int) = _
  unfold zrv
  rw [if_neg (by omega)]
  rfl
theorem zcell_o {cl : List vw_C} {aC : Nat → ClassId} {ad : Nat → Nat} {rf mem : zF} {q a : Nat} : zcell cl aC ad rf mem q (0, a) = .inr (a, (List.range (znF cl a)).map (fun k => zfv ad rf mem q k (zftc (zfty cl a k)))) := rfl
theorem zfs_set {N b : Nat} {f g : Nat → Value} {v : Value} (hv : v = g b) (ho : ∀ k, k ≠ b → f k = g k) : ((List.range N).map f).set b v = (List.range N).map g := by
  subst hv
  apply List.ext_getElem?
  intro j
  by_cases hj : j = b
  · subst hj
    by_cases hl : j < N
    · rw [List.getElem?_set_self (by simpa using hl)]
      simp [hl]
    · rw [List.getElem?_eq_none (by simpa using hl), List.getElem?_eq_none (by simpa using hl)]
  · rw [List.getElem?_set_ne (Ne.symm hj)]
    by_cases hl : j < N
    · simp [hl, ho j hj]
    · rw [List.getElem?_eq_none (by simpa using hl), List.getElem?_eq_none (by simpa using hl)]
theorem zfs_at {N b : Nat} {f : Nat → Value} (h : b < N) : ((List.range N).map f)[b]? = some (f b) := by simp [h]
theorem znF_of {cl : List vw_C} {a : Nat} {q : vw_C} (h : cl[a]? = some q) : znF cl a = q.2.2 := by unfold znF; rw [h]
theorem zfv_v {ov : Nat → Value} {ad : Nat → Nat} {rf mem : zF} {q b c : Nat} : zfv ad rf mem q b c = zc ov ad (if c = 1 then (1, mem q b) else if c = 2 then (2, rf q b) else (0, mem q b)) := by
  unfold zfv
  split
  · rfl
  · split <;> rfl
theorem zvok_map {ov : Nat → Value} {ad ad' : Nat → Nat} {n : Nat} {l : List zV} (h : ∀ i, i < n → ad' i = ad i) (hl : zvok n l = true) : l.map (zc ov ad') = l.map (zc ov ad) := by
  apply List.map_congr_left
  intro v hv
  have h1 := List.all_eq_true.mp hl v hv
  unfold zc zrv
  by_cases h2 : v.1 = 2
  · simp [h2] at h1 ⊢
    split
    · rfl
    · rw [h _ (by omega)]
  · simp [h2]
theorem zlv_ext {ov : Nat → Value} {ad ad' : Nat → Nat} {n : Nat} {ls : List zV} {L : Array Slot} (h : ∀ i, i < n → ad' i = ad i) (hl : zvok n ls = true) (H : zlv ov ad ls L) : zlv ov ad' ls L := by
  refine ⟨H.1, H.2.1, fun i hi => ?_⟩
  rw [H.2.2 i hi]
  have hm : ls.getD i (9, 0) ∈ ls := by
    rcases Nat.lt_or_ge i ls.length with q | q
    · rw [List.getD_eq_getElem?_getD, List.getElem?_eq_getElem q]
      exact List.getElem_mem q
    · exact absurd (by rw [List.getD_eq_getElem?_getD, List.getElem?_eq_none q]; rfl) hi
  have e := zvok_map (ov := ov) h (l := [ls.getD i (9, 0)]) (by
    unfold zvok
    rw [List.all_cons, List.all_nil, Bool.and_true]
    exact List.all_eq_true.mp hl _ hm)
  have e2 := List.cons.inj e
  rw [e2.1]
theorem zi_b {x : Int} (h : -128 ≤ x ∧ x < 128) : (Int32.ofInt x).toInt8.toInt32 = Int32.ofInt x := by
  rw [← Int32.toInt_inj, Int8.toInt_toInt32, Int32.toInt_toInt8, zi_toInt ⟨by omega, by omega⟩]
  exact Int.bmod_eq_of_le (by omega) (by omega)
section ZM
variable {p : Program} {l : Launch} {e : Env} {R : Room} {s : State} {m : MethodId} {args : Array Value} {below : List Frame} {meth : Method} {c : Code} {Q : State → Prop} {D : va_G} {cl : List vw_C} {aC : Nat → ClassId} {ov : Nat → Value} {A : Nat → Prop} {X : zX} {k0 s0 : Nat} {ad0 : Nat → Nat} {cc : ByteArray} {own nm : String} {Ts : List Cond} {pc : Nat} {ls r : List zV} {S : zS}
theorem zs_getf (C : zCx p R s m args meth c D cl aC ov A X cc own nm Ts) {idx a b q : Nat} {cq : vw_C} {u : Nat} (O : zClo cl Ts) (hc : cl[a]? = some cq) (hb : b < cq.2.2) (hw : Cond.fieldLink own idx (cq.2.1 b).1 (cq.2.1 b).2.1 (cq.2.1 b).2.2.1 ∈ Ts) (ht : S.1[q]? = some (0, a)) (hu : zftc (zfty cl a b) = u) (hd : decode cc pc = .ok (.getfield idx, 3)) (K0 : zAt p l e R s m args below meth c Q D cl aC ov A k0 s0 ad0 (pc + 3) ls ((if u = 1 then (1, S.2.2 q b) else if u = 2 then (2, S.2.1 q b) else (0, S.2.2 q b)) :: r) S) : zAt p l e R s m args below meth c Q D cl aC ov A k0 s0 ad0 pc ls ((2, (q : Int)) :: r) S := by
  intro ad L H locs cells slots h1 h2 hl hP hD hS h3 h4 h5
  subst hu
  rw [List.map_cons, zc_ref]
  have he := zw_at (cl := cl) (aC := aC) (ad := ad) ht
  rw [zcell_o] at he
  obtain ⟨cn, T, N⟩ := cq
  refine va_get C.1 C.2.1 C.2.2.2.1 (O a _ hc).1 C.2.2.1 C.2.2.2.2.2.2.1.1 hP q he hc b hb (C.2.2.2.1 _ hw) (fun _ h => h) (v := zfv ad S.2.1 S.2.2 q b (zftc (zfty cl a b))) (zfs_at (by rw [znF_of hc]; exact hb)) hd ?_
  rw [zfv_v (ov := ov)]
  exact K0 ad L H locs cells slots h1 h2 hl hP hD hS h3 h4 h5
theorem zs_getfV (C : zCx p R s m args meth c D cl aC ov A X cc own nm Ts) {idx : Nat} (hw : Cond.fieldLink own idx "java/lang/String" "value" "[B" ∈ Ts) (hd : decode cc pc = .ok (.getfield idx, 3)) (K0 : zAt p l e R s m args below meth c Q D cl aC ov A k0 s0 ad0 (pc + 3) ls ((3, 2) :: r) S) : zAt p l e R s m args below meth c Q D cl aC ov A k0 s0 ad0 pc ls ((3, 1) :: r) S := by
  intro ad L H locs cells slots h1 h2 hl hP hD hS h3 h4 h5
  obtain ⟨aK, aV, e1, e2, e3, e4, e5, e6, e7⟩ := C.2.2.2.2.2.2.1.2.2.2.2.2.2.1
  have kk := K0 ad L H locs cells slots h1 h2 hl hP hD hS h3 h4 h5
  have q1 : zc ov ad (3, 1) = .ref aK := e1
  have q2 : zc ov ad (3, 2) = .ref aV := e2
  rw [List.map_cons, q2] at kk
  rw [List.map_cons, q1]
  exact vk_getf C.1 C.2.1 e6 hS C.2.2.1 (C.2.2.2.1 _ hw) (fun _ h => h) hd kk
theorem zs_getfC (C : zCx p R s m args meth c D cl aC ov A X cc own nm Ts) {idx : Nat} (hw : Cond.fieldLink own idx "java/lang/String" "coder" "B" ∈ Ts) (hd : decode cc pc = .ok (.getfield idx, 3)) (K0 : zAt p l e R s m args below meth c Q D cl aC ov A k0 s0 ad0 (pc + 3) ls ((0, 0) :: r) S) : zAt p l e R s m args below meth c Q D cl aC ov A k0 s0 ad0 pc ls ((3, 1) :: r) S := by
  intro ad L H locs cells slots h1 h2 hl hP hD hS h3 h4 h5
  obtain ⟨aK, aV, e1, e2, e3, e4, e5, e6, e7⟩ := C.2.2.2.2.2.2.1.2.2.2.2.2.2.1
  have kk := K0 ad L H locs cells slots h1 h2 hl hP hD hS h3 h4 h5
  have q1 : zc ov ad (3, 1) = .ref aK := e1
  rw [List.map_cons, q1]
  exact vk_getf C.1 C.2.1 e5 hS C.2.2.1 (C.2.2.2.1 _ hw) (fun _ h => h) hd kk
theorem zs_gets_col (C : zCx p R s m args meth c D cl aC ov A X cc own nm Ts) {idx : Nat} (hw : Cond.fieldLink own idx "SoapDeeds$Plan" "COLUMN_STEP" "[I" ∈ Ts) (hd : decode cc pc = .ok (.getstatic idx, 3)) (K0 : zAt p l e R s m args below meth c Q D cl aC ov A k0 s0 ad0 (pc + 3) ls ((3, 3) :: r) S) : zAt p l e R s m args below meth c Q D cl aC ov A k0 s0 ad0 pc ls r S := by
  intro ad L H locs cells slots h1 h2 hl hP hD hS h3 h4 h5
  have kk := K0 ad L H locs cells slots h1 h2 hl hP hD hS h3 h4 h5
  obtain ⟨t, e1, e2, e3⟩ := C.2.2.2.2.2.2.1.2.2.1
  have q1 : zc ov ad (3, 3) = .ref t := e1
  rw [List.map_cons, q1] at kk
  exact va_gets C.1 C.2.1 e2 hS C.2.2.1 (C.2.2.2.1 _ hw) (fun _ h => h) hd kk
theorem zs_gets_row (C : zCx p R s m args meth c D cl aC ov A X cc own nm Ts) {idx : Nat} (hw : Cond.fieldLink own idx "SoapDeeds$Plan" "ROW_STEP" "[I" ∈ Ts) (hd : decode cc pc = .ok (.getstatic idx, 3)) (K0 : zAt p l e R s m args below meth c Q D cl aC ov A k0 s0 ad0 (pc + 3) ls ((3, 4) :: r) S) : zAt p l e R s m args below meth c Q D cl aC ov A k0 s0 ad0 pc ls r S := by
  intro ad L H locs cells slots h1 h2 hl hP hD hS h3 h4 h5
  have kk := K0 ad L H locs cells slots h1 h2 hl hP hD hS h3 h4 h5
  obtain ⟨t, e1, e2, e3⟩ := C.2.2.2.2.2.2.1.2.2.2.1
  have q1 : zc ov ad (3, 4) = .ref t := e1
  rw [List.map_cons, q1] at kk
  exact va_gets C.1 C.2.1 e2 hS C.2.2.1 (C.2.2.2.1 _ hw) (fun _ h => h) hd kk
theorem zs_gets_cmp (C : zCx p R s m args meth c D cl aC ov A X cc own nm Ts) {idx : Nat} (hw : Cond.fieldLink own idx "java/lang/String" "COMPACT_STRINGS" "Z" ∈ Ts) (hd : decode cc pc = .ok (.getstatic idx, 3)) (K0 : zAt p l e R s m args below meth c Q D cl aC ov A k0 s0 ad0 (pc + 3) ls ((0, 1) :: r) S) : zAt p l e R s m args below meth c Q D cl aC ov A k0 s0 ad0 pc ls r S := by
  intro ad L H locs cells slots h1 h2 hl hP hD hS h3 h4 h5
  have kk := K0 ad L H locs cells slots h1 h2 hl hP hD hS h3 h4 h5
  exact va_gets C.1 C.2.1 C.2.2.2.2.2.2.1.2.2.2.2.1 hS C.2.2.1 (C.2.2.2.1 _ hw) (fun _ h => h) hd kk
theorem zs_gets_fmt (C : zCx p R s m args meth c D cl aC ov A X cc own nm Ts) {idx : Nat} (hw : Cond.fieldLink own idx "jdk/internal/util/Preconditions" "SIOOBE_FORMATTER" "Ljava/util/function/BiFunction;" ∈ Ts) (hd : decode cc pc = .ok (.getstatic idx, 3)) (K0 : zAt p l e R s m args below meth c Q D cl aC ov A k0 s0 ad0 (pc + 3) ls ((3, 5) :: r) S) : zAt p l e R s m args below meth c Q D cl aC ov A k0 s0 ad0 pc ls r S := by
  intro ad L H locs cells slots h1 h2 hl hP hD hS h3 h4 h5
  have kk := K0 ad L H locs cells slots h1 h2 hl hP hD hS h3 h4 h5
  exact va_gets C.1 C.2.1 C.2.2.2.2.2.2.1.2.2.2.2.2.1 hS C.2.2.1 (C.2.2.2.1 _ hw) (fun _ h => h) hd kk
theorem zs_putfI (C : zCx p R s m args meth c D cl aC ov A X cc own nm Ts) {idx a b q : Nat} {cq : vw_C} {x : Int} (O : zClo cl Ts) (hc : cl[a]? = some cq) (hb : b < cq.2.2) (hw : Cond.fieldLink own idx (cq.2.1 b).1 (cq.2.1 b).2.1 (cq.2.1 b).2.2.1 ∈ Ts) (ht : S.1[q]? = some (0, a)) (hu : zftc (zfty cl a b) = 0) (hf : (cq.2.1 b).2.2.2 = false) (hd : decode cc pc = .ok (.putfield idx, 3)) (K0 : zAt p l e R s m args below meth c Q D cl aC ov A k0 s0 ad0 (pc + 3) ls r (S.1, S.2.1, zup S.2.2 q b x)) : zAt p l e R s m args below meth c Q D cl aC ov A k0 s0 ad0 pc ls ((0, x) :: (2, (q : Int)) :: r) S := by
  intro ad L H locs cells slots h1 h2 hl hP hD hS h3 h4 h5
  rw [List.map_cons, List.map_cons, zc_ref]
  have he := zw_at (cl := cl) (aC := aC) (ad := ad) ht
  rw [zcell_o] at he
  obtain ⟨cn, T, N⟩ := cq
  have hpd := (O a _ hc).2.1 b hb
  have hnf : (narrow (zfty cl a b) (.int (Int32.ofInt x)) = .int (Int32.ofInt x)) ∧ fits (zfty cl a b) (.int (Int32.ofInt x)) = true := by
    revert hu
    cases zfty cl a b <;> intro hu <;> first | (simp [zftc] at hu; done) | (refine ⟨rfl, rfl⟩)
  refine va_put C.1 C.2.1 C.2.2.2.1 (O a _ hc).1 (zfty cl a) (O a _ hc).2.1 (O a _ hc).2.2.1 C.2.2.1 C.2.2.2.2.2.2.1.1 hP hD hS q he hc b hb (C.2.2.2.1 _ hw) (fun _ h => h) hf hpd hnf.1 hnf.2 (by simp [znF_of hc]; exact hb) hd (fun H1 locs1 hP1 hD1 hS1 => ?_)
  have ew : (zw cl aC ad S).set q (ad q, .inr (a, ((List.range (znF cl a)).map (fun k => zfv ad S.2.1 S.2.2 q k (zftc (zfty cl a k)))).set b (.int (Int32.ofInt x)))) = zw cl aC ad (S.1, S.2.1, zup S.2.2 q b x) := by
    refine zw_set (rf := S.2.1) (mem := S.2.2) ht ?_ ?_
    · rw [zcell_o, zfs_set]
      · unfold zfv
        rw [hu]
        simp [zup]
      · intro k hk
        unfold zfv
        simp [zup, hk]
    · intro b' hb' k
      simp [zup, hb']
  exact K0 ad L H1 locs1 cells slots h1 h2 hl (by rw [← ew]; exact hP1) (by rw [← ew]; exact hD1) hS1 h3 h4 h5
theorem zs_putfIF (C : zCx p R s m args meth c D cl aC ov A X cc own nm Ts) {idx a b q : Nat} {cq : vw_C} {x : Int} (O : zClo cl Ts) (hc : cl[a]? = some cq) (hb : b < cq.2.2) (hw : Cond.fieldLink own idx (cq.2.1 b).1 (cq.2.1 b).2.1 (cq.2.1 b).2.2.1 ∈ Ts) (ht : S.1[q]? = some (0, a)) (hu : zftc (zfty cl a b) = 0) (hf : (cq.2.1 b).2.2.2 = true) (hi : nm = "<init>") (ho : (cq.2.1 b).1 = own) (hd : decode cc pc = .ok (.putfield idx, 3)) (K0 : zAt p l e R s m args below meth c Q D cl aC ov A k0 s0 ad0 (pc + 3) ls r (S.1, S.2.1, zup S.2.2 q b x)) : zAt p l e R s m args below meth c Q D cl aC ov A k0 s0 ad0 pc ls ((0, x) :: (2, (q : Int)) :: r) S := by
  intro ad L H locs cells slots h1 h2 hl hP hD hS h3 h4 h5
  rw [List.map_cons, List.map_cons, zc_ref]
  have he := zw_at (cl := cl) (aC := aC) (ad := ad) ht
  rw [zcell_o] at he
  obtain ⟨cn, T, N⟩ := cq
  have hpd := (O a _ hc).2.1 b hb
  have hnf : (narrow (zfty cl a b) (.int (Int32.ofInt x)) = .int (Int32.ofInt x)) ∧ fits (zfty cl a b) (.int (Int32.ofInt x)) = true := by
    revert hu
    cases zfty cl a b <;> intro hu <;> first | (simp [zftc] at hu; done) | (refine ⟨rfl, rfl⟩)
  refine va_putF C.1 C.2.1 C.2.2.2.1 (O a _ hc).1 (zfty cl a) (O a _ hc).2.1 (O a _ hc).2.2.1 C.2.2.1 C.2.2.2.2.2.2.1.1 hP hD hS q he hc b hb (C.2.2.2.1 _ hw) (fun _ h => h) hf (by rw [C.2.2.2.2.1]; exact hi) ho hpd hnf.1 hnf.2 (by simp [znF_of hc]; exact hb) hd (fun H1 locs1 hP1 hD1 hS1 => ?_)
  have ew : (zw cl aC ad S).set q (ad q, .inr (a, ((List.range (znF cl a)).map (fun k => zfv ad S.2.1 S.2.2 q k (zftc (zfty cl a k)))).set b (.int (Int32.ofInt x)))) = zw cl aC ad (S.1, S.2.1, zup S.2.2 q b x) := by
    refine zw_set (rf := S.2.1) (mem := S.2.2) ht ?_ ?_
    · rw [zcell_o, zfs_set]
      · unfold zfv
        rw [hu]
        simp [zup]
      · intro k hk
        unfold zfv
        simp [zup, hk]
    · intro b' hb' k
      simp [zup, hb']
  exact K0 ad L H1 locs1 cells slots h1 h2 hl (by rw [← ew]; exact hP1) (by rw [← ew]; exact hD1) hS1 h3 h4 h5
theorem zs_putfJ (C : zCx p R s m args meth c D cl aC ov A X cc own nm Ts) {idx a b q : Nat} {cq : vw_C} {x : Int} (O : zClo cl Ts) (hc : cl[a]? = some cq) (hb : b < cq.2.2) (hw : Cond.fieldLink own idx (cq.2.1 b).1 (cq.2.1 b).2.1 (cq.2.1 b).2.2.1 ∈ Ts) (ht : S.1[q]? = some (0, a)) (hu : zftc (zfty cl a b) = 1) (hf : (cq.2.1 b).2.2.2 = false) (hd : decode cc pc = .ok (.putfield idx, 3)) (K0 : zAt p l e R s m args below meth c Q D cl aC ov A k0 s0 ad0 (pc + 3) ls r (S.1, S.2.1, zup S.2.2 q b x)) : zAt p l e R s m args below meth c Q D cl aC ov A k0 s0 ad0 pc ls ((1, x) :: (2, (q : Int)) :: r) S := by
  intro ad L H locs cells slots h1 h2 hl hP hD hS h3 h4 h5
  rw [List.map_cons, List.map_cons, zc_ref]
  have he := zw_at (cl := cl) (aC := aC) (ad := ad) ht
  rw [zcell_o] at he
  obtain ⟨cn, T, N⟩ := cq
  have hpd := (O a _ hc).2.1 b hb
  have hnf : (narrow (zfty cl a b) (.long (Int64.ofInt x)) = .long (Int64.ofInt x)) ∧ fits (zfty cl a b) (.long (Int64.ofInt x)) = true := by
    revert hu
    cases zfty cl a b <;> intro hu <;> first | (simp [zftc] at hu; done) | (refine ⟨rfl, rfl⟩)
  refine va_put C.1 C.2.1 C.2.2.2.1 (O a _ hc).1 (zfty cl a) (O a _ hc).2.1 (O a _ hc).2.2.1 C.2.2.1 C.2.2.2.2.2.2.1.1 hP hD hS q he hc b hb (C.2.2.2.1 _ hw) (fun _ h => h) hf hpd hnf.1 hnf.2 (by simp [znF_of hc]; exact hb) hd (fun H1 locs1 hP1 hD1 hS1 => ?_)
  have ew : (zw cl aC ad S).set q (ad q, .inr (a, ((List.range (znF cl a)).map (fun k => zfv ad S.2.1 S.2.2 q k (zftc (zfty cl a k)))).set b (.long (Int64.ofInt x)))) = zw cl aC ad (S.1, S.2.1, zup S.2.2 q b x) := by
    refine zw_set (rf := S.2.1) (mem := S.2.2) ht ?_ ?_
    · rw [zcell_o, zfs_set]
      · unfold zfv
        rw [hu]
        simp [zup]
      · intro k hk
        unfold zfv
        simp [zup, hk]
    · intro b' hb' k
      simp [zup, hb']
  exact K0 ad L H1 locs1 cells slots h1 h2 hl (by rw [← ew]; exact hP1) (by rw [← ew]; exact hD1) hS1 h3 h4 h5
theorem zs_putfJF (C : zCx p R s m args meth c D cl aC ov A X cc own nm Ts) {idx a b q : Nat} {cq : vw_C} {x : Int} (O : zClo cl Ts) (hc : cl[a]? = some cq) (hb : b < cq.2.2) (hw : Cond.fieldLink own idx (cq.2.1 b).1 (cq.2.1 b).2.1 (cq.2.1 b).2.2.1 ∈ Ts) (ht : S.1[q]? = some (0, a)) (hu : zftc (zfty cl a b) = 1) (hf : (cq.2.1 b).2.2.2 = true) (hi : nm = "<init>") (ho : (cq.2.1 b).1 = own) (hd : decode cc pc = .ok (.putfield idx, 3)) (K0 : zAt p l e R s m args below meth c Q D cl aC ov A k0 s0 ad0 (pc + 3) ls r (S.1, S.2.1, zup S.2.2 q b x)) : zAt p l e R s m args below meth c Q D cl aC ov A k0 s0 ad0 pc ls ((1, x) :: (2, (q : Int)) :: r) S := by
  intro ad L H locs cells slots h1 h2 hl hP hD hS h3 h4 h5
  rw [List.map_cons, List.map_cons, zc_ref]
  have he := zw_at (cl := cl) (aC := aC) (ad := ad) ht
  rw [zcell_o] at he
  obtain ⟨cn, T, N⟩ := cq
  have hpd := (O a _ hc).2.1 b hb
  have hnf : (narrow (zfty cl a b) (.long (Int64.ofInt x)) = .long (Int64.ofInt x)) ∧ fits (zfty cl a b) (.long (Int64.ofInt x)) = true := by
    revert hu
    cases zfty cl a b <;> intro hu <;> first | (simp [zftc] at hu; done) | (refine ⟨rfl, rfl⟩)
  refine va_putF C.1 C.2.1 C.2.2.2.1 (O a _ hc).1 (zfty cl a) (O a _ hc).2.1 (O a _ hc).2.2.1 C.2.2.1 C.2.2.2.2.2.2.1.1 hP hD hS q he hc b hb (C.2.2.2.1 _ hw) (fun _ h => h) hf (by rw [C.2.2.2.2.1]; exact hi) ho hpd hnf.1 hnf.2 (by simp [znF_of hc]; exact hb) hd (fun H1 locs1 hP1 hD1 hS1 => ?_)
  have ew : (zw cl aC ad S).set q (ad q, .inr (a, ((List.range (znF cl a)).map (fun k => zfv ad S.2.1 S.2.2 q k (zftc (zfty cl a k)))).set b (.long (Int64.ofInt x)))) = zw cl aC ad (S.1, S.2.1, zup S.2.2 q b x) := by
    refine zw_set (rf := S.2.1) (mem := S.2.2) ht ?_ ?_
    · rw [zcell_o, zfs_set]
      · unfold zfv
        rw [hu]
        simp [zup]
      · intro k hk
        unfold zfv
        simp [zup, hk]
    · intro b' hb' k
      simp [zup, hb']
  exact K0 ad L H1 locs1 cells slots h1 h2 hl (by rw [← ew]; exact hP1) (by rw [← ew]; exact hD1) hS1 h3 h4 h5
theorem zs_putfZ (C : zCx p R s m args meth c D cl aC ov A X cc own nm Ts) {idx a b q : Nat} {cq : vw_C} {x : Int} (O : zClo cl Ts) (hc : cl[a]? = some cq) (hb : b < cq.2.2) (hw : Cond.fieldLink own idx (cq.2.1 b).1 (cq.2.1 b).2.1 (cq.2.1 b).2.2.1 ∈ Ts) (ht : S.1[q]? = some (0, a)) (hu : zftc (zfty cl a b) = 3) (hx : x = 0 ∨ x = 1) (hf : (cq.2.1 b).2.2.2 = false) (hd : decode cc pc = .ok (.putfield idx, 3)) (K0 : zAt p l e R s m args below meth c Q D cl aC ov A k0 s0 ad0 (pc + 3) ls r (S.1, S.2.1, zup S.2.2 q b x)) : zAt p l e R s m args below meth c Q D cl aC ov A k0 s0 ad0 pc ls ((0, x) :: (2, (q : Int)) :: r) S := by
  intro ad L H locs cells slots h1 h2 hl hP hD hS h3 h4 h5
  rw [List.map_cons, List.map_cons, zc_ref]
  have he := zw_at (cl := cl) (aC := aC) (ad := ad) ht
  rw [zcell_o] at he
  obtain ⟨cn, T, N⟩ := cq
  have hpd := (O a _ hc).2.1 b hb
  have hnf : (narrow (zfty cl a b) (.int (Int32.ofInt x)) = .int (Int32.ofInt x)) ∧ fits (zfty cl a b) (.int (Int32.ofInt x)) = true := by
    revert hu
    cases zfty cl a b <;> intro hu <;> first | (simp [zftc] at hu; done) | (refine ⟨(by rcases hx with rfl | rfl <;> rfl), (by rcases hx with rfl | rfl <;> rfl)⟩)
  refine va_put C.1 C.2.1 C.2.2.2.1 (O a _ hc).1 (zfty cl a) (O a _ hc).2.1 (O a _ hc).2.2.1 C.2.2.1 C.2.2.2.2.2.2.1.1 hP hD hS q he hc b hb (C.2.2.2.1 _ hw) (fun _ h => h) hf hpd hnf.1 hnf.2 (by simp [znF_of hc]; exact hb) hd (fun H1 locs1 hP1 hD1 hS1 => ?_)
  have ew : (zw cl aC ad S).set q (ad q, .inr (a, ((List.range (znF cl a)).map (fun k => zfv ad S.2.1 S.2.2 q k (zftc (zfty cl a k)))).set b (.int (Int32.ofInt x)))) = zw cl aC ad (S.1, S.2.1, zup S.2.2 q b x) := by
    refine zw_set (rf := S.2.1) (mem := S.2.2) ht ?_ ?_
    · rw [zcell_o, zfs_set]
      · unfold zfv
        rw [hu]
        simp [zup]
      · intro k hk
        unfold zfv
        simp [zup, hk]
    · intro b' hb' k
      simp [zup, hb']
  exact K0 ad L H1 locs1 cells slots h1 h2 hl (by rw [← ew]; exact hP1) (by rw [← ew]; exact hD1) hS1 h3 h4 h5
theorem zs_putfZF (C : zCx p R s m args meth c D cl aC ov A X cc own nm Ts) {idx a b q : Nat} {cq : vw_C} {x : Int} (O : zClo cl Ts) (hc : cl[a]? = some cq) (hb : b < cq.2.2) (hw : Cond.fieldLink own idx (cq.2.1 b).1 (cq.2.1 b).2.1 (cq.2.1 b).2.2.1 ∈ Ts) (ht : S.1[q]? = some (0, a)) (hu : zftc (zfty cl a b) = 3) (hx : x = 0 ∨ x = 1) (hf : (cq.2.1 b).2.2.2 = true) (hi : nm = "<init>") (ho : (cq.2.1 b).1 = own) (hd : decode cc pc = .ok (.putfield idx, 3)) (K0 : zAt p l e R s m args below meth c Q D cl aC ov A k0 s0 ad0 (pc + 3) ls r (S.1, S.2.1, zup S.2.2 q b x)) : zAt p l e R s m args below meth c Q D cl aC ov A k0 s0 ad0 pc ls ((0, x) :: (2, (q : Int)) :: r) S := by
  intro ad L H locs cells slots h1 h2 hl hP hD hS h3 h4 h5
  rw [List.map_cons, List.map_cons, zc_ref]
  have he := zw_at (cl := cl) (aC := aC) (ad := ad) ht
  rw [zcell_o] at he
  obtain ⟨cn, T, N⟩ := cq
  have hpd := (O a _ hc).2.1 b hb
  have hnf : (narrow (zfty cl a b) (.int (Int32.ofInt x)) = .int (Int32.ofInt x)) ∧ fits (zfty cl a b) (.int (Int32.ofInt x)) = true := by
    revert hu
    cases zfty cl a b <;> intro hu <;> first | (simp [zftc] at hu; done) | (refine ⟨(by rcases hx with rfl | rfl <;> rfl), (by rcases hx with rfl | rfl <;> rfl)⟩)
  refine va_putF C.1 C.2.1 C.2.2.2.1 (O a _ hc).1 (zfty cl a) (O a _ hc).2.1 (O a _ hc).2.2.1 C.2.2.1 C.2.2.2.2.2.2.1.1 hP hD hS q he hc b hb (C.2.2.2.1 _ hw) (fun _ h => h) hf (by rw [C.2.2.2.2.1]; exact hi) ho hpd hnf.1 hnf.2 (by simp [znF_of hc]; exact hb) hd (fun H1 locs1 hP1 hD1 hS1 => ?_)
  have ew : (zw cl aC ad S).set q (ad q, .inr (a, ((List.range (znF cl a)).map (fun k => zfv ad S.2.1 S.2.2 q k (zftc (zfty cl a k)))).set b (.int (Int32.ofInt x)))) = zw cl aC ad (S.1, S.2.1, zup S.2.2 q b x) := by
    refine zw_set (rf := S.2.1) (mem := S.2.2) ht ?_ ?_
    · rw [zcell_o, zfs_set]
      · unfold zfv
        rw [hu]
        simp [zup]
      · intro k hk
        unfold zfv
        simp [zup, hk]
    · intro b' hb' k
      simp [zup, hb']
  exact K0 ad L H1 locs1 cells slots h1 h2 hl (by rw [← ew]; exact hP1) (by rw [← ew]; exact hD1) hS1 h3 h4 h5
theorem zs_putfL (C : zCx p R s m args meth c D cl aC ov A X cc own nm Ts) {idx a b q : Nat} {cq : vw_C} {v : Nat} (O : zClo cl Ts) (hc : cl[a]? = some cq) (hb : b < cq.2.2) (hw : Cond.fieldLink own idx (cq.2.1 b).1 (cq.2.1 b).2.1 (cq.2.1 b).2.2.1 ∈ Ts) (ht : S.1[q]? = some (0, a)) (hu : zftc (zfty cl a b) = 2) (hf : (cq.2.1 b).2.2.2 = false) (hd : decode cc pc = .ok (.putfield idx, 3)) (K0 : zAt p l e R s m args below meth c Q D cl aC ov A k0 s0 ad0 (pc + 3) ls r (S.1, zup S.2.1 q b (v : Int), S.2.2)) : zAt p l e R s m args below meth c Q D cl aC ov A k0 s0 ad0 pc ls ((2, (v : Int)) :: (2, (q : Int)) :: r) S := by
  intro ad L H locs cells slots h1 h2 hl hP hD hS h3 h4 h5
  rw [List.map_cons, List.map_cons, zc_ref, zc_ref]
  have he := zw_at (cl := cl) (aC := aC) (ad := ad) ht
  rw [zcell_o] at he
  obtain ⟨cn, T, N⟩ := cq
  have hpd := (O a _ hc).2.1 b hb
  have hnf : (narrow (zfty cl a b) (.ref (ad v)) = .ref (ad v)) ∧ fits (zfty cl a b) (.ref (ad v)) = true := by
    revert hu
    cases zfty cl a b <;> intro hu <;> first | (simp [zftc] at hu; done) | (refine ⟨rfl, rfl⟩)
  refine va_put C.1 C.2.1 C.2.2.2.1 (O a _ hc).1 (zfty cl a) (O a _ hc).2.1 (O a _ hc).2.2.1 C.2.2.1 C.2.2.2.2.2.2.1.1 hP hD hS q he hc b hb (C.2.2.2.1 _ hw) (fun _ h => h) hf hpd hnf.1 hnf.2 (by simp [znF_of hc]; exact hb) hd (fun H1 locs1 hP1 hD1 hS1 => ?_)
  have ew : (zw cl aC ad S).set q (ad q, .inr (a, ((List.range (znF cl a)).map (fun k => zfv ad S.2.1 S.2.2 q k (zftc (zfty cl a k)))).set b (.ref (ad v)))) = zw cl aC ad (S.1, zup S.2.1 q b (v : Int), S.2.2) := by
    refine zw_set (rf := S.2.1) (mem := S.2.2) ht ?_ ?_
    · rw [zcell_o, zfs_set]
      · unfold zfv
        rw [hu]
        simp [zup, zrv]
      · intro k hk
        unfold zfv
        simp [zup, hk]
    · intro b' hb' k
      simp [zup, hb']
  exact K0 ad L H1 locs1 cells slots h1 h2 hl (by rw [← ew]; exact hP1) (by rw [← ew]; exact hD1) hS1 h3 h4 h5
theorem zs_putfLF (C : zCx p R s m args meth c D cl aC ov A X cc own nm Ts) {idx a b q : Nat} {cq : vw_C} {v : Nat} (O : zClo cl Ts) (hc : cl[a]? = some cq) (hb : b < cq.2.2) (hw : Cond.fieldLink own idx (cq.2.1 b).1 (cq.2.1 b).2.1 (cq.2.1 b).2.2.1 ∈ Ts) (ht : S.1[q]? = some (0, a)) (hu : zftc (zfty cl a b) = 2) (hf : (cq.2.1 b).2.2.2 = true) (hi : nm = "<init>") (ho : (cq.2.1 b).1 = own) (hd : decode cc pc = .ok (.putfield idx, 3)) (K0 : zAt p l e R s m args below meth c Q D cl aC ov A k0 s0 ad0 (pc + 3) ls r (S.1, zup S.2.1 q b (v : Int), S.2.2)) : zAt p l e R s m args below meth c Q D cl aC ov A k0 s0 ad0 pc ls ((2, (v : Int)) :: (2, (q : Int)) :: r) S := by
  intro ad L H locs cells slots h1 h2 hl hP hD hS h3 h4 h5
  rw [List.map_cons, List.map_cons, zc_ref, zc_ref]
  have he := zw_at (cl := cl) (aC := aC) (ad := ad) ht
  rw [zcell_o] at he
  obtain ⟨cn, T, N⟩ := cq
  have hpd := (O a _ hc).2.1 b hb
  have hnf : (narrow (zfty cl a b) (.ref (ad v)) = .ref (ad v)) ∧ fits (zfty cl a b) (.ref (ad v)) = true := by
    revert hu
    cases zfty cl a b <;> intro hu <;> first | (simp [zftc] at hu; done) | (refine ⟨rfl, rfl⟩)
  refine va_putF C.1 C.2.1 C.2.2.2.1 (O a _ hc).1 (zfty cl a) (O a _ hc).2.1 (O a _ hc).2.2.1 C.2.2.1 C.2.2.2.2.2.2.1.1 hP hD hS q he hc b hb (C.2.2.2.1 _ hw) (fun _ h => h) hf (by rw [C.2.2.2.2.1]; exact hi) ho hpd hnf.1 hnf.2 (by simp [znF_of hc]; exact hb) hd (fun H1 locs1 hP1 hD1 hS1 => ?_)
  have ew : (zw cl aC ad S).set q (ad q, .inr (a, ((List.range (znF cl a)).map (fun k => zfv ad S.2.1 S.2.2 q k (zftc (zfty cl a k)))).set b (.ref (ad v)))) = zw cl aC ad (S.1, zup S.2.1 q b (v : Int), S.2.2) := by
    refine zw_set (rf := S.2.1) (mem := S.2.2) ht ?_ ?_
    · rw [zcell_o, zfs_set]
      · unfold zfv
        rw [hu]
        simp [zup, zrv]
      · intro k hk
        unfold zfv
        simp [zup, hk]
    · intro b' hb' k
      simp [zup, hb']
  exact K0 ad L H1 locs1 cells slots h1 h2 hl (by rw [← ew]; exact hP1) (by rw [← ew]; exact hD1) hS1 h3 h4 h5
theorem zs_iald (C : zCx p R s m args meth c D cl aC ov A X cc own nm Ts) {q n : Nat} {i : Int} (ht : S.1[q]? = some (1, n)) (h0 : 0 ≤ i) (hn : i < n) (hd : decode cc pc = .ok (.iaload, 1)) (K0 : zAt p l e R s m args below meth c Q D cl aC ov A k0 s0 ad0 (pc + 1) ls ((0, S.2.2 q i.toNat) :: r) S) : zAt p l e R s m args below meth c Q D cl aC ov A k0 s0 ad0 pc ls ((0, i) :: (2, (q : Int)) :: r) S := by
  intro ad L H locs cells slots h1 h2 hl hP hD hS h3 h4 h5
  have hN : n < 100000 := h5 (1, n) (List.mem_of_getElem? ht)
  rw [List.map_cons, List.map_cons, zc_ref]
  have kk := K0 ad L H locs cells slots h1 h2 hl hP hD hS h3 h4 h5
  refine va_iald C.1 C.2.1 C.2.2.2.2.2.2.1.1 hP q 0 (zw_at ht) rfl (zi_in h0 hn (by omega)) hd ?_
  rw [show (Int32.ofInt i).toNatClampNeg = i.toNat from zi_clamp h0 (by omega)]
  exact kk
theorem zs_lald (C : zCx p R s m args meth c D cl aC ov A X cc own nm Ts) {q n : Nat} {i : Int} (ht : S.1[q]? = some (2, n)) (h0 : 0 ≤ i) (hn : i < n) (hd : decode cc pc = .ok (.laload, 1)) (K0 : zAt p l e R s m args below meth c Q D cl aC ov A k0 s0 ad0 (pc + 1) ls ((1, S.2.2 q i.toNat) :: r) S) : zAt p l e R s m args below meth c Q D cl aC ov A k0 s0 ad0 pc ls ((0, i) :: (2, (q : Int)) :: r) S := by
  intro ad L H locs cells slots h1 h2 hl hP hD hS h3 h4 h5
  have hN : n < 100000 := h5 (2, n) (List.mem_of_getElem? ht)
  rw [List.map_cons, List.map_cons, zc_ref]
  have kk := K0 ad L H locs cells slots h1 h2 hl hP hD hS h3 h4 h5
  refine va_lald C.1 C.2.1 C.2.2.2.2.2.2.1.1 hP q 1 (zw_at ht) rfl (zi_in h0 hn (by omega)) hd ?_
  rw [show (Int32.ofInt i).toNatClampNeg = i.toNat from zi_clamp h0 (by omega)]
  exact kk
theorem zs_bald (C : zCx p R s m args meth c D cl aC ov A X cc own nm Ts) {q n : Nat} {i : Int} (ht : S.1[q]? = some (3, n)) (h0 : 0 ≤ i) (hn : i < n) (hd : decode cc pc = .ok (.baload, 1)) (K0 : zAt p l e R s m args below meth c Q D cl aC ov A k0 s0 ad0 (pc + 1) ls ((0, S.2.2 q i.toNat) :: r) S) : zAt p l e R s m args below meth c Q D cl aC ov A k0 s0 ad0 pc ls ((0, i) :: (2, (q : Int)) :: r) S := by
  intro ad L H locs cells slots h1 h2 hl hP hD hS h3 h4 h5
  have hN : n < 100000 := h5 (3, n) (List.mem_of_getElem? ht)
  rw [List.map_cons, List.map_cons, zc_ref]
  have kk := K0 ad L H locs cells slots h1 h2 hl hP hD hS h3 h4 h5
  refine va_bald C.1 C.2.1 C.2.2.2.2.2.2.1.1 hP q 2 (zw_at ht) rfl (zi_in h0 hn (by omega)) hd ?_
  rw [show (Int32.ofInt i).toNatClampNeg = i.toNat from zi_clamp h0 (by omega)]
  exact kk
theorem zs_zald (C : zCx p R s m args meth c D cl aC ov A X cc own nm Ts) {q n : Nat} {i : Int} (ht : S.1[q]? = some (4, n)) (h0 : 0 ≤ i) (hn : i < n) (hd : decode cc pc = .ok (.baload, 1)) (K0 : zAt p l e R s m args below meth c Q D cl aC ov A k0 s0 ad0 (pc + 1) ls ((0, S.2.2 q i.toNat) :: r) S) : zAt p l e R s m args below meth c Q D cl aC ov A k0 s0 ad0 pc ls ((0, i) :: (2, (q : Int)) :: r) S := by
  intro ad L H locs cells slots h1 h2 hl hP hD hS h3 h4 h5
  have hN : n < 100000 := h5 (4, n) (List.mem_of_getElem? ht)
  rw [List.map_cons, List.map_cons, zc_ref]
  have kk := K0 ad L H locs cells slots h1 h2 hl hP hD hS h3 h4 h5
  refine va_zald C.1 C.2.1 C.2.2.2.2.2.2.1.1 hP q 3 (zw_at ht) rfl (zi_in h0 hn (by omega)) hd ?_
  rw [show (Int32.ofInt i).toNatClampNeg = i.toNat from zi_clamp h0 (by omega)]
  exact kk
theorem zs_aald (C : zCx p R s m args meth c D cl aC ov A X cc own nm Ts) {q n : Nat} {i : Int} (ht : S.1[q]? = some (5, n)) (h0 : 0 ≤ i) (hn : i < n) (hd : decode cc pc = .ok (.aaload, 1)) (K0 : zAt p l e R s m args below meth c Q D cl aC ov A k0 s0 ad0 (pc + 1) ls ((2, S.2.1 q i.toNat) :: r) S) : zAt p l e R s m args below meth c Q D cl aC ov A k0 s0 ad0 pc ls ((0, i) :: (2, (q : Int)) :: r) S := by
  intro ad L H locs cells slots h1 h2 hl hP hD hS h3 h4 h5
  have hN : n < 100000 := h5 (5, n) (List.mem_of_getElem? ht)
  rw [List.map_cons, List.map_cons, zc_ref]
  have kk := K0 ad L H locs cells slots h1 h2 hl hP hD hS h3 h4 h5
  refine va_aldq C.1 C.2.1 C.2.2.2.2.2.2.1.1 hP q 4 (zw_at ht) rfl (zi_in h0 hn (by omega)) hd ?_
  rw [show (Int32.ofInt i).toNatClampNeg = i.toNat from zi_clamp h0 (by omega)]
  have e1 : va_rf (if i.toNat < n then zro ad (S.2.1 q i.toNat) else none) = zc ov ad (2, S.2.1 q i.toNat) := by
    rw [if_pos (by omega)]
    show _ = zrv ad _
    unfold zro zrv
    split <;> rfl
  dsimp only
  rw [e1]
  exact kk
theorem zs_sld (C : zCx p R s m args meth c D cl aC ov A X cc own nm Ts) {i : Int} (h0 : 0 ≤ i) (hn : i < X.1) (hd : decode cc pc = .ok (.iaload, 1)) (K0 : zAt p l e R s m args below meth c Q D cl aC ov A k0 s0 ad0 (pc + 1) ls ((0, X.2 i.toNat) :: r) S) : zAt p l e R s m args below meth c Q D cl aC ov A k0 s0 ad0 pc ls ((0, i) :: (3, 0) :: r) S := by
  intro ad L H locs cells slots h1 h2 hl hP hD hS h3 h4 h5
  obtain ⟨b, xs, e1, e2, e3, e4, e5, e6⟩ := C.2.2.2.2.2.2.1.2.1
  have kk := K0 ad L H locs cells slots h1 h2 hl hP hD hS h3 h4 h5
  have q1 : zc ov ad (3, 0) = .ref b := e1
  rw [List.map_cons, List.map_cons, q1]
  refine va_sld C.1 C.2.1 e2 e4 e3 hS (zi_in h0 hn (by omega)) hd ?_
  rw [show (Int32.ofInt i).toNatClampNeg = i.toNat from zi_clamp h0 (by omega), ← Int32.ofInt_toInt (xs i.toNat), ← e6]
  exact kk
theorem zs_slen (C : zCx p R s m args meth c D cl aC ov A X cc own nm Ts)  (hd : decode cc pc = .ok (.arraylength, 1)) (K0 : zAt p l e R s m args below meth c Q D cl aC ov A k0 s0 ad0 (pc + 1) ls ((0, (X.1 : Int)) :: r) S) : zAt p l e R s m args below meth c Q D cl aC ov A k0 s0 ad0 pc ls ((3, 0) :: r) S := by
  intro ad L H locs cells slots h1 h2 hl hP hD hS h3 h4 h5
  obtain ⟨b, xs, e1, e2, e3, e4, e5, e6⟩ := C.2.2.2.2.2.2.1.2.1
  have kk := K0 ad L H locs cells slots h1 h2 hl hP hD hS h3 h4 h5
  have q1 : zc ov ad (3, 0) = .ref b := e1
  rw [List.map_cons, q1]
  refine va_slen C.1 C.2.1 e2 e4 e3 hS hd ?_
  rw [← Int32.ofInt_eq_ofNat]
  exact kk
theorem zs_ald_t3 (C : zCx p R s m args meth c D cl aC ov A X cc own nm Ts) {i : Int} (h0 : 0 ≤ i) (hn : i < 4) (hd : decode cc pc = .ok (.iaload, 1)) (K0 : zAt p l e R s m args below meth c Q D cl aC ov A k0 s0 ad0 (pc + 1) ls ((0, zom X 3 i.toNat) :: r) S) : zAt p l e R s m args below meth c Q D cl aC ov A k0 s0 ad0 pc ls ((0, i) :: (3, 3) :: r) S := by
  intro ad L H locs cells slots h1 h2 hl hP hD hS h3 h4 h5
  obtain ⟨t, e1, e2, e3⟩ := C.2.2.2.2.2.2.1.2.2.1
  have kk := K0 ad L H locs cells slots h1 h2 hl hP hD hS h3 h4 h5
  have q1 : zc ov ad (3, 3) = .ref t := e1
  rw [List.map_cons, List.map_cons, q1]
  exact va_ti C.1 C.2.1 e3 hS (zi_in h0 hn (by omega)) (by rw [show (Int32.ofInt i).toNatClampNeg = i.toNat from zi_clamp h0 (by omega)]; rfl) hd kk
theorem zs_ald_t4 (C : zCx p R s m args meth c D cl aC ov A X cc own nm Ts) {i : Int} (h0 : 0 ≤ i) (hn : i < 4) (hd : decode cc pc = .ok (.iaload, 1)) (K0 : zAt p l e R s m args below meth c Q D cl aC ov A k0 s0 ad0 (pc + 1) ls ((0, zom X 4 i.toNat) :: r) S) : zAt p l e R s m args below meth c Q D cl aC ov A k0 s0 ad0 pc ls ((0, i) :: (3, 4) :: r) S := by
  intro ad L H locs cells slots h1 h2 hl hP hD hS h3 h4 h5
  obtain ⟨t, e1, e2, e3⟩ := C.2.2.2.2.2.2.1.2.2.2.1
  have kk := K0 ad L H locs cells slots h1 h2 hl hP hD hS h3 h4 h5
  have q1 : zc ov ad (3, 4) = .ref t := e1
  rw [List.map_cons, List.map_cons, q1]
  exact va_ti C.1 C.2.1 e3 hS (zi_in h0 hn (by omega)) (by rw [show (Int32.ofInt i).toNatClampNeg = i.toNat from zi_clamp h0 (by omega)]; rfl) hd kk
theorem zs_ald_t2 (C : zCx p R s m args meth c D cl aC ov A X cc own nm Ts) {i : Int} (h0 : 0 ≤ i) (hn : i < 133) (hd : decode cc pc = .ok (.baload, 1)) (K0 : zAt p l e R s m args below meth c Q D cl aC ov A k0 s0 ad0 (pc + 1) ls ((0, zom X 2 i.toNat) :: r) S) : zAt p l e R s m args below meth c Q D cl aC ov A k0 s0 ad0 pc ls ((0, i) :: (3, 2) :: r) S := by
  intro ad L H locs cells slots h1 h2 hl hP hD hS h3 h4 h5
  obtain ⟨aK, aV, e1, e2, e3, e4, e5, e6, e7⟩ := C.2.2.2.2.2.2.1.2.2.2.2.2.2.1
  have kk := K0 ad L H locs cells slots h1 h2 hl hP hD hS h3 h4 h5
  have q1 : zc ov ad (3, 2) = .ref aV := e2
  rw [List.map_cons, List.map_cons, q1]
  generalize zom X 2 = fz at e7 kk
  exact va_tb C.1 C.2.1 e7 hS (zi_in h0 hn (by omega)) (by rw [show (Int32.ofInt i).toNatClampNeg = i.toNat from zi_clamp h0 (by omega)]; rfl) hd kk
theorem zs_alen_t2 (C : zCx p R s m args meth c D cl aC ov A X cc own nm Ts)  (hd : decode cc pc = .ok (.arraylength, 1)) (K0 : zAt p l e R s m args below meth c Q D cl aC ov A k0 s0 ad0 (pc + 1) ls ((0, 133) :: r) S) : zAt p l e R s m args below meth c Q D cl aC ov A k0 s0 ad0 pc ls ((3, 2) :: r) S := by
  intro ad L H locs cells slots h1 h2 hl hP hD hS h3 h4 h5
  obtain ⟨aK, aV, e1, e2, e3, e4, e5, e6, e7⟩ := C.2.2.2.2.2.2.1.2.2.2.2.2.2.1
  have kk := K0 ad L H locs cells slots h1 h2 hl hP hD hS h3 h4 h5
  have q1 : zc ov ad (3, 2) = .ref aV := e2
  rw [List.map_cons, q1]
  exact va_tlen C.1 C.2.1 e7 hS (v := Int32.ofInt 133) (by decide) hd kk
theorem zs_alen1 (C : zCx p R s m args meth c D cl aC ov A X cc own nm Ts) {q n : Nat} (ht : S.1[q]? = some (1, n)) (hd : decode cc pc = .ok (.arraylength, 1)) (K0 : zAt p l e R s m args below meth c Q D cl aC ov A k0 s0 ad0 (pc + 1) ls ((0, (n : Int)) :: r) S) : zAt p l e R s m args below meth c Q D cl aC ov A k0 s0 ad0 pc ls ((2, (q : Int)) :: r) S := by
  intro ad L H locs cells slots h1 h2 hl hP hD hS h3 h4 h5
  rw [List.map_cons, zc_ref]
  exact va_alen C.1 C.2.1 C.2.2.2.2.2.2.1.1 hP q 0 (zw_at ht) rfl (v := Int32.ofInt (n : Int)) Int32.ofInt_eq_ofNat.symm hd (K0 ad L H locs cells slots h1 h2 hl hP hD hS h3 h4 h5)
theorem zs_alen2 (C : zCx p R s m args meth c D cl aC ov A X cc own nm Ts) {q n : Nat} (ht : S.1[q]? = some (2, n)) (hd : decode cc pc = .ok (.arraylength, 1)) (K0 : zAt p l e R s m args below meth c Q D cl aC ov A k0 s0 ad0 (pc + 1) ls ((0, (n : Int)) :: r) S) : zAt p l e R s m args below meth c Q D cl aC ov A k0 s0 ad0 pc ls ((2, (q : Int)) :: r) S := by
  intro ad L H locs cells slots h1 h2 hl hP hD hS h3 h4 h5
  rw [List.map_cons, zc_ref]
  exact va_alen C.1 C.2.1 C.2.2.2.2.2.2.1.1 hP q 1 (zw_at ht) rfl (v := Int32.ofInt (n : Int)) Int32.ofInt_eq_ofNat.symm hd (K0 ad L H locs cells slots h1 h2 hl hP hD hS h3 h4 h5)
theorem zs_alen3 (C : zCx p R s m args meth c D cl aC ov A X cc own nm Ts) {q n : Nat} (ht : S.1[q]? = some (3, n)) (hd : decode cc pc = .ok (.arraylength, 1)) (K0 : zAt p l e R s m args below meth c Q D cl aC ov A k0 s0 ad0 (pc + 1) ls ((0, (n : Int)) :: r) S) : zAt p l e R s m args below meth c Q D cl aC ov A k0 s0 ad0 pc ls ((2, (q : Int)) :: r) S := by
  intro ad L H locs cells slots h1 h2 hl hP hD hS h3 h4 h5
  rw [List.map_cons, zc_ref]
  exact va_alen C.1 C.2.1 C.2.2.2.2.2.2.1.1 hP q 2 (zw_at ht) rfl (v := Int32.ofInt (n : Int)) Int32.ofInt_eq_ofNat.symm hd (K0 ad L H locs cells slots h1 h2 hl hP hD hS h3 h4 h5)
theorem zs_alen4 (C : zCx p R s m args meth c D cl aC ov A X cc own nm Ts) {q n : Nat} (ht : S.1[q]? = some (4, n)) (hd : decode cc pc = .ok (.arraylength, 1)) (K0 : zAt p l e R s m args below meth c Q D cl aC ov A k0 s0 ad0 (pc + 1) ls ((0, (n : Int)) :: r) S) : zAt p l e R s m args below meth c Q D cl aC ov A k0 s0 ad0 pc ls ((2, (q : Int)) :: r) S := by
  intro ad L H locs cells slots h1 h2 hl hP hD hS h3 h4 h5
  rw [List.map_cons, zc_ref]
  exact va_alen C.1 C.2.1 C.2.2.2.2.2.2.1.1 hP q 3 (zw_at ht) rfl (v := Int32.ofInt (n : Int)) Int32.ofInt_eq_ofNat.symm hd (K0 ad L H locs cells slots h1 h2 hl hP hD hS h3 h4 h5)
theorem zs_alen5 (C : zCx p R s m args meth c D cl aC ov A X cc own nm Ts) {q n : Nat} (ht : S.1[q]? = some (5, n)) (hd : decode cc pc = .ok (.arraylength, 1)) (K0 : zAt p l e R s m args below meth c Q D cl aC ov A k0 s0 ad0 (pc + 1) ls ((0, (n : Int)) :: r) S) : zAt p l e R s m args below meth c Q D cl aC ov A k0 s0 ad0 pc ls ((2, (q : Int)) :: r) S := by
  intro ad L H locs cells slots h1 h2 hl hP hD hS h3 h4 h5
  rw [List.map_cons, zc_ref]
  exact va_alen C.1 C.2.1 C.2.2.2.2.2.2.1.1 hP q 4 (zw_at ht) rfl (v := Int32.ofInt (n : Int)) Int32.ofInt_eq_ofNat.symm hd (K0 ad L H locs cells slots h1 h2 hl hP hD hS h3 h4 h5)
theorem zs_iast (C : zCx p R s m args meth c D cl aC ov A X cc own nm Ts) {q n : Nat} {i x : Int} (ht : S.1[q]? = some (1, n)) (h0 : 0 ≤ i) (hn : i < n) (hd : decode cc pc = .ok (.iastore, 1)) (K0 : zAt p l e R s m args below meth c Q D cl aC ov A k0 s0 ad0 (pc + 1) ls r (S.1, S.2.1, zup S.2.2 q i.toNat x)) : zAt p l e R s m args below meth c Q D cl aC ov A k0 s0 ad0 pc ls ((0, x) :: (0, i) :: (2, (q : Int)) :: r) S := by
  intro ad L H locs cells slots h1 h2 hl hP hD hS h3 h4 h5
  have hN : n < 100000 := h5 (1, n) (List.mem_of_getElem? ht)
  rw [List.map_cons, List.map_cons, List.map_cons, zc_ref]
  refine va_iast C.1 C.2.1 C.2.2.2.2.2.2.1.1 hP hD hS q 0 (zw_at ht) rfl (zi_in h0 hn (by omega)) hd (fun H1 locs1 hP1 hD1 hS1 => ?_)
  have ef : upd (fun j => Int32.ofInt (S.2.2 q j)) i.toNat (Int32.ofInt x) = fun j => Int32.ofInt (zup S.2.2 q i.toNat x q j) := by
    funext j
    simp only [upd, zup, if_true]
    split <;> rfl
  have e0 : (Int32.ofInt i).toNatClampNeg = i.toNat := zi_clamp h0 (by omega)
  have ew := zw_set (cl := cl) (aC := aC) (ad := ad) (rf := S.2.1) (mem := S.2.2) (rf' := S.2.1) (mem' := zup S.2.2 q i.toNat x) ht (congrArg (fun f => (Sum.inl (aC 1, n, Sum.inl f) : va_E)) ef) (fun b' hb' k => by simp [zup, hb'])
  exact K0 ad L H1 locs1 cells slots h1 h2 hl (by rw [← ew, ← e0]; exact hP1) (by rw [← ew, ← e0]; exact hD1) hS1 h3 h4 h5
theorem zs_last (C : zCx p R s m args meth c D cl aC ov A X cc own nm Ts) {q n : Nat} {i x : Int} (ht : S.1[q]? = some (2, n)) (h0 : 0 ≤ i) (hn : i < n) (hd : decode cc pc = .ok (.lastore, 1)) (K0 : zAt p l e R s m args below meth c Q D cl aC ov A k0 s0 ad0 (pc + 1) ls r (S.1, S.2.1, zup S.2.2 q i.toNat x)) : zAt p l e R s m args below meth c Q D cl aC ov A k0 s0 ad0 pc ls ((1, x) :: (0, i) :: (2, (q : Int)) :: r) S := by
  intro ad L H locs cells slots h1 h2 hl hP hD hS h3 h4 h5
  have hN : n < 100000 := h5 (2, n) (List.mem_of_getElem? ht)
  rw [List.map_cons, List.map_cons, List.map_cons, zc_ref]
  refine va_last C.1 C.2.1 C.2.2.2.2.2.2.1.1 hP hD hS q 1 (zw_at ht) rfl (zi_in h0 hn (by omega)) hd (fun H1 locs1 hP1 hD1 hS1 => ?_)
  have ef : vp_updL (fun j => Int64.ofInt (S.2.2 q j)) i.toNat (Int64.ofInt x) = fun j => Int64.ofInt (zup S.2.2 q i.toNat x q j) := by
    funext j
    simp only [vp_updL, zup, if_true]
    split <;> rfl
  have e0 : (Int32.ofInt i).toNatClampNeg = i.toNat := zi_clamp h0 (by omega)
  have ew := zw_set (cl := cl) (aC := aC) (ad := ad) (rf := S.2.1) (mem := S.2.2) (rf' := S.2.1) (mem' := zup S.2.2 q i.toNat x) ht (congrArg (fun f => (Sum.inl (aC 2, n, Sum.inr (Sum.inl f)) : va_E)) ef) (fun b' hb' k => by simp [zup, hb'])
  exact K0 ad L H1 locs1 cells slots h1 h2 hl (by rw [← ew, ← e0]; exact hP1) (by rw [← ew, ← e0]; exact hD1) hS1 h3 h4 h5
theorem zs_bast (C : zCx p R s m args meth c D cl aC ov A X cc own nm Ts) {q n : Nat} {i x : Int} (ht : S.1[q]? = some (3, n)) (h0 : 0 ≤ i) (hn : i < n) (hx : -128 ≤ x ∧ x < 128) (hd : decode cc pc = .ok (.bastore, 1)) (K0 : zAt p l e R s m args below meth c Q D cl aC ov A k0 s0 ad0 (pc + 1) ls r (S.1, S.2.1, zup S.2.2 q i.toNat x)) : zAt p l e R s m args below meth c Q D cl aC ov A k0 s0 ad0 pc ls ((0, x) :: (0, i) :: (2, (q : Int)) :: r) S := by
  intro ad L H locs cells slots h1 h2 hl hP hD hS h3 h4 h5
  have hN : n < 100000 := h5 (3, n) (List.mem_of_getElem? ht)
  rw [List.map_cons, List.map_cons, List.map_cons, zc_ref]
  refine va_bast C.1 C.2.1 C.2.2.2.2.2.2.1.1 hP hD hS q 2 (zw_at ht) rfl (zi_in h0 hn (by omega)) hd (fun H1 locs1 hP1 hD1 hS1 => ?_)
  have ef : upd (fun j => Int32.ofInt (S.2.2 q j)) i.toNat (Int32.ofInt x) = fun j => Int32.ofInt (zup S.2.2 q i.toNat x q j) := by
    funext j
    simp only [upd, zup, if_true]
    split <;> rfl
  have e0 : (Int32.ofInt i).toNatClampNeg = i.toNat := zi_clamp h0 (by omega)
  have e9 : vp_nar .byte (Int32.ofInt x) = Int32.ofInt x := by rw [vp_nar_byte]; exact zi_b hx
  have ew := zw_set (cl := cl) (aC := aC) (ad := ad) (rf := S.2.1) (mem := S.2.2) (rf' := S.2.1) (mem' := zup S.2.2 q i.toNat x) ht (congrArg (fun f => (Sum.inl (aC 3, n, Sum.inl f) : va_E)) ef) (fun b' hb' k => by simp [zup, hb'])
  exact K0 ad L H1 locs1 cells slots h1 h2 hl (by rw [← ew, ← e0, ← e9]; exact hP1) (by rw [← ew, ← e0, ← e9]; exact hD1) hS1 h3 h4 h5
theorem zs_zast (C : zCx p R s m args meth c D cl aC ov A X cc own nm Ts) {q n : Nat} {i x : Int} (ht : S.1[q]? = some (4, n)) (h0 : 0 ≤ i) (hn : i < n) (hx : x = 0 ∨ x = 1) (hd : decode cc pc = .ok (.bastore, 1)) (K0 : zAt p l e R s m args below meth c Q D cl aC ov A k0 s0 ad0 (pc + 1) ls r (S.1, S.2.1, zup S.2.2 q i.toNat x)) : zAt p l e R s m args below meth c Q D cl aC ov A k0 s0 ad0 pc ls ((0, x) :: (0, i) :: (2, (q : Int)) :: r) S := by
  intro ad L H locs cells slots h1 h2 hl hP hD hS h3 h4 h5
  have hN : n < 100000 := h5 (4, n) (List.mem_of_getElem? ht)
  rw [List.map_cons, List.map_cons, List.map_cons, zc_ref]
  refine va_zast C.1 C.2.1 C.2.2.2.2.2.2.1.1 hP hD hS q 3 (zw_at ht) rfl (zi_in h0 hn (by omega)) hd (fun H1 locs1 hP1 hD1 hS1 => ?_)
  have ef : upd (fun j => Int32.ofInt (S.2.2 q j)) i.toNat (Int32.ofInt x) = fun j => Int32.ofInt (zup S.2.2 q i.toNat x q j) := by
    funext j
    simp only [upd, zup, if_true]
    split <;> rfl
  have e0 : (Int32.ofInt i).toNatClampNeg = i.toNat := zi_clamp h0 (by omega)
  have e9 : vp_nar .boolean (Int32.ofInt x) = Int32.ofInt x := by rcases hx with rfl | rfl <;> rfl
  have ew := zw_set (cl := cl) (aC := aC) (ad := ad) (rf := S.2.1) (mem := S.2.2) (rf' := S.2.1) (mem' := zup S.2.2 q i.toNat x) ht (congrArg (fun f => (Sum.inl (aC 4, n, Sum.inl f) : va_E)) ef) (fun b' hb' k => by simp [zup, hb'])
  exact K0 ad L H1 locs1 cells slots h1 h2 hl (by rw [← ew, ← e0, ← e9]; exact hP1) (by rw [← ew, ← e0, ← e9]; exact hD1) hS1 h3 h4 h5
end ZM
