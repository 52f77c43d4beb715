/-! THE CLAIM OUT OF ONE WALK OF THE LAW'S BODY. Your part is whole_start (and what it stands on); all else here is the same for every law, but numbers. -/
def R_law : String := "SoapDeedsLaw"
def lw_P (b : Addr) (xs : List Int32) (args : Array Value) (s : State) : Prop := args = #[.ref b] ∧ s.IntsAt b xs ∧ xs.length ≤ 384 ∧ (Jvm.Cond.and given_1 narrow_1).before args s = true
def lw_Q (_ : Array Value) (s : State) (o : Outcome) (t : State) : Prop := o = .returned (some (.int 1)) ∧ Framed s o t [] 600000 7302250
def lw_Z (below : List Frame) (a : Array Value) (s : State) : State → Prop := fun t => ∃ o, t.status = .running ∧ Ended t below o ∧ lw_Q a s o t
/-- the law's own end, with 1 on the stack, nothing written that was there before, its room as the claim has it -/
theorem lw_ret {p : Program} {l : Launch} {e : Env} {s : State} {m : MethodId} {below : List Frame} {meth : Method} {c : Code} {b : Nat} (hx : p.tables.exec = Jvm.exec) (hb : c.code = code) (hr : meth.sig.returnType = ret) (hlocks : meth.locks = false) {pc : Nat} {H : Heap} {ls : Array Slot} (hdg : decode code pc = .ok (.ireturn, 1)) : W p l e room_1 s m #[Value.ref b] below meth c H [] 600000 7302250 (lw_Z below #[Value.ref b] s) (F0 m pc ls [.int 1]) := by
  intro T hT X
  obtain ⟨fs, hret, hrun, hended, hW, hframe⟩ := X.leave (v := some (.int 1)) (hlocks := hlocks) (fun h => by rw [hr] at h; cases h)
  have hmeth' : T.vm.method? m = some meth := X.method'
  refine ⟨T.setFrames fs, ?_, .returned (some (.int 1)), hrun, hended, rfl, ⟨_, rfl⟩, hW, hframe⟩
  jvm_step X.here [X.here.top, hx, hb, hdg, hmeth', hr, ret, narrow_b1]
  (try refine ⟨rfl, ?_⟩); (try refine ⟨rfl, ?_⟩)
  first | (intro acts; rw [hret _ acts rfl rfl rfl]) | rw [hret _ _ rfl rfl rfl]
  exact Steps.refl _
/-- what holds at the law's entry: the machine, the code, the tables' words (any of lw_tbl by 'hts w (by decide +kernel)'), the script of L ints xs at the cell b, what the Statement gives of the start (any of its parts by flat_of_before) -/
def lw_At (p : Program) (s : State) (m : MethodId) (meth : Method) (c : Code) (b L : Nat) (xs : Nat → Int32) : Prop :=
  p.tables.exec = Jvm.exec ∧ c.code = code ∧ meth.sig.returnType = ret ∧ c.maxLocals = 4 ∧ s.vm.findClass R_law = some m.cls ∧ (∀ w ∈ lw_tbl, w.before #[Value.ref b] s = true) ∧ va_X b L xs s s.heap ∧ b < s.heap.size ∧ meth.locks = false ∧ (Jvm.Cond.and given_1 narrow_1).before #[Value.ref b] s = true ∧ meth.name = "law"
theorem zTs_lw {w : Cond} (h : w ∈ zTs) : w ∈ lw_tbl := (List.mem_filter.mp h).1
theorem zNs_ok : zNs.all (fun q => decide (Cond.methodLinkNest q.1 q.2.1 q.2.2.1 q.2.2.2 ∈ tables_1)) = true := by decide +kernel
def zfl : List Cond := flatC (Jvm.Cond.and given_1 narrow_1)
def ztC : Term := .static "SoapDeeds$Plan" "COLUMN_STEP" "[I"
def ztR : Term := .static "SoapDeeds$Plan" "ROW_STEP" "[I"
def ztS : Term := .string "SoapDeeds$Tokens" 46
theorem zf_C : (Cond.arrayOf ztC .int :: Cond.eq (.length ztC) (.int 4) :: (List.range 4).map (fun j => Cond.eq (.elem ztC (.int (Int32.ofNat j))) (.int (Int32.ofInt ([0, 1, 0, -1].getD j 0))))).all (fun w => decide (w ∈ zfl)) = true := by decide +kernel
theorem zf_R : (Cond.arrayOf ztR .int :: Cond.eq (.length ztR) (.int 4) :: (List.range 4).map (fun j => Cond.eq (.elem ztR (.int (Int32.ofNat j))) (.int (Int32.ofInt ([-1, 0, 1, 0].getD j 0))))).all (fun w => decide (w ∈ zfl)) = true := by decide +kernel
theorem zf_M : ([Cond.eq (.static "java/lang/String" "COMPACT_STRINGS" "Z") (.int 1), Cond.isRef (.static "jdk/internal/util/Preconditions" "SIOOBE_FORMATTER" "Ljava/util/function/BiFunction;"), Cond.exactly ztS "java/lang/String", Cond.eq (.field ztS "java/lang/String" "coder" "B") (.int 0), Cond.arrayOf (.field ztS "java/lang/String" "value" "[B") .byte, Cond.eq (.length (.field ztS "java/lang/String" "value" "[B")) (.int 133)] : List Cond).all (fun w => decide (w ∈ zfl)) = true := by decide +kernel
theorem zf_B : (List.range 133).all (fun j => decide (Cond.eq (.elem (.field ztS "java/lang/String" "value" "[B") (.int (Int32.ofNat j))) (.int ((zown.map Int32.ofInt).getD j 0)) ∈ zfl)) = true := by decide +kernel
theorem zom2 (X : zX) (j : Nat) : zom X 2 j = zown.getD j 0 := by
  unfold zom
  rw [if_neg (by decide), if_pos rfl]
theorem zmapg (l : List Int) (j : Nat) : (l.map Int32.ofInt).getD j 0 = Int32.ofInt (l.getD j 0) := by
  rw [List.getD_eq_getElem?_getD, List.getD_eq_getElem?_getD, List.getElem?_map]
  cases l[j]? <;> rfl
theorem zarr_of {s : State} {args : Array Value} {ty : FieldType} (hnot : ∀ C, ty ≠ .object C) (h : (Cond.arrayClass ty).before args s = true) : ∃ cA : ClassId, ArrOfT s cA ty ∧ va_RA s cA ty := by
  obtain ⟨cA, kA, comp, h1, h2, h3⟩ := Cond.arrayClass_spec h
  refine ⟨cA, fun n z => ⟨fun k h => (by cases h), kA, h2, comp, h3⟩, ?_⟩
  cases ty <;> first | exact h1 | exact absurd rfl (hnot _)
set_option maxHeartbeats 4000000 in
theorem zlaw {p : Program} {e : Env} {s : State} {m : MethodId} {below : List Frame} {meth : Method} {c : Code} (l : Launch) {b L : Nat} {xs : Nat → Int32} (hL : L ≤ 384) (C0 : lw_At p s m meth c b L xs) {n d : Nat} {S' : zS} (hd : d ≤ 1398)
    (hz : zexec zcod zinf (znF zcl) (L, fun j => (xs j).toInt) n d 330 0 [(3, 0), (9, 0), (9, 0), (9, 0)] [] ([], fun _ _ => -1, fun _ _ => 0) = some (some (0, 1), S')) (hS1 : S'.1.length ≤ 600000) (hS2 : zsl (znF zcl) S'.1 ≤ 7302250) :
    W p l e room_1 s m #[Value.ref b] below meth c s.heap [] 0 0 (lw_Z below #[Value.ref b] s) (entryFrame m ([Value.ref b] : List Value).toArray 4) := by
  obtain ⟨hx, hb, hr, hml, hown, hts, hX, hbl, hlocks, hgv, hname⟩ := C0
  have hfl := flat_of_before _ hgv
  have hA : ∀ a : Nat, a < s.heap.size → ¬ (fun q : Nat => s.heap.size ≤ q) a := fun a h => Nat.not_le.mpr h
  -- classes
  have hcls : ∀ ci : Nat, ∃ z : ClassId × (Nat → Nat), ∀ q : vw_C, zcl[ci]? = some q → u_Kn s q.1 q.2.1 q.2.2 z.1 z.2 := by
    intro ci
    cases hq : zcl[ci]? with
    | none => exact ⟨(0, fun _ => 0), fun q h => by cases h⟩
    | some q =>
      have O := zClo_ok ci q hq
      obtain ⟨cC, iS, h⟩ := u_known (n := q.2.2) hts (fun w hw => zTs_lw (O.1 w hw)) (hts _ (zTs_lw O.2.2.2.1))
      exact ⟨(cC, iS), fun q' h' => by cases h'; exact h⟩
  obtain ⟨dz, hdz⟩ := Classical.axiomOfChoice hcls
  -- arrays
  obtain ⟨c1, a1, r1⟩ := zarr_of (ty := .int) (fun C h => by cases h) (hts _ (zTs_lw zg_6))
  obtain ⟨c2, a2, r2⟩ := zarr_of (ty := .long) (fun C h => by cases h) (hts _ (zTs_lw zg_7))
  obtain ⟨c3, a3, r3⟩ := zarr_of (ty := .byte) (fun C h => by cases h) (hts _ (zTs_lw zg_8))
  obtain ⟨c4, a4, r4⟩ := zarr_of (ty := .boolean) (fun C h => by cases h) (hts _ (zTs_lw zg_9))
  have hAO := hts (.arrayOver (.object "SoapDeeds$Scene")) (List.mem_append_right _ (List.mem_of_getElem? (i := 439) (by decide +kernel)))
  obtain ⟨comp, c5, k5, g1, g2, g3, g4, g5⟩ := Cond.arrayOver_spec hAO
  -- statics
  have fC : ∀ w, w ∈ (Cond.arrayOf ztC .int :: Cond.eq (.length ztC) (.int 4) :: (List.range 4).map (fun j => Cond.eq (.elem ztC (.int (Int32.ofNat j))) (.int (Int32.ofInt ([0, 1, 0, -1].getD j 0))))) → w.before #[Value.ref b] s = true := fun w hw => hfl w (of_decide_eq_true (List.all_eq_true.mp zf_C w hw))
  have fR : ∀ w, w ∈ (Cond.arrayOf ztR .int :: Cond.eq (.length ztR) (.int 4) :: (List.range 4).map (fun j => Cond.eq (.elem ztR (.int (Int32.ofNat j))) (.int (Int32.ofInt ([-1, 0, 1, 0].getD j 0))))) → w.before #[Value.ref b] s = true := fun w hw => hfl w (of_decide_eq_true (List.all_eq_true.mp zf_R w hw))
  have fM : ∀ w, w ∈ ([Cond.eq (.static "java/lang/String" "COMPACT_STRINGS" "Z") (.int 1), Cond.isRef (.static "jdk/internal/util/Preconditions" "SIOOBE_FORMATTER" "Ljava/util/function/BiFunction;"), Cond.exactly ztS "java/lang/String", Cond.eq (.field ztS "java/lang/String" "coder" "B") (.int 0), Cond.arrayOf (.field ztS "java/lang/String" "value" "[B") .byte, Cond.eq (.length (.field ztS "java/lang/String" "value" "[B")) (.int 133)] : List Cond) → w.before #[Value.ref b] s = true := fun w hw => hfl w (of_decide_eq_true (List.all_eq_true.mp zf_M w hw))
  obtain ⟨t3, e3, T3⟩ := va_Tof (tm := ztC) (ty := .int) (N := 4) (f := fun j => .int (Int32.ofInt ([0, 1, 0, -1].getD j 0))) (A := fun q => s.heap.size ≤ q) (by decide) (fC _ List.mem_cons_self) (va_eqt (fC _ (List.mem_cons_of_mem _ List.mem_cons_self))) (fun j hj => va_eqt (fC _ (List.mem_cons_of_mem _ (List.mem_cons_of_mem _ (List.mem_map.mpr ⟨j, List.mem_range.mpr hj, rfl⟩))))) hA
  obtain ⟨t4, e4, T4⟩ := va_Tof (tm := ztR) (ty := .int) (N := 4) (f := fun j => .int (Int32.ofInt ([-1, 0, 1, 0].getD j 0))) (A := fun q => s.heap.size ≤ q) (by decide) (fR _ List.mem_cons_self) (va_eqt (fR _ (List.mem_cons_of_mem _ List.mem_cons_self))) (fun j hj => va_eqt (fR _ (List.mem_cons_of_mem _ (List.mem_cons_of_mem _ (List.mem_map.mpr ⟨j, List.mem_range.mpr hj, rfl⟩))))) hA
  have Z3 := va_Zref (hts (.laysStatic "SoapDeeds$Plan" "COLUMN_STEP" "[I") (List.mem_append_right _ (List.mem_of_getElem? (i := 883) (by decide +kernel)))) (hts (.initialized "SoapDeeds$Plan") (List.mem_append_right _ (List.mem_of_getElem? (i := 9) (by decide +kernel)))) e3 hA
  have Z4 := va_Zref (hts (.laysStatic "SoapDeeds$Plan" "ROW_STEP" "[I") (List.mem_append_right _ (List.mem_of_getElem? (i := 885) (by decide +kernel)))) (hts (.initialized "SoapDeeds$Plan") (List.mem_append_right _ (List.mem_of_getElem? (i := 9) (by decide +kernel)))) e4 hA
  have Z5 := va_Zof (hts (.laysStatic "java/lang/String" "COMPACT_STRINGS" "Z") (List.mem_append_right _ (List.mem_of_getElem? (i := 69) (by decide +kernel)))) (hts (.initialized "java/lang/String") (List.mem_append_right _ (List.mem_of_getElem? (i := 5) (by decide +kernel)))) (va_eqt (fM (Cond.eq (.static "java/lang/String" "COMPACT_STRINGS" "Z") (.int 1)) (by simp))) hA
  have Z6 := va_Zqof (hts (.laysStatic "jdk/internal/util/Preconditions" "SIOOBE_FORMATTER" "Ljava/util/function/BiFunction;") (List.mem_append_right _ (List.mem_of_getElem? (i := 85) (by decide +kernel)))) (hts (.initialized "jdk/internal/util/Preconditions") (List.mem_append_right _ (List.mem_of_getElem? (i := 7) (by decide +kernel)))) (fM _ (by simp)) hA
  -- the text
  have i0 : ∀ i : Nat, i < 1 → i = 0 := fun i hi => by omega
  have hl9 : (Cond.eq (.length (.field ztS "java/lang/String" "value" "[B")) (.int (Int32.ofNat (([133] : List Nat).getD 0 0)))).before #[Value.ref b] s = true := fM (Cond.eq (.length (.field ztS "java/lang/String" "value" "[B")) (.int 133)) (by simp)
  have hb9 : ∀ j : Nat, j < 133 → (Cond.eq (.elem (.field ztS "java/lang/String" "value" "[B") (.int (Int32.ofNat j))) (.int ((zown.map Int32.ofInt).getD j 0))).before #[Value.ref b] s = true := fun j hj => hfl _ (of_decide_eq_true (List.all_eq_true.mp zf_B j (List.mem_range.mpr hj)))
  obtain ⟨zb, hzb⟩ : ∃ zb : List Int32, zb = zown.map Int32.ofInt := ⟨_, rfl⟩
  rw [← hzb] at hb9
  obtain ⟨adK, adV, hSS, hev⟩ := vk_Sof (args := #[Value.ref b]) (s := s) (N := 1) (tm := fun _ => ztS) (len := [133]) (byt := [zb]) (A := fun q => s.heap.size ≤ q) (fun i hi => by rw [i0 i hi]; decide) (fun i hi => fM _ (by simp)) (fun i hi => fM _ (by simp)) (fun i hi => fM _ (by simp)) (fun i hi => by rw [i0 i hi]; exact hl9) (fun i hi j hj => by rw [i0 i hi] at hj ⊢; exact hb9 j hj) (fun i j hi hj hij => by omega) hA
  obtain ⟨sO, sC, sV, sT⟩ := hSS.1 0 (by omega)
  have hSR := vk_R.of (hts (.stringRef "SoapDeeds$Tokens" 46 zTx) (List.mem_append_right _ (List.mem_of_getElem? (i := 59) (by decide +kernel)))) (hev 0 (by omega))
  obtain ⟨vq, hvq, Zq⟩ : ∃ vq : Value, (vq = .null ∨ ∃ t : Nat, vq = .ref t) ∧ va_Z "jdk/internal/util/Preconditions" "SIOOBE_FORMATTER" "Ljava/util/function/BiFunction;" vq (fun q => s.heap.size ≤ q) s s.heap := by
    rcases Z6 with q | ⟨t, q⟩
    · exact ⟨_, Or.inl rfl, q⟩
    · exact ⟨_, Or.inr ⟨t, rfl⟩, q⟩
  generalize hov : (fun k : Nat => if k = 0 then Value.ref b else if k = 1 then .ref (adK 0) else if k = 2 then .ref (adV 0) else if k = 3 then .ref t3 else if k = 4 then .ref t4 else if k = 5 then vq else .null) = ov
  generalize haC : (fun k : Nat => if k = 1 then c1 else if k = 2 then c2 else if k = 3 then c3 else if k = 4 then c4 else c5) = aC
  have hE : zEnv (fun k => (dz k).1, fun k => (dz k).2) zcl aC ov (fun q => s.heap.size ≤ q) (L, fun j => (xs j).toInt) s s.heap := by
    refine ⟨⟨fun ci q hq => hdz ci q hq, ?_⟩, ⟨b, xs, by rw [← hov]; rfl, hX, Nat.not_le.mpr hbl, hbl, by show L < 100000; omega, fun j => rfl⟩, ⟨t3, by rw [← hov]; rfl, Z3, T3⟩, ⟨t4, by rw [← hov]; rfl, Z4, T4⟩, Z5, by rw [← hov]; exact Zq, ⟨adK 0, adV 0, by rw [← hov]; rfl, by rw [← hov]; rfl, hSR, sO, sC, sV, ?_⟩, ⟨va_AO.of hAO, fun q hq => va_Nw.of rfl (hts _ (List.mem_append_right _ (of_decide_eq_true (List.all_eq_true.mp zNs_ok q hq))))⟩, ?_⟩
    · intro k q hk
      rw [← haC] at hk
      match k, hk with
      | 0, hk => cases hk; exact ⟨a1, r1⟩
      | 1, hk => cases hk; exact ⟨a2, r2⟩
      | 2, hk => cases hk; exact ⟨a3, r3⟩
      | 3, hk => cases hk; exact ⟨a4, r4⟩
      | 4, hk => cases hk; exact ⟨fun N z => ⟨(fun k h => by cases h), k5, g3, comp, g4⟩, k5, comp, g3, g4, g1, g5⟩
      | k + 5, hk => simp [zTys] at hk
    · have e9 : (fun j => Value.int ((([zb] : List (List Int32)).getD 0 []).getD j 0)) = fun j => Value.int (Int32.ofInt (zom (L, fun j => (xs j).toInt) 2 j)) := by
        funext j
        rw [zom2, ← zmapg, ← hzb]
        rfl
      rw [← e9]
      exact sT
    · intro k
      rw [← hov]
      dsimp only
      repeat' split
      all_goals first | exact Or.inr ⟨_, rfl⟩ | exact hvq | exact Or.inl rfl
  have C : zCx p room_1 s m #[Value.ref b] meth c (fun k => (dz k).1, fun k => (dz k).2) zcl aC ov (fun q => s.heap.size ≤ q) (L, fun j => (xs j).toInt) (zbyt 330) (zmn 330).cls (zmn 330).name zTs :=
    ⟨hx, hb, hown, fun w hw => hts w (zTs_lw hw), hname, fun _ h => h, hE, by decide, by decide⟩
  have hcat := zEnv.cat hE
  have e0 : zc ov (fun _ => 0) (3, 0) = Value.ref b := by
    show ov 0 = _
    rw [← hov]
    rfl
  have hl := lv_entry ([(3, 0)].map (zc ov (fun _ => 0))) (n := 4) (by rw [zloc_len hcat]; decide)
  have hzl := zentry hcat (as := [(3, 0)]) (n := 4) (by decide) hl
  rw [lg_entry_eq]
  rw [List.map_singleton, e0] at hl hzl
  have K := zsound (l := l) zClo_ok zGen_ok zTs_g zPOK_ok (by decide) n d 330 0 [(3, 0), (9, 0), (9, 0), (9, 0)] [] ([], fun _ _ => -1, fun _ _ => 0) (some (0, 1)) S' hz p e room_1 s m #[Value.ref b] below meth c (lw_Z below #[Value.ref b] s) 0 0 (fun _ => 0) C rfl hml (by show d + 1 ≤ 2048; omega) (by show 60 * (d + 1) ≤ 84000; omega) (by show _ ≤ 0 + 600000; omega) (by show _ ≤ 0 + 7302250; omega) ?_
  · exact K (fun _ => 0) _ s.heap [] 0 0 (fun _ _ => rfl) (fun _ => rfl) hzl (fun k q h => by simp [zw] at h) ⟨fun i j p q h => by simp [zw] at h, fun k q h => by simp [zw] at h⟩ va_S.rf rfl rfl (fun t ht => by cases ht)
  · intro pc' ls' st' i len a b' hc hzr
    obtain ⟨hdc, -, hro, -⟩ := zPOK_ok 330 pc' i len a b' 102 hc
    intro ad' L' H' locs' cells' slots' q1 q2 ql qP qD qS q3 q4 q5
    unfold zrt at hzr
    have hro := hro rfl
    unfold zROK at hro
    cases i <;> dsimp only at hzr hro <;> first | (cases hzr; done) | skip
    · have hz' := zR_ok hzr
      clear hzr
      rcases hz' with ⟨q, r, rfl, hzr⟩ | ⟨q, r, rfl, hzr⟩
      · split at hzr
        · cases hzr
        · cases hzr
      · cases hzr
    · have hz' := zI_ok hzr
      clear hzr
      obtain ⟨x, r, rfl, hzr⟩ := hz'
      split at hzr
      · next g =>
        obtain ⟨rfl, rfl, g⟩ := g
        cases hzr
        refine va_forget (fun q hq => qS.2.2 q hq) (W.widen (k := 600000) (n := 7302250) (by omega) (by omega) ?_)
        exact lw_ret hx hb hr hlocks hdc
      · cases hzr
    · have hz' := zL_ok hzr
      clear hzr
      obtain ⟨x, r, rfl, hzr⟩ := hz'
      split at hzr
      · cases hzr
      · cases hzr
    · split at hzr
      · cases hzr
      · cases hzr
