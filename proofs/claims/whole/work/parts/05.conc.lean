/-! WHAT A STATE OF THE SMALL MACHINE IS IN THE MACHINE ITSELF -/
def zrv (ad : Nat → Nat) (x : Int) : Value := if x < 0 then .null else .ref (ad x.toNat)
def zro (ad : Nat → Nat) (x : Int) : Option Nat := if x < 0 then none else some (ad x.toNat)
def zc (ov : Nat → Value) (ad : Nat → Nat) (v : zV) : Value := if v.1 = 0 then .int (Int32.ofInt v.2) else if v.1 = 1 then .long (Int64.ofInt v.2) else if v.1 = 2 then zrv ad v.2 else ov v.2.toNat
def zftc (ty : FieldType) : Nat := match ty with
  | .int => 0
  | .long => 1
  | .boolean => 3
  | .object _ => 2
  | .array _ => 2
  | _ => 7
def zfty (cl : List vw_C) (ci k : Nat) : FieldType := match cl[ci]? with
  | some q => (parseFieldDescriptor (q.2.1 k).2.2.1).getD .int
  | none => .int
def znF (cl : List vw_C) (ci : Nat) : Nat := match cl[ci]? with
  | some q => q.2.2
  | none => 0
def zfv (ad : Nat → Nat) (rf mem : zF) (a k c : Nat) : Value := if c = 1 then .long (Int64.ofInt (mem a k)) else if c = 2 then zrv ad (rf a k) else .int (Int32.ofInt (mem a k))
def zcell (cl : List vw_C) (aC : Nat → ClassId) (ad : Nat → Nat) (rf mem : zF) (a : Nat) (t : zT) : va_E :=
  if t.1 = 0 then .inr (t.2, (List.range (znF cl t.2)).map (fun k => zfv ad rf mem a k (zftc (zfty cl t.2 k))))
  else if t.1 = 2 then .inl (aC 2, t.2, .inr (.inl (fun j => Int64.ofInt (mem a j))))
  else if t.1 = 5 then .inl (aC 5, t.2, .inr (.inr (.inr (.inr (fun j => if j < t.2 then zro ad (rf a j) else none)))))
  else .inl (aC t.1, t.2, .inl (fun j => Int32.ofInt (mem a j)))
def zw (cl : List vw_C) (aC : Nat → ClassId) (ad : Nat → Nat) (S : zS) : va_W := S.1.mapIdx (fun a t => (ad a, zcell cl aC ad S.2.1 S.2.2 a t))
def zsl (nF : Nat → Nat) (ty : List zT) : Nat := (ty.map (fun t => if t.1 = 0 then nF t.2 else t.2)).sum
theorem zcell_cg {cl : List vw_C} {aC : Nat → ClassId} {ad ad' : Nat → Nat} {rf mem rf' mem' : zF} {a : Nat} {t : zT} (h1 : ∀ k, zrv ad (rf a k) = zrv ad' (rf' a k)) (h3 : ∀ k, zro ad (rf a k) = zro ad' (rf' a k)) (h2 : ∀ k, mem a k = mem' a k) : zcell cl aC ad rf mem a t = zcell cl aC ad' rf' mem' a t := by
  unfold zcell zfv
  simp only [h1, h2, h3]
theorem zw_at {cl : List vw_C} {aC : Nat → ClassId} {ad : Nat → Nat} {S : zS} {a : Nat} {t : zT} (h : S.1[a]? = some t) : (zw cl aC ad S)[a]? = some (ad a, zcell cl aC ad S.2.1 S.2.2 a t) := by
  simp [zw, List.getElem?_mapIdx, h]
theorem zw_len {cl : List vw_C} {aC : Nat → ClassId} {ad : Nat → Nat} {S : zS} : (zw cl aC ad S).length = S.1.length := by simp [zw]
theorem zw_set {cl : List vw_C} {aC : Nat → ClassId} {ad : Nat → Nat} {ty : List zT} {rf mem rf' mem' : zF} {a : Nat} {t : zT} {e : va_E} (h : ty[a]? = some t) (he : e = zcell cl aC ad rf' mem' a t) (ho : ∀ b, b ≠ a → ∀ k, rf b k = rf' b k ∧ mem b k = mem' b k) :
    (zw cl aC ad (ty, rf, mem)).set a (ad a, e) = zw cl aC ad (ty, rf', mem') := by
  subst he
  apply List.ext_getElem?
  intro b
  by_cases hb : b = a
  · subst hb
    rw [zw_at (S := (ty, rf', mem')) h, List.getElem?_set_self (by rw [zw_len]; exact (List.getElem?_eq_some_iff.mp h).1)]
  · rw [List.getElem?_set_ne (Ne.symm hb)]
    simp only [zw, List.getElem?_mapIdx]
    cases ty[b]? with
    | none => rfl
    | some u =>
      simp only [Option.map_some]
      rw [zcell_cg (ad' := ad) (rf' := rf') (mem' := mem') (fun k => by rw [(ho b hb k).1]) (fun k => by rw [(ho b hb k).1]) (fun k => (ho b hb k).2)]
theorem zup_o {f : zF} {a j : Nat} {v : Int} {b : Nat} (h : b ≠ a) (k : Nat) : zup f a j v b k = f b k := by simp [zup, h]
theorem zup_s {f : zF} {a j : Nat} {v : Int} (k : Nat) : zup f a j v a k = if k = j then v else f a k := by simp [zup]
/-- locals -/
def zlv (ov : Nat → Value) (ad : Nat → Nat) (ls : List zV) (L : Array Slot) : Prop := L.size = ls.length ∧ lv_wf L ∧ ∀ i : Nat, (ls.getD i (9, 0)).1 ≠ 9 → L[i]? = some (.val (zc ov ad (ls.getD i (9, 0))))
def zll (ov : Nat → Value) (ad : Nat → Nat) (ls : List zV) : List (Nat × Value) := (List.range ls.length).filterMap (fun i => if (ls.getD i (9, 0)).1 = 9 then none else some (i, zc ov ad (ls.getD i (9, 0))))
theorem zll_mem {ov : Nat → Value} {ad : Nat → Nat} {ls : List zV} {i : Nat} (h : (ls.getD i (9, 0)).1 ≠ 9) : (i, zc ov ad (ls.getD i (9, 0))) ∈ zll ov ad ls := by
  have hi : i < ls.length := by
    rcases Nat.lt_or_ge i ls.length with q | q
    · exact q
    · exact absurd (by rw [List.getD_eq_getElem?_getD, List.getElem?_eq_none q]; rfl) h
  exact List.mem_filterMap.mpr ⟨i, List.mem_range.mpr hi, by rw [if_neg h]⟩
theorem zlv_has {ov : Nat → Value} {ad : Nat → Nat} {ls : List zV} {L : Array Slot} (h : zlv ov ad ls L) : lv_has L ls.length (zll ov ad ls) := by
  refine ⟨h.1, h.2.1, fun q hq => ?_⟩
  obtain ⟨i, -, hi⟩ := List.mem_filterMap.mp hq
  split at hi
  · cases hi
  · next hne => cases hi; exact h.2.2 i hne
theorem zc_cat {ov : Nat → Value} (hov : ∀ k, (ov k).category = 1) {ad : Nat → Nat} {v : zV} : (zc ov ad v).category = if v.1 = 1 then 2 else 1 := by
  unfold zc zrv
  split
  · next h => rw [h]; rfl
  · split
    · rfl
    · split
      · split <;> rfl
      · exact hov _
theorem zst1_len {ls : List zV} {i : Nat} {v : zV} : (zst1 ls i v).length = ls.length := by
  unfold zst1
  split <;> simp
theorem zst2_len {ls : List zV} {i : Nat} {v : zV} : (zst2 ls i v).length = ls.length := by
  unfold zst2
  rw [List.length_set, zst1_len]
theorem zst1_get {ls : List zV} {i j : Nat} {v : zV} (hi : i < ls.length) : (zst1 ls i v).getD j (9, 0) = if j = i then v else if j + 1 = i ∧ (ls.getD j (9, 0)).1 = 1 then (9, 0) else ls.getD j (9, 0) := by
  unfold zst1
  simp only [List.getD_eq_getElem?_getD, List.getElem?_set]
  by_cases hj : j = i
  · subst hj
    rw [if_pos rfl, if_pos rfl, if_pos (by split <;> simp [hi])]
    rfl
  · rw [if_neg (Ne.symm hj), if_neg hj]
    split
    · next h =>
      rw [List.getElem?_set]
      by_cases h2 : j + 1 = i
      · have : i - 1 = j := by omega
        rw [this] at h ⊢
        simp only [h2, true_and]
        rw [if_pos h.1]
        simp
        split <;> simp_all
      · rw [if_neg (by omega), if_neg (fun q => h2 q.1)]
    · next h =>
      by_cases h2 : j + 1 = i
      · have : i - 1 = j := by omega
        rw [this] at h
        rw [if_neg]
        intro q
        exact h ⟨q.2, by omega⟩
      · rw [if_neg (fun q => h2 q.1)]
theorem zst1_ok {ov : Nat → Value} (hov : ∀ k, (ov k).category = 1) {ad : Nat → Nat} {ls : List zV} {L : Array Slot} {i : Nat} {v : zV} (hi : i < ls.length) (hL : lv_has L ls.length ((i, zc ov ad v) :: (zll ov ad ls).filter (fun q => !(q.1 == i) && !(q.1 + 1 == i && q.2.category == 2)))) : zlv ov ad (zst1 ls i v) L := by
  refine ⟨by rw [zst1_len]; exact hL.1, hL.2.1, fun j hj => ?_⟩
  rw [zst1_get hi] at hj ⊢
  by_cases h1 : j = i
  · subst h1
    simp only [if_true] at hj ⊢
    exact hL.2.2 _ List.mem_cons_self
  · simp only [h1, if_false] at hj ⊢
    split at hj
    · exact absurd rfl hj
    · next h2 =>
      rw [if_neg h2]
      refine hL.2.2 (j, zc ov ad (ls.getD j (9, 0))) (List.mem_cons_of_mem _ (List.mem_filter.mpr ⟨zll_mem hj, ?_⟩))
      by_cases h3 : j + 1 = i
      · have h4 : ¬ (ls.getD j (9, 0)).1 = 1 := fun q => h2 ⟨h3, q⟩
        have h5 : (zc ov ad (ls.getD j (9, 0))).category = 1 := by rw [zc_cat hov, if_neg h4]
        generalize zc ov ad (ls.getD j (9, 0)) = w at h5 ⊢
        simp [h1, h5]
      · simp [h1, h3]
theorem zst2_ok {ov : Nat → Value} (hov : ∀ k, (ov k).category = 1) {ad : Nat → Nat} {ls : List zV} {L : Array Slot} {i : Nat} {v : zV} (hi : i + 1 < ls.length) (hL : lv_has L ls.length ((i, zc ov ad v) :: (zll ov ad ls).filter (fun q => !(q.1 == i) && (!(q.1 == i + 1) && !(q.1 + 1 == i && q.2.category == 2))))) : zlv ov ad (zst2 ls i v) L := by
  refine ⟨by rw [zst2_len]; exact hL.1, hL.2.1, fun j hj => ?_⟩
  have key : (zst2 ls i v).getD j (9, 0) = if j = i + 1 then (9, 0) else (zst1 ls i v).getD j (9, 0) := by
    unfold zst2
    simp only [List.getD_eq_getElem?_getD, List.getElem?_set]
    by_cases h : j = i + 1
    · subst h
      simp only [if_true]
      split <;> rfl
    · rw [if_neg (Ne.symm h), if_neg h]
  rw [key] at hj ⊢
  by_cases h0 : j = i + 1
  · rw [if_pos h0] at hj; exact absurd rfl hj
  rw [if_neg h0] at hj ⊢
  rw [zst1_get (by omega)] at hj ⊢
  by_cases h1 : j = i
  · subst h1
    simp only [if_true] at hj ⊢
    exact hL.2.2 _ List.mem_cons_self
  · simp only [h1, if_false] at hj ⊢
    split at hj
    · exact absurd rfl hj
    · next h2 =>
      rw [if_neg h2]
      refine hL.2.2 (j, zc ov ad (ls.getD j (9, 0))) (List.mem_cons_of_mem _ (List.mem_filter.mpr ⟨zll_mem hj, ?_⟩))
      by_cases h3 : j + 1 = i
      · have h4 : ¬ (ls.getD j (9, 0)).1 = 1 := fun q => h2 ⟨h3, q⟩
        have h5 : (zc ov ad (ls.getD j (9, 0))).category = 1 := by rw [zc_cat hov, if_neg h4]
        generalize zc ov ad (ls.getD j (9, 0)) = w at h5 ⊢
        simp [h0, h1, h5]
      · simp [h0, h1, h3]
/-- stacks -/
theorem zI_ok {α : Type} {st : List zV} {k : Int → List zV → Option α} {z : α} (h : zI st k = some z) : ∃ x r, st = (0, x) :: r ∧ k x r = some z := by
  unfold zI at h
  split at h
  · cases h
  · next v r =>
    split at h
    · next h0 => exact ⟨v.2, r, by rw [← h0], h⟩
    · cases h
theorem zL_ok {α : Type} {st : List zV} {k : Int → List zV → Option α} {z : α} (h : zL st k = some z) : ∃ x r, st = (1, x) :: r ∧ k x r = some z := by
  unfold zL at h
  split at h
  · cases h
  · next v r =>
    split at h
    · next h0 => exact ⟨v.2, r, by rw [← h0], h⟩
    · cases h
theorem zR_ok {α : Type} {st : List zV} {k o : Nat → List zV → Option α} {z : α} (h : zR st k o = some z) : (∃ (q : Nat) (r : List zV), st = (2, (q : Int)) :: r ∧ k q r = some z) ∨ ∃ (q : Nat) (r : List zV), st = (3, (q : Int)) :: r ∧ o q r = some z := by
  unfold zR at h
  split at h
  · cases h
  · next v r =>
    obtain ⟨t, x⟩ := v
    split at h
    · next h0 =>
      obtain ⟨rfl, h1⟩ := h0
      refine Or.inl ⟨x.toNat, r, ?_, h⟩
      rw [Int.toNat_of_nonneg h1]
    · split at h
      · next h0 =>
        obtain ⟨rfl, h1⟩ := h0
        refine Or.inr ⟨x.toNat, r, ?_, h⟩
        rw [Int.toNat_of_nonneg h1]
      · cases h
theorem zII_ok {α : Type} {st : List zV} {k : Int → Int → List zV → Option α} {z : α} (h : zII st k = some z) : ∃ x y r, st = (0, y) :: (0, x) :: r ∧ k x y r = some z := by
  obtain ⟨y, r, rfl, h1⟩ := zI_ok h
  obtain ⟨x, r, rfl, h2⟩ := zI_ok h1
  exact ⟨x, y, r, rfl, h2⟩
theorem zLL_ok {α : Type} {st : List zV} {k : Int → Int → List zV → Option α} {z : α} (h : zLL st k = some z) : ∃ x y r, st = (1, y) :: (1, x) :: r ∧ k x y r = some z := by
  obtain ⟨y, r, rfl, h1⟩ := zL_ok h
  obtain ⟨x, r, rfl, h2⟩ := zL_ok h1
  exact ⟨x, y, r, rfl, h2⟩
/-- numbers -/
theorem zi_lt {x y : Int} (hx : inI x) (hy : inI y) : Int32.ofInt x < Int32.ofInt y ↔ x < y := by
  rw [Int32.lt_iff_toInt_lt, Int32.toInt_ofInt_of_le (by omega) (by omega), Int32.toInt_ofInt_of_le (by omega) (by omega)]
theorem zi_le {x y : Int} (hx : inI x) (hy : inI y) : Int32.ofInt x ≤ Int32.ofInt y ↔ x ≤ y := by
  rw [Int32.le_iff_toInt_le, Int32.toInt_ofInt_of_le (by omega) (by omega), Int32.toInt_ofInt_of_le (by omega) (by omega)]
theorem zi_eq {x y : Int} (hx : inI x) (hy : inI y) : Int32.ofInt x = Int32.ofInt y ↔ x = y := by
  rw [← Int32.toInt_inj, Int32.toInt_ofInt_of_le (by omega) (by omega), Int32.toInt_ofInt_of_le (by omega) (by omega)]
theorem zi_toInt {x : Int} (hx : inI x) : (Int32.ofInt x).toInt = x := Int32.toInt_ofInt_of_le (by omega) (by omega)
theorem zl_toInt {x : Int} (hx : inL x) : (Int64.ofInt x).toInt = x := Int64.toInt_ofInt_of_le (by omega) (by omega)
theorem zl_lt {x y : Int} (hx : inL x) (hy : inL y) : Int64.ofInt x < Int64.ofInt y ↔ x < y := by
  rw [Int64.lt_iff_toInt_lt, zl_toInt hx, zl_toInt hy]
theorem zl_eq {x y : Int} (hx : inL x) (hy : inL y) : Int64.ofInt x = Int64.ofInt y ↔ x = y := by
  rw [← Int64.toInt_inj, zl_toInt hx, zl_toInt hy]
theorem zi_clamp {x : Int} (h0 : 0 ≤ x) (h1 : x < 2147483648) : (Int32.ofInt x).toNatClampNeg = x.toNat := by
  show (Int32.ofInt x).toInt.toNat = x.toNat
  rw [zi_toInt ⟨by omega, h1⟩]
theorem zi_in {x : Int} {n : Nat} (h0 : 0 ≤ x) (h1 : x < n) (hn : n < 2147483648) : vp_in (Int32.ofInt x) n := by
  rw [vp_in_iff, zi_toInt ⟨by omega, by omega⟩]
  exact ⟨h0, h1⟩
