/-! THE SUMS AND THE TEST: codes on a stack -/
theorem i32_toInt {x : Int} (h : inI x) : (Int32.ofInt x).toInt = x := by
  rw [Int32.toInt_ofInt]
  have e : Int32.size = 4294967296 := rfl
  rw [e]
  exact Int.bmod_eq_of_le (by omega) (by omega)
theorem zxor_sgn {x y : Int} (hx : inI x) (hy : inI y) : zxor x y < 0 ↔ ((x < 0 ∧ 0 ≤ y) ∨ (0 ≤ x ∧ y < 0)) := by
  have h := BitVec.msb_xor (x := (Int32.ofInt x).toBitVec) (y := (Int32.ofInt y).toBitVec)
  rw [BitVec.msb_eq_toInt, BitVec.msb_eq_toInt, BitVec.msb_eq_toInt] at h
  have e1 : ((Int32.ofInt x).toBitVec ^^^ (Int32.ofInt y).toBitVec).toInt = zxor x y := rfl
  have e2 : (Int32.ofInt x).toBitVec.toInt = x := i32_toInt hx
  have e3 : (Int32.ofInt y).toBitVec.toInt = y := i32_toInt hy
  rw [e1, e2, e3] at h
  by_cases h1 : x < 0 <;> by_cases h2 : y < 0 <;> simp [h1, h2] at h ⊢ <;> omega
theorem zxor_inI (x y : Int) : inI (zxor x y) := by
  unfold zxor
  have h1 := (Int32.ofInt x ^^^ Int32.ofInt y).minValue_le_toInt
  have h2 := (Int32.ofInt x ^^^ Int32.ofInt y).toInt_le
  have e1 : Int32.minValue.toInt = -2147483648 := rfl
  have e2 : Int32.maxValue.toInt = 2147483647 := rfl
  omega
def zlim (x : Int) : Int := max (-1000000) (min 1000000 x)
theorem zlim_rng (x : Int) : -1000000 ≤ zlim x ∧ zlim x ≤ 1000000 := by
  unfold zlim
  omega
theorem zlim_id {x : Int} (h : -1000000 ≤ x ∧ x ≤ 1000000) : zlim x = x := by
  unfold zlim
  omega
/-- division towards below -/
def zfd (l r : Int) : Int := if l.tmod r ≠ 0 ∧ ((l < 0 ∧ 0 ≤ r) ∨ (0 ≤ l ∧ r < 0)) then l.tdiv r - 1 else l.tdiv r
theorem tmod_rng (l : Int) {r : Int} (hr : r ≠ 0) : (0 ≤ l → 0 ≤ l.tmod r) ∧ (l ≤ 0 → l.tmod r ≤ 0) ∧ (0 < r → -r < l.tmod r ∧ l.tmod r < r) ∧ (r < 0 → r < l.tmod r ∧ l.tmod r < -r) := by
  refine ⟨fun h => Int.tmod_nonneg r h, fun h => ?_, fun h => ⟨Int.lt_tmod_of_pos l h, Int.tmod_lt_of_pos l h⟩, fun h => ?_⟩
  · have h2 := Int.tmod_nonneg (a := -l) r (by omega)
    rw [Int.neg_tmod] at h2
    omega
  · have h1 := Int.lt_tmod_of_pos l (b := -r) (by omega)
    have h2 := Int.tmod_lt_of_pos l (b := -r) (by omega)
    rw [Int.tmod_neg] at h1 h2
    omega
theorem tdiv_rng {l : Int} (r : Int) (h : -1000000 ≤ l ∧ l ≤ 1000000) : -1000000 ≤ l.tdiv r ∧ l.tdiv r ≤ 1000000 := by
  have h1 : (l.tdiv r).natAbs ≤ l.natAbs := by
    rw [Int.natAbs_tdiv]
    exact Nat.div_le_self _ _
  omega
theorem zfd_mod {l r : Int} (hr : r ≠ 0) (hr2 : -1000000 ≤ r ∧ r ≤ 1000000) : (-1000000 ≤ l - r * zfd l r ∧ l - r * zfd l r ≤ 1000000) ∧ l - r * zfd l r = if l.tmod r ≠ 0 ∧ ((l < 0 ∧ 0 ≤ r) ∨ (0 ≤ l ∧ r < 0)) then l.tmod r + r else l.tmod r := by
  have h1 := Int.mul_tdiv_add_tmod l r
  have h2 := tmod_rng l hr
  unfold zfd
  split
  · next q =>
    have e : r * (l.tdiv r - 1) = r * l.tdiv r - r := by rw [Int.mul_sub, Int.mul_one]
    rw [e]
    omega
  · omega
def zjo (so l r : Int) : Int :=
  if so = 31 then zlim (l + r) else if so = 32 then zlim (l - r) else if so = 33 then zlim (l * r)
  else if so = 34 then (if r = 0 then 0 else zlim (zfd l r)) else if so = 35 then (if r = 0 then 0 else l - r * zfd l r)
  else if so = 36 then min l r else if so = 37 then max l r else if so = 38 then (if l < r then 1 else 0)
  else if so = 39 then (if r < l then 1 else 0) else if so = 40 then (if l = r then 1 else 0)
  else if so = 41 then (if l = 1 ∧ r = 1 then 1 else 0) else (if l = 1 ∨ r = 1 then 1 else 0)
/-- the program's code of a code of the reference -/
def zcm (so va : Int) : Int := if so = 0 then va else if so ≤ 6 then -so else if so = 30 then 1 else 24 - so
def zst (q : Nat → Int) (so va : Int) (st : List Int) : List Int :=
  if so = 0 then va :: st else if so ≤ 6 then q (so - 1).toNat :: st else if so = 30 then 1 :: st
  else if so = 43 then (match st with | x :: s => (1 - x) :: s | s => s)
  else if so = 44 then (match st with | n :: y :: x :: s => (if x = 1 then y else n) :: s | s => s)
  else (match st with | r :: l :: s => zjo so l r :: s | s => s)
/-- the sorts of what lies on the stack: true a test's answer -/
def ztc (r so va : Int) (st : List Bool) : Option (List Bool) :=
  if so = 0 then (if 0 ≤ va ∧ va < 10000 ∧ st.length < 60 then some (false :: st) else none)
  else if 1 ≤ so ∧ so ≤ 6 then (if (so ≤ 3 ∨ so = r + 4) ∧ st.length < 60 then some (false :: st) else none)
  else if so = 30 then (if st.length < 60 then some (true :: st) else none)
  else if so = 43 then (match st with | true :: s => some (true :: s) | _ => none)
  else if so = 44 then (match st with | false :: false :: true :: s => some (false :: s) | _ => none)
  else if 31 ≤ so ∧ so ≤ 37 then (match st with | false :: false :: s => some (false :: s) | _ => none)
  else if 38 ≤ so ∧ so ≤ 40 then (match st with | false :: false :: s => some (true :: s) | _ => none)
  else if so = 41 ∨ so = 42 then (match st with | true :: true :: s => some (true :: s) | _ => none)
  else none
theorem zck_cases {r so va : Int} {ts ts' : List Bool} (h : ztc r so va ts = some ts') :
    (so = 0 ∧ 0 ≤ va ∧ va < 10000 ∧ ts.length < 60 ∧ ts' = false :: ts) ∨ (1 ≤ so ∧ so ≤ 6 ∧ (so ≤ 3 ∨ so = r + 4) ∧ ts.length < 60 ∧ ts' = false :: ts) ∨ (so = 30 ∧ ts.length < 60 ∧ ts' = true :: ts) ∨
    (so = 43 ∧ ∃ s, ts = true :: s ∧ ts' = true :: s) ∨ (so = 44 ∧ ∃ s, ts = false :: false :: true :: s ∧ ts' = false :: s) ∨
    (31 ≤ so ∧ so ≤ 37 ∧ ∃ s, ts = false :: false :: s ∧ ts' = false :: s) ∨ (38 ≤ so ∧ so ≤ 40 ∧ ∃ s, ts = false :: false :: s ∧ ts' = true :: s) ∨ ((so = 41 ∨ so = 42) ∧ ∃ s, ts = true :: true :: s ∧ ts' = true :: s) := by
  unfold ztc at h
  split at h
  · next q =>
    split at h
    · next q2 => cases h; exact Or.inl ⟨q, q2.1, q2.2.1, q2.2.2, rfl⟩
    · cases h
  · split at h
    · next q =>
      split at h
      · next q2 => cases h; exact Or.inr (Or.inl ⟨q.1, q.2, q2.1, q2.2, rfl⟩)
      · cases h
    · split at h
      · next q =>
        split at h
        · next q2 => cases h; exact Or.inr (Or.inr (Or.inl ⟨q, q2, rfl⟩))
        · cases h
      · split at h
        · next q =>
          split at h
          · cases h; exact Or.inr (Or.inr (Or.inr (Or.inl ⟨q, _, rfl, rfl⟩)))
          · cases h
        · split at h
          · next q =>
            split at h
            · cases h; exact Or.inr (Or.inr (Or.inr (Or.inr (Or.inl ⟨q, _, rfl, rfl⟩))))
            · cases h
          · split at h
            · next q =>
              split at h
              · cases h; exact Or.inr (Or.inr (Or.inr (Or.inr (Or.inr (Or.inl ⟨q.1, q.2, _, rfl, rfl⟩)))))
              · cases h
            · split at h
              · next q =>
                split at h
                · cases h; exact Or.inr (Or.inr (Or.inr (Or.inr (Or.inr (Or.inr (Or.inl ⟨q.1, q.2, _, rfl, rfl⟩))))))
                · cases h
              · split at h
                · next q =>
                  split at h
                  · cases h; exact Or.inr (Or.inr (Or.inr (Or.inr (Or.inr (Or.inr (Or.inr ⟨q, _, rfl, rfl⟩))))))
                  · cases h
                · cases h
def VT : List Bool → List Int → Prop
  | [], [] => True
  | b :: bs, v :: vs => ((-1000000 ≤ v ∧ v ≤ 1000000) ∧ (b = true → v = 0 ∨ v = 1)) ∧ VT bs vs
  | _, _ => False
theorem VT.cons {b : Bool} {bs : List Bool} {vs : List Int} (h : VT (b :: bs) vs) : ∃ v ws, vs = v :: ws ∧ (-1000000 ≤ v ∧ v ≤ 1000000) ∧ (b = true → v = 0 ∨ v = 1) ∧ VT bs ws := by
  cases vs with
  | nil => exact h.elim
  | cons v ws => exact ⟨v, ws, rfl, h.1.1, h.1.2, h.2⟩
theorem VT.len : ∀ {ts : List Bool} {vs : List Int}, VT ts vs → vs.length = ts.length
  | [], [], _ => rfl
  | b :: bs, v :: vs, h => by
    show vs.length + 1 = bs.length + 1
    rw [VT.len h.2]
  | [], _ :: _, h => h.elim
  | _ :: _, [], h => h.elim
theorem zjo_rng {so l r : Int} (h1 : 31 ≤ so) (h2 : so ≤ 42) (hl : -1000000 ≤ l ∧ l ≤ 1000000) (hr : -1000000 ≤ r ∧ r ≤ 1000000) : (-1000000 ≤ zjo so l r ∧ zjo so l r ≤ 1000000) ∧ (38 ≤ so → zjo so l r = 0 ∨ zjo so l r = 1) := by
  have hz := fun x => zlim_rng x
  have key : ∀ x, x = zjo so l r → (-1000000 ≤ x ∧ x ≤ 1000000) ∧ (38 ≤ so → x = 0 ∨ x = 1) := by
    intro x hx
    unfold zjo at hx
    have hc : so = 31 ∨ so = 32 ∨ so = 33 ∨ so = 34 ∨ so = 35 ∨ so = 36 ∨ so = 37 ∨ so = 38 ∨ so = 39 ∨ so = 40 ∨ so = 41 ∨ so = 42 := by omega
    rcases hc with rfl | rfl | rfl | rfl | rfl | rfl | rfl | rfl | rfl | rfl | rfl | rfl
    · rw [if_pos rfl] at hx
      have := hz (l + r); omega
    · rw [if_neg (by decide), if_pos rfl] at hx
      have := hz (l - r); omega
    · rw [if_neg (by decide), if_neg (by decide), if_pos rfl] at hx
      have := hz (l * r); omega
    · rw [if_neg (by decide), if_neg (by decide), if_neg (by decide), if_pos rfl] at hx
      by_cases q : r = 0
      · rw [if_pos q] at hx; omega
      · rw [if_neg q] at hx; have := hz (zfd l r); omega
    · rw [if_neg (by decide), if_neg (by decide), if_neg (by decide), if_neg (by decide), if_pos rfl] at hx
      by_cases q : r = 0
      · rw [if_pos q] at hx; omega
      · rw [if_neg q] at hx; have := (zfd_mod (l := l) q hr).1; omega
    · rw [if_neg (by decide), if_neg (by decide), if_neg (by decide), if_neg (by decide), if_neg (by decide), if_pos rfl] at hx
      omega
    · rw [if_neg (by decide), if_neg (by decide), if_neg (by decide), if_neg (by decide), if_neg (by decide), if_neg (by decide), if_pos rfl] at hx
      omega
    · rw [if_neg (by decide), if_neg (by decide), if_neg (by decide), if_neg (by decide), if_neg (by decide), if_neg (by decide), if_neg (by decide), if_pos rfl] at hx
      split at hx <;> omega
    · rw [if_neg (by decide), if_neg (by decide), if_neg (by decide), if_neg (by decide), if_neg (by decide), if_neg (by decide), if_neg (by decide), if_neg (by decide), if_pos rfl] at hx
      split at hx <;> omega
    · rw [if_neg (by decide), if_neg (by decide), if_neg (by decide), if_neg (by decide), if_neg (by decide), if_neg (by decide), if_neg (by decide), if_neg (by decide), if_neg (by decide), if_pos rfl] at hx
      split at hx <;> omega
    · rw [if_neg (by decide), if_neg (by decide), if_neg (by decide), if_neg (by decide), if_neg (by decide), if_neg (by decide), if_neg (by decide), if_neg (by decide), if_neg (by decide), if_neg (by decide), if_pos rfl] at hx
      split at hx <;> omega
    · rw [if_neg (by decide), if_neg (by decide), if_neg (by decide), if_neg (by decide), if_neg (by decide), if_neg (by decide), if_neg (by decide), if_neg (by decide), if_neg (by decide), if_neg (by decide), if_neg (by decide)] at hx
      split at hx <;> omega
  exact key _ rfl
theorem VT.step {r so va : Int} {ts ts' : List Bool} {vs : List Int} {q : Nat → Int} (h : VT ts vs) (hc : ztc r so va ts = some ts') (hq : ∀ j : Nat, j < 6 → (j < 3 ∨ (j : Int) = r + 3) → -1000000 ≤ q j ∧ q j ≤ 1000000) : VT ts' (zst q so va vs) := by
  unfold zst
  rcases zck_cases hc with ⟨e, h1, h2, h3, rfl⟩ | ⟨e1, e2, h1, h3, rfl⟩ | ⟨e, h3, rfl⟩ | ⟨e, s, rfl, rfl⟩ | ⟨e, s, rfl, rfl⟩ | ⟨e1, e2, s, rfl, rfl⟩ | ⟨e1, e2, s, rfl, rfl⟩ | ⟨e, s, rfl, rfl⟩
  · rw [if_pos e]
    exact ⟨⟨by omega, fun q => by cases q⟩, h⟩
  · rw [if_neg (by omega), if_pos (by omega)]
    exact ⟨⟨hq _ (by omega) (by omega), fun q => by cases q⟩, h⟩
  · rw [if_neg (by omega), if_neg (by omega), if_pos e]
    exact ⟨⟨by omega, fun _ => Or.inr rfl⟩, h⟩
  · obtain ⟨v, ws, rfl, h1, h2, h3⟩ := h.cons
    rw [if_neg (by omega), if_neg (by omega), if_neg (by omega), if_pos e]
    have := h2 rfl
    exact ⟨⟨by omega, fun _ => by omega⟩, h3⟩
  · obtain ⟨v, ws, rfl, h1, h2, h3⟩ := h.cons
    obtain ⟨v2, ws2, rfl, h4, h5, h6⟩ := h3.cons
    obtain ⟨v3, ws3, rfl, h7, h8, h9⟩ := h6.cons
    rw [if_neg (by omega), if_neg (by omega), if_neg (by omega), if_neg (by omega), if_pos e]
    refine ⟨⟨?_, fun q => by cases q⟩, h9⟩
    split <;> omega
  · obtain ⟨v, ws, rfl, h1, h2, h3⟩ := h.cons
    obtain ⟨v2, ws2, rfl, h4, h5, h6⟩ := h3.cons
    rw [if_neg (by omega), if_neg (by omega), if_neg (by omega), if_neg (by omega), if_neg (by omega)]
    exact ⟨⟨(zjo_rng (by omega) (by omega) h4 h1).1, fun q => by cases q⟩, h6⟩
  · obtain ⟨v, ws, rfl, h1, h2, h3⟩ := h.cons
    obtain ⟨v2, ws2, rfl, h4, h5, h6⟩ := h3.cons
    rw [if_neg (by omega), if_neg (by omega), if_neg (by omega), if_neg (by omega), if_neg (by omega)]
    exact ⟨⟨(zjo_rng (by omega) (by omega) h4 h1).1, fun _ => (zjo_rng (by omega) (by omega) h4 h1).2 (by omega)⟩, h6⟩
  · obtain ⟨v, ws, rfl, h1, h2, h3⟩ := h.cons
    obtain ⟨v2, ws2, rfl, h4, h5, h6⟩ := h3.cons
    rw [if_neg (by omega), if_neg (by omega), if_neg (by omega), if_neg (by omega), if_neg (by omega)]
    exact ⟨⟨(zjo_rng (by omega) (by omega) h4 h1).1, fun _ => (zjo_rng (by omega) (by omega) h4 h1).2 (by omega)⟩, h6⟩
def zcks (r : Int) (so va : Nat → Int) : Nat → Nat → List Bool → Option (List Bool)
  | _, 0, st => some st
  | k, n + 1, st => match ztc r (so k) (va k) st with
    | none => none
    | some st' => zcks r so va (k + 1) n st'
def zev (q : Nat → Int) (so va : Nat → Int) : Nat → Nat → List Int → List Int
  | _, 0, st => st
  | k, n + 1, st => zev q so va (k + 1) n (zst q (so k) (va k) st)
theorem zcks_succ {r : Int} {so va : Nat → Int} {k n : Nat} {ts tf : List Bool} (h : zcks r so va k (n + 1) ts = some tf) : ∃ ts', ztc r (so k) (va k) ts = some ts' ∧ zcks r so va (k + 1) n ts' = some tf := by
  unfold zcks at h
  split at h
  · cases h
  · next t e => exact ⟨t, e, h⟩
theorem zev_ok {r : Int} {so va q : Nat → Int} (hq : ∀ j : Nat, j < 6 → (j < 3 ∨ (j : Int) = r + 3) → -1000000 ≤ q j ∧ q j ≤ 1000000) : ∀ (n k : Nat) {ts tf : List Bool} {vs : List Int}, VT ts vs → zcks r so va k n ts = some tf → VT tf (zev q so va k n vs)
  | 0, k, ts, tf, vs, h, hc => by
    unfold zcks at hc
    cases hc
    exact h
  | n + 1, k, ts, tf, vs, h, hc => by
    obtain ⟨t, h1, h2⟩ := zcks_succ hc
    exact zev_ok hq n (k + 1) (h.step h1 hq) h2
/-- only the qualities that the rule may ask matter -/
theorem zst_same {r so va : Int} {ts ts' : List Bool} {vs : List Int} {q q' : Nat → Int} (hc : ztc r so va ts = some ts') (hq : ∀ j : Nat, j < 6 → (j < 3 ∨ (j : Int) = r + 3) → q j = q' j) : zst q so va vs = zst q' so va vs := by
  unfold zst
  rcases zck_cases hc with ⟨e, h1, h2, h3, rfl⟩ | ⟨e1, e2, h1, h3, rfl⟩ | ⟨e, h3, rfl⟩ | ⟨e, s, rfl, rfl⟩ | ⟨e, s, rfl, rfl⟩ | ⟨e1, e2, s, rfl, rfl⟩ | ⟨e1, e2, s, rfl, rfl⟩ | ⟨e, s, rfl, rfl⟩
  · rw [if_pos e, if_pos e]
  · rw [hq (so - 1).toNat (by omega) (by omega)]
  all_goals
    have h0 : ¬ so = 0 := by omega
    have h6 : ¬ so ≤ 6 := by omega
    simp only [if_neg h0, if_neg h6]
theorem zev_same {r : Int} {so va q q' : Nat → Int} (hq : ∀ j : Nat, j < 6 → (j < 3 ∨ (j : Int) = r + 3) → q j = q' j) : ∀ (n k : Nat) {ts tf : List Bool} {vs : List Int}, zcks r so va k n ts = some tf → zev q so va k n vs = zev q' so va k n vs
  | 0, k, ts, tf, vs, hc => rfl
  | n + 1, k, ts, tf, vs, hc => by
    obtain ⟨t, h1, h2⟩ := zcks_succ hc
    unfold zev
    rw [zst_same h1 hq]
    exact zev_same hq n (k + 1) h2
/-- rule r of a good plan -/
def ROK (pl : zF) (r : Nat) : Prop := (pl 11 r = -1 ∧ pl 12 r = -1) ∨ (0 ≤ pl 11 r ∧ pl 11 r < pl 12 r ∧ pl 12 r ≤ 1600 ∧ (∀ k : Nat, pl 11 r ≤ (k : Int) → (k : Int) < pl 12 r → pl 10 k = zcm (pl 13 k) (pl 14 k)) ∧ zcks (r : Int) (pl 13) (pl 14) (pl 11 r).toNat (pl 12 r - pl 11 r).toNat [] = some [decide (r = 1)])
def zres (pl : zF) (r : Nat) (q : Nat → Int) : Int := (zev q (pl 13) (pl 14) (pl 11 r).toNat (pl 12 r - pl 11 r).toNat []).headD 0
theorem zres_rng {pl : zF} {r : Nat} {q : Nat → Int} (h : ROK pl r) (hr : pl 11 r ≠ -1) (hq : ∀ j : Nat, j < 6 → (j < 3 ∨ j = r + 3) → -1000000 ≤ q j ∧ q j ≤ 1000000) : (-1000000 ≤ zres pl r q ∧ zres pl r q ≤ 1000000) ∧ (r = 1 → zres pl r q = 0 ∨ zres pl r q = 1) := by
  rcases h with h | h
  · exact absurd h.1 hr
  · have h1 := zev_ok (q := q) (fun j h1 h2 => hq j h1 (by omega)) _ _ (vs := []) (ts := []) trivial h.2.2.2.2
    obtain ⟨v, ws, e, h2, h3, h4⟩ := h1.cons
    unfold zres
    rw [e]
    exact ⟨h2, fun q => h3 (by rw [q]; rfl)⟩
theorem zres_same {pl : zF} {r : Nat} {q q' : Nat → Int} (h : ROK pl r) (hr : pl 11 r ≠ -1) (hq : ∀ j : Nat, j < 6 → (j < 3 ∨ j = r + 3) → q j = q' j) : zres pl r q = zres pl r q' := by
  rcases h with h | h
  · exact absurd h.1 hr
  · unfold zres
    rw [zev_same (q' := q') (fun j h1 h2 => hq j h1 (by omega)) _ _ h.2.2.2.2]
/-! the program -/
def SK (f : Nat → Int) : List Int → Prop
  | [] => True
  | v :: vs => f vs.length = v ∧ SK f vs
theorem SK.same {f g : Nat → Int} : ∀ {vs : List Int}, SK f vs → (∀ j, j < vs.length → g j = f j) → SK g vs
  | [], _, _ => trivial
  | v :: vs, h, e => ⟨(e vs.length (by simp)).trans h.1, SK.same h.2 (fun j hj => e j (by simp; omega))⟩
section RUL
variable {X : zX} {u : Nat} {rf : zF}
def SM (mem : zF) (u : Nat) (vs : List Int) : Prop := mem u 6 = vs.length ∧ SK (mem (u + 5)) vs
theorem u_push {d : Nat} {Q : zF → Prop} {mem : zF} {vs : List Int} {x : Int} (hR : zall rf zRK = true) (hu : zRul rf u) (h : SM mem u vs) (hl : vs.length < 64) (k : ∀ mem', SM mem' u (x :: vs) → (∀ i, i ≠ u → i ≠ u + 5 → mem' i = mem i) → Q mem') : Cv X d 82 [(2, u), (0, x)] rf mem Q := by
  have h0 := h.1
  refine s_rules_push hR hu ⟨by omega, fun q => absurd q (by omega), fun q => ⟨by omega, fun q => absurd q (by omega), fun q => ⟨by omega, ?_⟩⟩⟩
  refine k _ ⟨?_, ?_, ?_⟩ (fun i h1 h2 => by rw [zup_row _ _ _ h1, zup_row _ _ _ h2])
  · rw [zup_at, zup_row _ _ _ (by omega), h0]
    simp
  · rw [zup_row _ _ _ (by omega), zup_get, if_pos ⟨rfl, by omega⟩]
  · rw [zup_row _ _ _ (by omega)]
    exact h.2.same (fun j hj => zup_ne _ _ _ _ (by omega))
theorem u_pop {d : Nat} {Q : Int → zF → Prop} {mem : zF} {vs : List Int} {v : Int} (hR : zall rf zRK = true) (hu : zRul rf u) (h : SM mem u (v :: vs)) (hl : vs.length < 64) (k : ∀ mem', SM mem' u vs → (∀ i, i ≠ u → i ≠ u + 5 → mem' i = mem i) → Q v mem') : Ci X d 83 [(2, u)] rf mem Q := by
  have h0 := h.1
  have e : ((v :: vs).length : Int) = vs.length + 1 := by simp
  rw [e] at h0
  refine s_rules_pop hR hu ⟨by omega, fun q => absurd q (by omega), fun q => ⟨by omega, fun q => ?_, fun q => absurd q (by omega)⟩⟩
  rw [zup_at, zup_row _ _ _ (by omega)]
  refine ⟨by omega, ?_⟩
  have e2 : (mem u 6 - 1).toNat = vs.length := by omega
  rw [e2, h.2.1]
  refine k _ ⟨?_, ?_⟩ (fun i h1 h2 => by rw [zup_row _ _ _ h1])
  · rw [zup_at]
    omega
  · rw [zup_row _ _ _ (by omega)]
    exact h.2.2
theorem u_rcut {d : Nat} {Q : Int → zF → Prop} {mem : zF} {x : Int} (hR : zall rf zRK = true) (hx : inL x) (k : Q (zlim x) mem) : Ci X d 81 [(1, x)] rf mem Q := by
  unfold zlim at k
  refine s_rules_cut hR ⟨⟨hx, by decide⟩, zcmpi _ _, fun q => ⟨⟨hx, by decide⟩, zcmpi _ _, fun q2 => ?_, fun q2 => ?_⟩, fun q => ?_⟩
  · rw [zcmpl] at q
    rw [zcmpg] at q2
    have e : max (-1000000) (min 1000000 x) = x := by omega
    rwa [e] at k
  · rw [zcmpg] at q2
    have e : max (-1000000) (min 1000000 x) = -1000000 := by omega
    rwa [e] at k
  · rw [zcmpl] at q
    have e : max (-1000000) (min 1000000 x) = 1000000 := by omega
    rwa [e] at k
theorem t_within {d : Nat} {Q : Int → zF → Prop} {mem : zF} {x : Int} (hR : zall rf zRK = true) (hx : inL x) (k : Q (zlim x) mem) : Cl X d 247 [(1, x)] rf mem Q := by
  unfold zlim at k
  refine s_m_within hR ⟨⟨hx, by decide⟩, zcmpi _ _, fun q => ⟨⟨hx, by decide⟩, zcmpi _ _, fun q2 => ?_, fun q2 => ?_⟩, fun q => ?_⟩
  · rw [zcmpl] at q
    rw [zcmpg] at q2
    have e : max (-1000000) (min 1000000 x) = x := by omega
    rwa [e] at k
  · rw [zcmpg] at q2
    have e : max (-1000000) (min 1000000 x) = -1000000 := by omega
    rwa [e] at k
  · rw [zcmpl] at q
    have e : max (-1000000) (min 1000000 x) = 1000000 := by omega
    rwa [e] at k
theorem mul_rng {l r : Int} (hl : -1000000 ≤ l ∧ l ≤ 1000000) (hr : -1000000 ≤ r ∧ r ≤ 1000000) : -1000000000000 ≤ l * r ∧ l * r ≤ 1000000000000 := by
  have h1 : (l * r).natAbs ≤ 1000000 * 1000000 := by
    rw [Int.natAbs_mul]
    exact Nat.mul_le_mul (by omega) (by omega)
  omega
theorem u_floorDiv {d : Nat} {Q : Int → zF → Prop} {mem : zF} {l r : Int} (hR : zall rf zRK = true) (hl : -1000000 ≤ l ∧ l ≤ 1000000) (hr : -1000000 ≤ r ∧ r ≤ 1000000) (h0 : r ≠ 0) (k : Q (zfd l r) mem) : Ci X d 318 [(0, l), (0, r)] rf mem Q := by
  have h1 := Int.tdiv_mul_add_tmod l r
  have h2 := tmod_rng l h0
  have h3 := zxor_sgn (x := l) (y := r) (by omega) (by omega)
  unfold zfd at k
  refine s_j_floorDiv hR ⟨⟨by omega, by omega, h0⟩, zxor_inI _ _, fun q => ?_, fun q => ⟨⟨?_, by omega⟩, fun q2 => ?_, fun q2 => ?_⟩⟩
  · rwa [if_neg (by omega)] at k
  · omega
  · rwa [if_neg (by omega)] at k
  · rwa [if_pos (by omega)] at k
theorem u_floorMod {d : Nat} {Q : Int → zF → Prop} {mem : zF} {l r : Int} (hR : zall rf zRK = true) (hl : -1000000 ≤ l ∧ l ≤ 1000000) (hr : -1000000 ≤ r ∧ r ≤ 1000000) (h0 : r ≠ 0) (k : Q (l - r * zfd l r) mem) : Ci X d 319 [(0, l), (0, r)] rf mem Q := by
  have h2 := tmod_rng l h0
  have h3 := zxor_sgn (x := l) (y := r) (by omega) (by omega)
  rw [(zfd_mod h0 hr).2] at k
  refine s_j_floorMod hR ⟨⟨by omega, by omega, h0⟩, zxor_inI _ _, fun q => ?_, fun q => ⟨by omega, fun q2 => ?_, fun q2 => ?_⟩⟩
  · rwa [if_neg (by omega)] at k
  · rwa [if_neg (by omega)] at k
  · rwa [if_pos (by omega)] at k
theorem u_joined {D : Nat} {Q : Int → zF → Prop} {mem : zF} {so l r : Int} (hR : zall rf zRK = true) (hD : 1 ≤ D) (hl : -1000000 ≤ l ∧ l ≤ 1000000) (hr : -1000000 ≤ r ∧ r ≤ 1000000) (h1 : 31 ≤ so) (h2 : so ≤ 42) (hb : 41 ≤ so → (l = 0 ∨ l = 1) ∧ (r = 0 ∨ r = 1)) (k : Q (zjo so l r) mem) : Ci X D 80 [(0, 24 - so), (0, l), (0, r)] rf mem Q := by
  obtain ⟨d, rfl⟩ : ∃ d, D = d + 1 := ⟨D - 1, by omega⟩
  have hm := mul_rng hl hr
  unfold zjo at k
  refine s_rules_joined hR ⟨by omega, ?_⟩
  refine ⟨fun q => ?_, fun q => ?_, fun q => ?_, fun q => ?_, fun q => ?_, fun q => ?_, fun q => ?_, fun q => ?_, fun q => ?_, fun q => ?_, fun q => ?_, fun q => ?_, fun q => ?_⟩
  · rw [if_neg (by omega), if_neg (by omega), if_neg (by omega), if_neg (by omega), if_neg (by omega), if_neg (by omega), if_neg (by omega), if_neg (by omega), if_neg (by omega), if_neg (by omega), if_neg (by omega)] at k
    have hb := hb (by omega)
    rcases hb with ⟨rfl | rfl, rfl | rfl⟩ <;> exact k
  · rw [if_neg (by omega), if_neg (by omega), if_neg (by omega), if_neg (by omega), if_neg (by omega), if_neg (by omega), if_neg (by omega), if_neg (by omega), if_neg (by omega), if_neg (by omega), if_pos (by omega)] at k
    have hb := hb (by omega)
    rcases hb with ⟨rfl | rfl, rfl | rfl⟩ <;> exact k
  · rw [if_neg (by omega), if_neg (by omega), if_neg (by omega), if_neg (by omega), if_neg (by omega), if_neg (by omega), if_neg (by omega), if_neg (by omega), if_neg (by omega), if_pos (by omega)] at k
    exact ⟨by omega, fun q => by rwa [if_neg q] at k, fun q => by rwa [if_pos q] at k⟩
  · rw [if_neg (by omega), if_neg (by omega), if_neg (by omega), if_neg (by omega), if_neg (by omega), if_neg (by omega), if_neg (by omega), if_neg (by omega), if_pos (by omega)] at k
    exact ⟨by omega, fun q => by rwa [if_neg (by omega)] at k, fun q => by rwa [if_pos (by omega)] at k⟩
  · rw [if_neg (by omega), if_neg (by omega), if_neg (by omega), if_neg (by omega), if_neg (by omega), if_neg (by omega), if_neg (by omega), if_pos (by omega)] at k
    exact ⟨by omega, fun q => by rwa [if_neg (by omega)] at k, fun q => by rwa [if_pos (by omega)] at k⟩
  · rw [if_neg (by omega), if_neg (by omega), if_neg (by omega), if_neg (by omega), if_neg (by omega), if_neg (by omega), if_pos (by omega)] at k
    exact u_max hR (by omega) (by omega) k
  · rw [if_neg (by omega), if_neg (by omega), if_neg (by omega), if_neg (by omega), if_neg (by omega), if_pos (by omega)] at k
    exact u_min hR (by omega) (by omega) k
  · rw [if_neg (by omega), if_neg (by omega), if_neg (by omega), if_neg (by omega), if_pos (by omega)] at k
    exact ⟨by omega, fun q => by rw [if_neg q] at k; exact u_floorMod hR hl hr q k, fun q => by rwa [if_pos q] at k⟩
  · rw [if_neg (by omega), if_neg (by omega), if_neg (by omega), if_pos (by omega)] at k
    refine ⟨by omega, fun q => ?_, fun q => by rwa [if_pos q] at k⟩
    rw [if_neg q] at k
    have h3 := tdiv_rng r hl
    have h4 : inI (zfd l r) := by
      unfold zfd
      split <;> omega
    exact u_floorDiv hR hl hr q ⟨h4, u_rcut hR (by omega) k⟩
  · rw [if_neg (by omega), if_neg (by omega), if_pos (by omega)] at k
    exact ⟨by omega, by omega, u_rcut hR (by omega) k⟩
  · rw [if_neg (by omega), if_pos (by omega)] at k
    exact ⟨by omega, by omega, u_rcut hR (by omega) k⟩
  · rw [if_pos (by omega)] at k
    exact ⟨by omega, by omega, u_rcut hR (by omega) k⟩
  · omega
end RUL
