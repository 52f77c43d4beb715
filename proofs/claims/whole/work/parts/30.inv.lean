/-! THE SAME MACHINE WITHOUT THE LOOK AT ALL REFERENCES when a cell is made: they are good anyway -/
def zvo (n : Nat) (v : zV) : Bool := !(v.1 == 2) || decide (v.2 < n)
theorem zvok_c {n : Nat} {v : zV} {r : List zV} (h1 : zvo n v = true) (h2 : zvok n r = true) : zvok n (v :: r) = true := by
  unfold zvok at h2 ⊢
  rw [List.all_cons, Bool.and_eq_true]
  exact ⟨h1, h2⟩
theorem zvok_t {n : Nat} {v : zV} {r : List zV} (h : zvok n (v :: r) = true) : zvo n v = true ∧ zvok n r = true := by
  unfold zvok at h ⊢
  rw [List.all_cons, Bool.and_eq_true] at h
  exact h
theorem zvok_get {n : Nat} {ls : List zV} (h : zvok n ls = true) (k : Nat) : zvo n (ls.getD k (9, 0)) = true := by
  rw [List.getD_eq_getElem?_getD]
  cases hk : ls[k]? with
  | none => rfl
  | some v => exact List.all_eq_true.mp h v (List.mem_of_getElem? hk)
theorem zvok_set {n : Nat} {ls : List zV} (h : zvok n ls = true) {k : Nat} {v : zV} (hv : zvo n v = true) : zvok n (ls.set k v) = true := by
  refine List.all_eq_true.mpr fun w hw => ?_
  rcases List.mem_or_eq_of_mem_set hw with q | q
  · exact List.all_eq_true.mp h w q
  · rw [q]; exact hv
theorem zvok_st1 {n : Nat} {ls : List zV} (h : zvok n ls = true) {k : Nat} {v : zV} (hv : zvo n v = true) : zvok n (zst1 ls k v) = true := by
  unfold zst1
  split
  · exact zvok_set (zvok_set h rfl) hv
  · exact zvok_set h hv
theorem zvok_st2 {n : Nat} {ls : List zV} (h : zvok n ls = true) {k : Nat} {v : zV} (hv : zvo n v = true) : zvok n (zst2 ls k v) = true := zvok_set (zvok_st1 h hv) rfl
theorem zvok_up {n m : Nat} {l : List zV} (h : zvok n l = true) (hm : n ≤ m) : zvok m l = true := by
  refine List.all_eq_true.mpr fun v hv => ?_
  have := List.all_eq_true.mp h v hv
  simp only [Bool.or_eq_true, decide_eq_true_eq] at this ⊢
  rcases this with q | q
  · exact Or.inl q
  · exact Or.inr (by omega)
theorem zrok_iff {n : Nat} {ty : List zT} {w : Nat → Nat} {rf : zF} : zrok n ty w rf = true ↔ ∀ a t, ty[a]? = some t → ∀ k, (t.1 = 0 ∧ k < w t.2) ∨ (t.1 = 5 ∧ k < t.2) → rf a k < n := by
  unfold zrok
  rw [List.all_eq_true]
  constructor
  · intro h a t ht k hk
    have h1 := h a (List.mem_range.mpr (List.getElem?_eq_some_iff.mp ht).1)
    rw [ht] at h1
    dsimp only at h1
    rcases hk with ⟨q1, q2⟩ | ⟨q1, q2⟩
    · rw [if_pos (Or.inl q1), if_pos q1] at h1
      exact of_decide_eq_true (List.all_eq_true.mp h1 k (List.mem_range.mpr q2))
    · rw [if_pos (Or.inr q1), if_neg (by omega)] at h1
      exact of_decide_eq_true (List.all_eq_true.mp h1 k (List.mem_range.mpr q2))
  · intro h a ha
    cases ht : ty[a]? with
    | none => rfl
    | some t =>
      dsimp only
      split
      · next g =>
        refine List.all_eq_true.mpr fun k hk => decide_eq_true (h a t ht k ?_)
        have hk := List.mem_range.mp hk
        rcases g with g | g
        · rw [if_pos g] at hk; exact Or.inl ⟨g, hk⟩
        · rw [if_neg (by omega)] at hk; exact Or.inr ⟨g, hk⟩
      · rfl
theorem zrok_up {n : Nat} {ty : List zT} {w : Nat → Nat} {rf : zF} {q b : Nat} {v : Int} (h : zrok n ty w rf = true) (hv : v < n) : zrok n ty w (zup rf q b v) = true := by
  rw [zrok_iff] at h ⊢
  intro a t ht k hk
  unfold zup
  split
  · split
    · exact hv
    · exact h a t ht k hk
  · exact h a t ht k hk
theorem zrok_push {ty : List zT} {w : Nat → Nat} {rf : zF} {t : zT} (h : zrok ty.length ty w rf = true) : zrok (ty ++ [t]).length (ty ++ [t]) w (zclr rf ty.length (-1)) = true := by
  rw [zrok_iff] at h ⊢
  intro a u hu k hk
  rw [List.length_append, List.length_singleton]
  unfold zclr
  split
  · omega
  · next hne =>
    have hl : a < ty.length := by
      have := (List.getElem?_eq_some_iff.mp hu).1
      rw [List.length_append, List.length_singleton] at this
      omega
    rw [List.getElem?_append_left hl] at hu
    have := h a u hu k hk
    omega
def zInv (nF : Nat → Nat) (ls st : List zV) (S : zS) : Prop := zvok S.1.length ls = true ∧ zvok S.1.length st = true ∧ zrok S.1.length S.1 nF S.2.1 = true
def zstep2 (nF : Nat → Nat) (X : zX) (i : Instr) (pc len a b c : Nat) (ls st : List zV) (S : zS) : Option (Nat × List zV × List zV × zS) := match i with
  | .newarray ty => zI st (fun x r => if 0 ≤ x ∧ x < 100000 then znew ls r (pc + 2) (a, x.toNat) (match ty with | .int => a == 1 | .long => a == 2 | .byte => a == 3 | .boolean => a == 4 | _ => false) S else none)
  | .anewarray _ => zI st (fun x r => if 0 ≤ x ∧ x < 100000 then znew ls r (pc + 3) (5, x.toNat) true S else none)
  | .new _ => znew ls st (pc + 3) (0, a) true S
  | i => zstep nF X i pc len a b c ls st S
theorem zstep2_eq {nF : Nat → Nat} {X : zX} {i : Instr} {pc len a b c : Nat} {ls st : List zV} {S : zS} (h : zInv nF ls st S) : zstep2 nF X i pc len a b c ls st S = zstep nF X i pc len a b c ls st S := by
  obtain ⟨h1, h2, h3⟩ := h
  unfold zstep2
  cases i <;> dsimp only
  case new idx =>
    unfold zstep
    rw [h1, h2, h3]
    rfl
  case anewarray idx =>
    unfold zstep
    dsimp only
    unfold zI
    cases st with
    | nil => rfl
    | cons v r =>
      dsimp only
      rw [h1, (zvok_t h2).2, h3]
      rfl
  case newarray ty =>
    unfold zstep
    dsimp only
    unfold zI
    cases st with
    | nil => rfl
    | cons v r =>
      dsimp only
      rw [h1, (zvok_t h2).2, h3]
      simp only [Bool.and_true]
      cases ty <;> rfl
set_option maxHeartbeats 4000000 in
theorem zstep_inv {X : zX} {i : Instr} {own nm : String} {pc len a b c pc' : Nat} {ls st ls' st' : List zV} {S S' : zS} (hE : zEOK zcl zTs own nm pc i len a b c) (h : zstep (znF zcl) X i pc len a b c ls st S = some (pc', ls', st', S')) (hI : zInv (znF zcl) ls st S) : zInv (znF zcl) ls' st' S' := by
  obtain ⟨hl, hs, hr⟩ := hI
  have n0 : ∀ {n : Nat} (x : Int), zvo n (0, x) = true := fun _ => rfl
  have n1 : ∀ {n : Nat} (x : Int), zvo n (1, x) = true := fun _ => rfl
  have n3 : ∀ {n : Nat} (x : Int), zvo n (3, x) = true := fun _ => rfl
  have n2 : ∀ {n : Nat} (x : Int), x < n → zvo n (2, x) = true := fun x hx => by unfold zvo; simp [hx]
  have t1 : ∀ {n : Nat} {v : zV} {r : List zV}, zvok n (v :: r) = true → zvok n r = true := fun h => (zvok_t h).2
  have t2 : ∀ {n : Nat} {v w : zV} {r : List zV}, zvok n (v :: w :: r) = true → zvok n r = true := fun h => t1 (t1 h)
  have t3 : ∀ {n : Nat} {v w u : zV} {r : List zV}, zvok n (v :: w :: u :: r) = true → zvok n r = true := fun h => t1 (t2 h)
  have t5 : ∀ {n : Nat} {v w u y z : zV} {r : List zV}, zvok n (v :: w :: u :: y :: z :: r) = true → zvok n r = true := fun h => t2 (t3 h)
  have tv : ∀ {n q : Nat} {r : List zV}, zvok n ((2, (q : Int)) :: r) = true → (q : Int) < n := fun h => by
    have := (zvok_t h).1
    unfold zvo at this
    simpa using this
  unfold zEOK at hE
  unfold zstep at h
  cases i
  case getfield idx =>
    dsimp only at h hE
    have hz := zR_ok h
    clear h
    rcases hz with ⟨q, r, rfl, h⟩ | ⟨q, r, rfl, h⟩
    · split at h
      · next t ht =>
        split at h
        · next g =>
          obtain ⟨rfl, g2⟩ := g
          cases h
          refine ⟨hl, zvok_c ?_ (t1 hs), hr⟩
          split
          · exact n1 _
          · split
            · next g3 =>
              obtain ⟨cq, k1, k2, -⟩ := hE.2.2.2 g2
              exact n2 _ (zrok_iff.mp hr q _ ht b (Or.inl ⟨rfl, by rw [znF_of k1]; exact k2⟩))
            · exact n0 _
        · cases h
      · cases h
    · split at h
      · split at h
        · cases h; exact ⟨hl, zvok_c (n3 _) (t1 hs), hr⟩
        · split at h
          · cases h; exact ⟨hl, zvok_c (n0 _) (t1 hs), hr⟩
          · cases h
      · cases h
  case aaload =>
    dsimp only at h
    have hz := zI_ok h
    clear h
    obtain ⟨i, r, rfl, h⟩ := hz
    have hz := zR_ok h
    clear h
    rcases hz with ⟨q, r, rfl, h⟩ | ⟨q, r, rfl, h⟩
    · split at h
      · next t ht =>
        split at h
        · next g =>
          cases h
          exact ⟨hl, zvok_c (n2 _ (zrok_iff.mp hr q _ ht _ (Or.inr ⟨g.1, by omega⟩))) (t2 hs), hr⟩
        · cases h
      · cases h
    · cases h
  case putfield idx =>
    dsimp only at h
    split at h
    · simp only [zI, zR, zno] at h
      repeat' (first | (cases h; done) | (cases h; exact ⟨hl, t2 hs, hr⟩) | split at h)
    · split at h
      · simp only [zI, zR, zno] at h
        repeat' (first | (cases h; done) | (cases h; exact ⟨hl, t2 hs, hr⟩) | split at h)
      · split at h
        · simp only [zL, zR, zno] at h
          repeat' (first | (cases h; done) | (cases h; exact ⟨hl, t2 hs, hr⟩) | split at h)
        · split at h
          · have hz := zR_ok h
            clear h
            rcases hz with ⟨v, r, rfl, h⟩ | ⟨v, r, rfl, h⟩
            · have hv := tv hs
              have hz := zR_ok h
              clear h
              rcases hz with ⟨q, r, rfl, h⟩ | ⟨q, r, rfl, h⟩
              · split at h
                · split at h
                  · cases h; exact ⟨hl, t2 hs, zrok_up hr hv⟩
                  · cases h
                · cases h
              · cases h
            · cases h
          · cases h
  case aastore =>
    dsimp only at h
    have hz := zR_ok h
    clear h
    rcases hz with ⟨v, r, rfl, h⟩ | ⟨v, r, rfl, h⟩
    · have hv := tv hs
      have hz := zI_ok h
      clear h
      obtain ⟨i, r, rfl, h⟩ := hz
      have hz := zR_ok h
      clear h
      rcases hz with ⟨q, r, rfl, h⟩ | ⟨q, r, rfl, h⟩
      · split at h
        · split at h
          · cases h; exact ⟨hl, t3 hs, zrok_up hr hv⟩
          · cases h
        · cases h
      · cases h
    · cases h
  case new idx =>
    dsimp only at h
    unfold znew at h
    split at h
    · cases h
      have hle : S.1.length ≤ (S.1 ++ [(0, a)]).length := by rw [List.length_append]; omega
      exact ⟨zvok_up hl hle, zvok_c (n2 _ (by rw [List.length_append, List.length_singleton]; omega)) (zvok_up hs hle), zrok_push hr⟩
    · cases h
  case newarray at1 =>
    dsimp only at h
    have hz := zI_ok h
    clear h
    obtain ⟨x, r, rfl, h⟩ := hz
    split at h
    · unfold znew at h
      have hle : S.1.length ≤ (S.1 ++ [(a, x.toNat)]).length := by rw [List.length_append]; omega
      cases at1 <;> dsimp only at h
      all_goals (split at h)
      all_goals (first | (cases h; done) | (cases h; exact ⟨zvok_up hl hle, zvok_c (n2 _ (by rw [List.length_append, List.length_singleton]; omega)) (zvok_up (t1 hs) hle), zrok_push hr⟩))
    · cases h
  case anewarray idx =>
    dsimp only at h
    have hz := zI_ok h
    clear h
    obtain ⟨x, r, rfl, h⟩ := hz
    split at h
    · unfold znew at h
      split at h
      · cases h
        have hle : S.1.length ≤ (S.1 ++ [(5, x.toNat)]).length := by rw [List.length_append]; omega
        exact ⟨zvok_up hl hle, zvok_c (n2 _ (by rw [List.length_append, List.length_singleton]; omega)) (zvok_up (t1 hs) hle), zrok_push hr⟩
      · cases h
    · cases h
  case astore k =>
    dsimp only at h
    split at h
    · have hz := zR_ok h
      clear h
      rcases hz with ⟨v, r, rfl, h⟩ | ⟨v, r, rfl, h⟩
      · cases h; exact ⟨zvok_st1 hl (n2 _ (tv hs)), t1 hs, hr⟩
      · cases h
    · cases h
  case astore_n k =>
    dsimp only at h
    split at h
    · have hz := zR_ok h
      clear h
      rcases hz with ⟨v, r, rfl, h⟩ | ⟨v, r, rfl, h⟩
      · cases h; exact ⟨zvok_st1 hl (n2 _ (tv hs)), t1 hs, hr⟩
      · cases h
    · cases h
  all_goals (dsimp only at h; try simp only [zI, zL, zR, zII, zLL, zlod, zsto, znew, zno] at h)
  all_goals (repeat' (first | (cases h; done) | (cases h; exact ⟨hl, hs, hr⟩) | (cases h; exact ⟨hl, t1 hs, hr⟩) | (cases h; exact ⟨hl, t2 hs, hr⟩) | (cases h; exact ⟨hl, t3 hs, hr⟩) | (cases h; exact ⟨hl, t5 hs, hr⟩) | (cases h; exact ⟨hl, zvok_c (n0 _) hs, hr⟩) | (cases h; exact ⟨hl, zvok_c (n1 _) hs, hr⟩) | (cases h; exact ⟨hl, zvok_c (n3 _) hs, hr⟩) | (cases h; exact ⟨hl, zvok_c (n0 _) (t1 hs), hr⟩) | (cases h; exact ⟨hl, zvok_c (n1 _) (t1 hs), hr⟩) | (cases h; exact ⟨hl, zvok_c (n3 _) (t1 hs), hr⟩) | (cases h; exact ⟨hl, zvok_c (n0 _) (t2 hs), hr⟩) | (cases h; exact ⟨hl, zvok_c (n1 _) (t2 hs), hr⟩) | (cases h; exact ⟨hl, zvok_c (zvok_get hl _) hs, hr⟩) | (cases h; exact ⟨zvok_st1 hl (n0 _), hs, hr⟩) | (cases h; exact ⟨zvok_st1 hl (n0 _), t1 hs, hr⟩) | (cases h; exact ⟨zvok_st2 hl (n1 _), t1 hs, hr⟩) | (cases h; exact ⟨hl, zvok_c (zvok_t hs).1 hs, hr⟩) | (cases h; exact ⟨hl, zvok_c (zvok_t hs).1 (zvok_c (zvok_t (t1 hs)).1 hs), hr⟩) | split at h))
