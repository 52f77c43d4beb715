/-! WHERE THE SCRIPT IS NOT ASKED a run is the same for every script -/
def zn3 (v : zV) : Bool := !(v.1 == 3 && v.2 == 0)
def zno3 (l : List zV) : Bool := l.all zn3
theorem zno3_get {ls : List zV} (h : zno3 ls = true) (k : Nat) : zn3 (ls.getD k (9, 0)) = true := by
  rw [List.getD_eq_getElem?_getD]
  cases hk : ls[k]? with
  | none => rfl
  | some v => exact List.all_eq_true.mp h v (List.mem_of_getElem? hk)
theorem zno3_set {ls : List zV} (h : zno3 ls = true) {k : Nat} {v : zV} (hv : zn3 v = true) : zno3 (ls.set k v) = true := by
  refine List.all_eq_true.mpr fun w hw => ?_
  rcases List.mem_or_eq_of_mem_set hw with q | q
  · exact List.all_eq_true.mp h w q
  · rw [q]; exact hv
theorem zno3_st1 {ls : List zV} (h : zno3 ls = true) {k : Nat} {v : zV} (hv : zn3 v = true) : zno3 (zst1 ls k v) = true := by
  unfold zst1
  split
  · exact zno3_set (zno3_set h rfl) hv
  · exact zno3_set h hv
theorem zno3_st2 {ls : List zV} (h : zno3 ls = true) {k : Nat} {v : zV} (hv : zn3 v = true) : zno3 (zst2 ls k v) = true := zno3_set (zno3_st1 h hv) rfl
theorem zno3_cons {v : zV} {r : List zV} (h1 : zn3 v = true) (h2 : zno3 r = true) : zno3 (v :: r) = true := by
  unfold zno3 at h2 ⊢
  rw [List.all_cons, h1, h2]
  rfl
theorem zno3_tail {v : zV} {r : List zV} (h : zno3 (v :: r) = true) : zn3 v = true ∧ zno3 r = true := by
  unfold zno3 at h ⊢
  rw [List.all_cons, Bool.and_eq_true] at h
  exact h
theorem zlod_X {X Y : zX} {pc t1 t2 lg : Nat} {outs : Nat → Bool} {ls st : List zV} {S : zS} (h : zno3 st = true) : zlod X pc t1 t2 lg outs ls st S = zlod Y pc t1 t2 lg outs ls st S := by
  unfold zlod zI
  cases st with
  | nil => rfl
  | cons v r =>
    dsimp only
    split
    · unfold zR
      cases r with
      | nil => rfl
      | cons w r2 =>
        dsimp only
        split
        · rfl
        · split
          · next g =>
            have hw := (zno3_tail (zno3_tail h).2).1
            have h0 : w.2.toNat ≠ 0 := by
              intro q
              have : w.2 = 0 := by omega
              unfold zn3 at hw
              rw [g.1, this] at hw
              simp at hw
            have e1 : zol X w.2.toNat = zol Y w.2.toNat := by unfold zol; rw [if_neg h0, if_neg h0]
            have e2 : ∀ j, zom X w.2.toNat j = zom Y w.2.toNat j := by intro j; unfold zom; rw [if_neg h0, if_neg h0]
            rw [e1, e2]
          · rfl
    · rfl
theorem zstep_X {nF : Nat → Nat} {X Y : zX} {i : Instr} {pc len a b c : Nat} {ls st : List zV} {S : zS} (h : zno3 st = true) : zstep nF X i pc len a b c ls st S = zstep nF Y i pc len a b c ls st S := by
  unfold zstep
  cases i <;> dsimp only <;> first | rfl | (exact zlod_X h) | skip
  unfold zR
  cases st with
  | nil => rfl
  | cons w r2 =>
    dsimp only
    split
    · rfl
    · split
      · next g =>
        have hw := (zno3_tail h).1
        have h0 : w.2.toNat ≠ 0 := by
          intro q
          have : w.2 = 0 := by omega
          unfold zn3 at hw
          rw [g.1, this] at hw
          simp at hw
        have e1 : zol X w.2.toNat = zol Y w.2.toNat := by unfold zol; rw [if_neg h0, if_neg h0]
        rw [e1]
      · rfl
set_option maxHeartbeats 4000000 in
theorem zstep_no3 {nF : Nat → Nat} {X : zX} {i : Instr} {pc len a b c pc' : Nat} {ls st ls' st' : List zV} {S S' : zS} (hgs : ∀ idx, i = .getstatic idx → c = 2 → a ≠ 0) (h : zstep nF X i pc len a b c ls st S = some (pc', ls', st', S')) (hl : zno3 ls = true) (hs : zno3 st = true) : zno3 ls' = true ∧ zno3 st' = true := by
  have n0 : ∀ x : Int, zn3 (0, x) = true := fun _ => rfl
  have n1 : ∀ x : Int, zn3 (1, x) = true := fun _ => rfl
  have n2 : ∀ x : Int, zn3 (2, x) = true := fun _ => rfl
  have n4 : ∀ x : Nat, x ≠ 0 → zn3 (3, (x : Int)) = true := fun x hx => by
    unfold zn3
    simp
    exact hx
  have t1 : ∀ {v : zV} {r : List zV}, zno3 (v :: r) = true → zno3 r = true := fun h => (zno3_tail h).2
  have t2 : ∀ {v w : zV} {r : List zV}, zno3 (v :: w :: r) = true → zno3 r = true := fun h => t1 (t1 h)
  have t3 : ∀ {v w u : zV} {r : List zV}, zno3 (v :: w :: u :: r) = true → zno3 r = true := fun h => t1 (t2 h)
  have t5 : ∀ {v w u y z : zV} {r : List zV}, zno3 (v :: w :: u :: y :: z :: r) = true → zno3 r = true := fun h => t2 (t3 h)
  unfold zstep at h
  cases i <;> dsimp only at h <;> (try simp only [zI, zL, zR, zII, zLL, zlod, zsto, znew, zno] at h)
  case getstatic idx =>
    split at h
    · next g => cases h; exact ⟨hl, zno3_cons (n4 _ (hgs idx rfl g)) hs⟩
    · split at h
      · cases h; exact ⟨hl, zno3_cons (n0 _) hs⟩
      · cases h
  all_goals (repeat' (first | (cases h; done) | (cases h; exact ⟨hl, hs⟩) | (cases h; exact ⟨hl, t1 hs⟩) | (cases h; exact ⟨hl, t2 hs⟩) | (cases h; exact ⟨hl, t3 hs⟩) | (cases h; exact ⟨hl, t5 hs⟩) | (cases h; exact ⟨hl, zno3_cons (n0 _) hs⟩) | (cases h; exact ⟨hl, zno3_cons (n1 _) hs⟩) | (cases h; exact ⟨hl, zno3_cons (n2 _) hs⟩) | (cases h; exact ⟨hl, zno3_cons (n0 _) (t1 hs)⟩) | (cases h; exact ⟨hl, zno3_cons (n1 _) (t1 hs)⟩) | (cases h; exact ⟨hl, zno3_cons (n2 _) (t1 hs)⟩) | (cases h; exact ⟨hl, zno3_cons (n0 _) (t2 hs)⟩) | (cases h; exact ⟨hl, zno3_cons (n1 _) (t2 hs)⟩) | (cases h; exact ⟨hl, zno3_cons (n2 _) (t2 hs)⟩) | (cases h; exact ⟨hl, zno3_cons rfl hs⟩) | (cases h; exact ⟨hl, zno3_cons rfl (t1 hs)⟩) | (cases h; exact ⟨hl, zno3_cons (zno3_get hl _) hs⟩) | (cases h; exact ⟨zno3_st1 hl (n0 _), hs⟩) | (cases h; exact ⟨zno3_st1 hl (n0 _), t1 hs⟩) | (cases h; exact ⟨zno3_st1 hl (n2 _), t1 hs⟩) | (cases h; exact ⟨zno3_st2 hl (n1 _), t1 hs⟩) | (cases h; exact ⟨hl, zno3_cons (zno3_tail hs).1 hs⟩) | (cases h; exact ⟨hl, zno3_cons (zno3_tail hs).1 (zno3_cons (zno3_tail (t1 hs)).1 hs)⟩) | split at h))
