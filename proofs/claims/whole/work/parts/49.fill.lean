/-! Arrays.fill, and the draughts -/
section FILL
variable {X : zX} {d : Nat} {rf : zF} {Q : zF → Prop}
theorem w_alen1 {M pc pc' : Nat} {ls r : List zV} {mem : zF} {Q : Option zV → zS → Prop} {q n a b c : Nat} (hc : zcod M pc = some (.arraylength, 1, a, b, c)) (hn : c ≠ 101 ∧ c ≠ 102) (hp : pc + 1 = pc') (ht : zty[q]? = some (1, n)) (k : zW X d M pc' ls ((0, (n : Int)) :: r) (zty, rf, mem) Q) : zW X d M pc ls ((2, (q : Int)) :: r) (zty, rf, mem) Q := by
  subst hp
  refine zW.step _ _ _ _ hc hn.1 hn.2 ?_ k
  unfold zstep
  have h0 : (0 : Int) ≤ (q : Int) := by omega
  have h1 : ((q : Int)).toNat = q := by omega
  simp only [zR, true_and, h0, h1, ht, if_true]
  rfl
def L_fill_5 (X : zX) (d : Nat) (rf : zF) (Q : zF → Prop) (mem : zF) (q : Nat) (v i : Int) (n : Nat) : Prop := zW X d 328 5 [(2, (q : Int)), (0, v), (0, i), (0, (n : Int))] [] (zty, rf, mem) (qv rf Q)
theorem s_fill_5 {q n : Nat} (hq : zty[q]? = some (1, n)) (hn : n < 100000) {v : Int} : ∀ (m : Nat) {i : Int} {mem : zF}, 0 ≤ i → i + m = n → (∀ mem', (∀ a, a ≠ q → mem' a = mem a) → (∀ j : Nat, (j : Int) < i → mem' q j = mem q j) → (∀ j : Nat, i ≤ (j : Int) → j < n → mem' q j = v) → Q mem') → L_fill_5 X d rf Q mem q v i n
  | 0, i, mem, h0, h1, k => by
    refine zW.go 2 7 [(2, (q : Int)), (0, v), (0, i), (0, (n : Int))] [(0, (n : Int)), (0, i)] _ rfl ?_
    refine w_ic_ge rfl (by decide) (pc' := 10) rfl (by omega) (fun c1 => ?_) (fun c1 => absurd c1 (by omega))
    exact w_retv rfl rfl (k mem (fun _ _ => rfl) (fun _ _ => rfl) (fun j h2 h3 => by omega))
  | m + 1, i, mem, h0, h1, k => by
    refine zW.go 2 7 [(2, (q : Int)), (0, v), (0, i), (0, (n : Int))] [(0, (n : Int)), (0, i)] _ rfl ?_
    refine w_ic_ge rfl (by decide) (pc' := 10) rfl (by omega) (fun c1 => absurd c1 (by omega)) (fun c1 => ?_)
    refine zW.go 3 13 [(2, (q : Int)), (0, v), (0, i), (0, (n : Int))] [(0, v), (0, i), (2, (q : Int))] _ rfl ?_
    refine w_iast (q := q) rfl (by decide) (pc' := 14) rfl (by omega) hq (by omega) rfl ?_
    refine zW.go 2 5 [(2, (q : Int)), (0, v), (0, i + 1), (0, (n : Int))] [] _ rfl ?_
    refine s_fill_5 hq hn m (i := i + 1) (by omega) (by omega) ?_
    intro mem' k1 k2 k3
    refine k mem' (fun a ha => (k1 a ha).trans (zup_row _ _ _ ha)) (fun j hj => ?_) (fun j hj hj2 => ?_)
    · rw [k2 j (by omega), zup_ne _ _ _ _ (by omega)]
    · by_cases e : (j : Int) = i
      · rw [k2 j (by omega), zup_get, if_pos ⟨rfl, by omega⟩]
      · exact k3 j (by omega) hj2
theorem u_fill {q n : Nat} (hq : zty[q]? = some (1, n)) (hn : n < 100000) {v : Int} {mem : zF} (k : ∀ mem', (∀ a, a ≠ q → mem' a = mem a) → (∀ j : Nat, j < n → mem' q j = v) → Q mem') : Cv X d 328 [(2, (q : Int)), (0, v)] rf mem Q := by
  show zW X d 328 0 [(2, (q : Int)), (0, v), (9, 0), (9, 0)] [] (zty, rf, mem) (qv rf Q)
  refine zW.go 3 3 [(2, (q : Int)), (0, v), (0, 0), (9, 0)] [(2, (q : Int))] _ rfl ?_
  refine w_alen1 (q := q) rfl (by decide) (pc' := 4) rfl hq ?_
  refine zW.go 1 5 [(2, (q : Int)), (0, v), (0, 0), (0, (n : Int))] [] _ rfl ?_
  refine s_fill_5 hq hn n (i := 0) (by omega) (by omega) ?_
  intro mem' k1 k2 k3
  exact k mem' k1 (fun j hj => k3 j (by omega) hj)
end FILL
section PREP
variable {X : zX} {p w o : Nat} {rf pl : zF} {Q : zF → Prop}
/-- what the doors below k blow -/
def zpre (pl : zF) (op : Int) (n : Nat) : Int → Int := fun c => if aFd (fun k => zbit op k = 1 && zblown pl k c) 0 n = -1 then -1 else pl 4 (aFd (fun k => zbit op k = 1 && zblown pl k c) 0 n).toNat
theorem aFd_succ {P : Int → Bool} : ∀ (n : Nat) (b : Int), 0 ≤ b → aFd P b (n + 1) = if aFd P b n = -1 then (if P (b + n) = true then b + n else -1) else aFd P b n
  | 0, b, h => by
    unfold aFd aFd
    rw [if_pos rfl, Int.natCast_zero, Int.add_zero]
  | n + 1, b, h => by
    have ih := aFd_succ (P := P) n (b + 1) (by omega)
    have e1 : aFd P b (n + 1 + 1) = if P b = true then b else aFd P (b + 1) (n + 1) := rfl
    have e2 : aFd P b (n + 1) = if P b = true then b else aFd P (b + 1) n := rfl
    have e3 : b + 1 + (n : Int) = b + ((n + 1 : Nat) : Int) := by omega
    rw [e1, ih, e2, e3]
    by_cases h1 : P b = true
    · rw [if_pos h1, if_pos h1, if_neg (by omega)]
    · rw [if_neg h1, if_neg h1]
theorem u_prepare_10 (hR : zall rf zRK = true) (hw : zWrk rf w) (hp : zPln rf p) (ho : zScn rf o) (hWP : WP pl) (hd : p + 13 ≤ w ∨ w + 2 ≤ p) (hd2 : o ≠ w + 1) {d : Nat} (hD : 3 ≤ d) {op : Int} (hop : 0 ≤ op ∧ op < 64) : ∀ (n : Nat) {mem : zF} {m : Nat}, PC mem p pl → mem o 2 = op → WR mem w (zpre pl op m) → m + n = (pl 1 0).toNat → (∀ mem', (∀ i, i ≠ w + 1 → mem' i = mem i) → WR mem' w (zwind pl op) → Q mem') → L_works_prepare_10 X d rf Q mem w p o m
  | n, mem, m, hP, ho2, hr, hm, kk => by
    have hn := hWP.n
    refine s_works_prepare_10 hR hw hp ho ?_
    refine u_many hR hp hP (by decide) ?_
    refine ⟨⟨by omega, by show inI (pl 1 0); omega⟩, fun q => ?_, fun q => ?_⟩
    · have q : pl 1 0 ≤ (m : Int) := q
      have e : m = (pl 1 0).toNat := by omega
      refine kk mem (fun _ _ => rfl) ?_
      rw [e] at hr
      exact hr
    · have q : ¬ pl 1 0 ≤ (m : Int) := q
      obtain ⟨n1, rfl⟩ : ∃ n1, n = n1 + 1 := ⟨n - 1, by omega⟩
      rw [ho2]
      refine ⟨zbit_inI hop (by omega), fun q2 => ?_, fun q2 => ?_⟩
      · refine u_prepare_10 hR hw hp ho hWP hd hd2 hD hop n1 (m := m + 1) hP ho2 ?_ (by omega) kk
        intro c h1 h2
        rw [hr c h1 h2]
        have e : aFd (fun k => zbit op k = 1 && zblown pl k c) 0 (m + 1) = aFd (fun k => zbit op k = 1 && zblown pl k c) 0 m := by
          rw [aFd_succ m 0 (by omega)]
          split
          · next h =>
            rw [if_neg, h]
            simp only [Bool.and_eq_true, decide_eq_true_eq, not_and]
            intro h3
            rw [Int.zero_add] at h3
            exact absurd h3 q2
          · rfl
        unfold zpre
        rw [e]
      · refine u_blow hR hw hp hWP hd hD (by omega) hP hr ?_ ?_
        · intro c
          unfold zpre
          split
          · decide
          · next h =>
            rcases aFd_rng (P := fun k => zbit op k = 1 && zblown pl k c) m 0 with h1 | h1
            · exact absurd h1 h
            · have := (hWP.door h1.1 (by omega)).2.1
              omega
        · intro mem' h1 h2
          refine u_prepare_10 hR hw hp ho hWP hd hd2 hD hop n1 (m := m + 1) (hP.fr (fun s h3 h4 => h1 _ (by omega))) (by rw [h1 o hd2]; exact ho2) ?_ (by omega) ?_
          · intro c hc1 hc2
            rw [h2 c hc1 hc2]
            have e : aFd (fun k => zbit op k = 1 && zblown pl k c) 0 (m + 1) = if aFd (fun k => zbit op k = 1 && zblown pl k c) 0 m = -1 then (if zblown pl m c = true then (m : Int) else -1) else aFd (fun k => zbit op k = 1 && zblown pl k c) 0 m := by
              rw [aFd_succ m 0 (by omega)]
              simp only [Int.zero_add]
              have q3 : zbit op (m : Int) = 1 := q2
              simp only [q3, decide_true, Bool.true_and]
            unfold zpre
            rw [e]
            dsimp only
            by_cases h3 : aFd (fun k => zbit op k = 1 && zblown pl k c) 0 m = -1
            · rw [if_pos h3, if_pos h3]
              by_cases h4 : zblown pl m c = true
              · rw [if_pos ⟨rfl, h4⟩, if_pos h4, if_neg (by omega)]
              · rw [if_neg (fun q => h4 q.2), if_neg h4, if_pos rfl]
            · rw [if_neg h3, if_neg h3, if_neg h3, if_neg]
              rintro ⟨h5, _⟩
              rcases aFd_rng (P := fun k => zbit op k = 1 && zblown pl k c) m 0 with h6 | h6
              · exact h3 h6
              · have := (hWP.door h6.1 (by omega)).2.1
                omega
          · intro mem2 h3 h4
            exact kk mem2 (fun i hi => (h3 i hi).trans (h1 i hi)) h4
theorem u_prepare (hR : zall rf zRK = true) (hw : zWrk rf w) (hp : zPln rf p) (ho : zScn rf o) (hWP : WP pl) (hd : p + 13 ≤ w ∨ w + 2 ≤ p) (hd2 : o ≠ w + 1) {D : Nat} (hD : 4 ≤ D) {mem : zF} {op : Int} (hop : 0 ≤ op ∧ op < 64) (hP : PC mem p pl) (ho2 : mem o 2 = op) (kk : ∀ mem', (∀ i, i ≠ w + 1 → mem' i = mem i) → WR mem' w (zwind pl op) → Q mem') : Cv X D 141 [(2, w), (2, p), (2, o)] rf mem Q := by
  obtain ⟨d, rfl⟩ : ∃ d, D = d + 1 := ⟨D - 1, by omega⟩
  have hn := hWP.n
  refine s_works_prepare hR hw hp ho ?_
  refine u_fill (zWrk_t1 hw) (by decide) ?_
  intro mem1 h1 h2
  refine u_prepare_10 hR hw hp ho hWP hd hd2 (by omega) hop (pl 1 0).toNat (m := 0) (hP.fr (fun s h3 h4 => h1 _ (by omega))) (by rw [h1 o hd2]; exact ho2) ?_ (by omega) ?_
  · intro c hc1 hc2
    rw [h2 c.toNat (by omega)]
    rfl
  · intro mem2 h3 h4
    exact kk mem2 (fun i hi => (h3 i hi).trans (h1 i hi)) h4
end PREP
