/-! the program's result, the reference's reckons -/
theorem zck_len {r so va : Int} {ts ts' : List Bool} (h : ztc r so va ts = some ts') (hl : ts.length ≤ 60) : ts'.length ≤ 60 := by
  rcases zck_cases h with ⟨e, b1, b2, b3, rfl⟩ | ⟨a1, a2, b1, b3, rfl⟩ | ⟨e, b3, rfl⟩ | ⟨e, s, rfl, rfl⟩ | ⟨e, s, rfl, rfl⟩ | ⟨a1, a2, s, rfl, rfl⟩ | ⟨a1, a2, s, rfl, rfl⟩ | ⟨e, s, rfl, rfl⟩ <;> simp only [List.length_cons] at * <;> omega
section RES
variable {X : zX} {u : Nat} {rf pl : zF}
theorem u_res_22 {d : Nat} {Q : Int → zF → Prop} (hR : zall rf zRK = true) (hu : zRul rf u) (hD : 1 ≤ d) {r : Nat} (hr : r < 3) {qr : Nat → Int} {tb : Bool} (hq : ∀ j : Nat, j < 6 → (j < 3 ∨ (j : Int) = (r : Int) + 3) → -1000000 ≤ qr j ∧ qr j ≤ 1000000) (hb : pl 12 r ≤ 1600) : ∀ (n : Nat) {k : Nat} {mem : zF} {ts : List Bool} {vs : List Int}, mem (u + 1) = pl 10 → mem (u + 3) = pl 12 → mem (u + 4) = qr → SM mem u vs → VT ts vs → ts.length ≤ 60 → zcks (r : Int) (pl 13) (pl 14) k n ts = some [tb] → (k : Int) + n = pl 12 r → (∀ j : Nat, k ≤ j → (j : Int) < pl 12 r → pl 10 j = zcm (pl 13 j) (pl 14 j)) → (∀ mem', (∀ i, i ≠ u → i ≠ u + 5 → mem' i = mem i) → Q ((zev qr (pl 13) (pl 14) k n vs).headD 0) mem') → L_rules_result_22 X d rf Q mem u r k
  | 0, k, mem, ts, vs, h1, h3, h4, hs, ht, hts, hc, hk, hco, kk => by
    refine s_rules_result_22 hR hu ⟨by omega, ?_⟩
    rw [h3, Int.toNat_natCast]
    refine ⟨by omega, fun q => ?_, fun q => absurd q (by omega)⟩
    unfold zcks at hc
    cases hc
    obtain ⟨v, ws, rfl, e1, e2, e3⟩ := ht.cons
    have e4 := e3.len
    cases ws with
    | cons _ _ => simp at e4
    | nil => exact u_pop hR hu hs (by decide) (fun mem' _ hf => kk mem' hf)
  | n + 1, k, mem, ts, vs, h1, h3, h4, hs, ht, hts, hc, hk, hco, kk => by
    refine s_rules_result_22 hR hu ⟨by omega, ?_⟩
    rw [h3, h1, h4, Int.toNat_natCast]
    refine ⟨by omega, fun q => absurd q (by omega), fun q => ⟨by omega, fun q => absurd q (by omega), fun q => ⟨by omega, ?_⟩⟩⟩
    rw [Int.toNat_natCast, hco k (by omega) (by omega)]
    obtain ⟨ts', hc1, hc2⟩ := zcks_succ hc
    have hl := ht.len
    have go : ∀ (mem' : zF) (vs' : List Int), SM mem' u vs' → (∀ i, i ≠ u → i ≠ u + 5 → mem' i = mem i) → vs' = zst qr (pl 13 k) (pl 14 k) vs → L_rules_result_22 X d rf Q mem' u r ((k : Int) + 1) := by
      intro mem' vs' g1 g2 g3
      have e : (k : Int) + 1 = ((k + 1 : Nat) : Int) := by omega
      rw [e]
      subst g3
      refine u_res_22 hR hu hD hr hq hb n (by rw [g2 _ (by omega) (by omega)]; exact h1) (by rw [g2 _ (by omega) (by omega)]; exact h3) (by rw [g2 _ (by omega) (by omega)]; exact h4) g1 (ht.step hc1 hq) (zck_len hc1 hts) hc2 (by omega) (fun j j1 j2 => hco j (by omega) j2) ?_
      intro mem2 f1
      exact kk mem2 (fun i i1 i2 => (f1 i i1 i2).trans (g2 i i1 i2))
    unfold zst at go
    rcases zck_cases hc1 with ⟨e, b1, b2, b3, rfl⟩ | ⟨a1, a2, b1, b3, rfl⟩ | ⟨e, b3, rfl⟩ | ⟨e, s, rfl, rfl⟩ | ⟨e, s, rfl, rfl⟩ | ⟨a1, a2, s, rfl, rfl⟩ | ⟨a1, a2, s, rfl, rfl⟩ | ⟨e, s, rfl, rfl⟩
    · have ez : zcm (pl 13 k) (pl 14 k) = pl 14 k := by unfold zcm; rw [if_pos e]
      rw [ez]
      refine ⟨by omega, fun q => absurd q (by omega), fun q => u_push hR hu hs (by omega) (fun mem' g1 g2 => go mem' _ g1 g2 ?_)⟩
      rw [if_pos e]
    · have ez : zcm (pl 13 k) (pl 14 k) = -(pl 13 k) := by unfold zcm; rw [if_neg (by omega), if_pos (by omega)]
      rw [ez]
      refine ⟨by omega, fun q => ⟨by omega, fun q => absurd q (by omega), fun q => ⟨by omega, u_push hR hu hs (by omega) (fun mem' g1 g2 => go mem' _ g1 g2 ?_)⟩⟩, fun q => absurd q (by omega)⟩
      rw [if_neg (by omega), if_pos (by omega)]
      congr 2
      omega
    · have ez : zcm (pl 13 k) (pl 14 k) = 1 := by unfold zcm; rw [if_neg (by omega), if_neg (by omega), if_pos e]
      rw [ez]
      refine ⟨by decide, fun q => absurd q (by decide), fun q => u_push hR hu hs (by omega) (fun mem' g1 g2 => go mem' _ g1 g2 ?_)⟩
      rw [if_neg (by omega), if_neg (by omega), if_pos e]
    · have ez : zcm (pl 13 k) (pl 14 k) = -19 := by unfold zcm; rw [if_neg (by omega), if_neg (by omega), if_neg (by omega)]; omega
      rw [ez]
      obtain ⟨v, ws, rfl, c1, c2, c3⟩ := ht.cons
      refine ⟨by decide, fun q => ⟨by decide, fun q => ⟨by decide, fun q => absurd rfl q, fun q => u_pop hR hu hs (by simp only [List.length_cons] at *; omega) (fun mem1 g1 g2 => u_push hR hu g1 (by simp only [List.length_cons] at *; omega) (fun mem2 g3 g4 => go mem2 _ g3 (fun i i1 i2 => (g4 i i1 i2).trans (g2 i i1 i2)) ?_))⟩, fun q => absurd q (by decide)⟩, fun q => absurd q (by decide)⟩
      rw [if_neg (by omega), if_neg (by omega), if_neg (by omega), if_pos e]
    · have ez : zcm (pl 13 k) (pl 14 k) = -20 := by unfold zcm; rw [if_neg (by omega), if_neg (by omega), if_neg (by omega)]; omega
      rw [ez]
      obtain ⟨v, ws, rfl, c1, c2, c3⟩ := ht.cons
      obtain ⟨v2, ws2, rfl, c4, c5, c6⟩ := c3.cons
      obtain ⟨v3, ws3, rfl, c7, c8, c9⟩ := c6.cons
      have h01 := c8 rfl
      refine ⟨by decide, fun q => ⟨by decide, fun q => ⟨by decide, fun q => ⟨by decide, fun q => absurd rfl q, fun q => u_pop hR hu hs (by simp only [List.length_cons] at *; omega) (fun mem1 g1 g2 => u_pop hR hu g1 (by simp only [List.length_cons] at *; omega) (fun mem2 g3 g4 => u_pop hR hu g3 (by simp only [List.length_cons] at *; omega) (fun mem3 g5 g6 => ⟨by omega, fun q => ?_, fun q => ?_⟩)))⟩, fun q => absurd q (by decide)⟩, fun q => absurd q (by decide)⟩, fun q => absurd q (by decide)⟩
      · refine u_push hR hu g5 (by simp only [List.length_cons] at *; omega) (fun mem4 g7 g8 => go mem4 _ g7 (fun i i1 i2 => (g8 i i1 i2).trans ((g6 i i1 i2).trans ((g4 i i1 i2).trans (g2 i i1 i2)))) ?_)
        rw [if_neg (by omega), if_neg (by omega), if_neg (by omega), if_neg (by omega), if_pos e]
        simp only
        rw [if_neg (by omega)]
      · refine u_push hR hu g5 (by simp only [List.length_cons] at *; omega) (fun mem4 g7 g8 => go mem4 _ g7 (fun i i1 i2 => (g8 i i1 i2).trans ((g6 i i1 i2).trans ((g4 i i1 i2).trans (g2 i i1 i2)))) ?_)
        rw [if_neg (by omega), if_neg (by omega), if_neg (by omega), if_neg (by omega), if_pos e]
        simp only
        rw [if_pos (by omega)]
    all_goals
      have ez : zcm (pl 13 k) (pl 14 k) = 24 - pl 13 k := by unfold zcm; rw [if_neg (by omega), if_neg (by omega), if_neg (by omega)]
      rw [ez]
      obtain ⟨v, ws, rfl, c1, c2, c3⟩ := ht.cons
      obtain ⟨v2, ws2, rfl, c4, c5, c6⟩ := c3.cons
      refine ⟨by omega, fun q => ⟨by omega, fun q => ⟨by omega, fun q => ⟨by omega, fun q => u_pop hR hu hs (by simp only [List.length_cons] at *; omega) (fun mem1 g1 g2 => u_pop hR hu g1 (by simp only [List.length_cons] at *; omega) (fun mem2 g3 g4 => u_joined hR hD c4 c1 (by omega) (by omega) (fun q => ?_) (u_push hR hu g3 (by simp only [List.length_cons] at *; omega) (fun mem4 g7 g8 => go mem4 _ g7 (fun i i1 i2 => (g8 i i1 i2).trans ((g4 i i1 i2).trans (g2 i i1 i2))) ?_)))), fun q => absurd q (by omega)⟩, fun q => absurd q (by omega)⟩, fun q => absurd q (by omega)⟩, fun q => absurd q (by omega)⟩
      · first | omega | exact ⟨c5 rfl, c2 rfl⟩
      · rw [if_neg (by omega), if_neg (by omega), if_neg (by omega), if_neg (by omega), if_neg (by omega)]
theorem u_isTold {d : Nat} {Q : Int → zF → Prop} {mem : zF} (hR : zall rf zRK = true) (hu : zRul rf u) {r : Nat} (hr : r < 3) (h2 : mem (u + 2) = pl 11) (h3 : mem (u + 3) = pl 12) (hok : ROK pl r) (k1 : pl 11 r ≠ -1 → Q 1 mem) (k0 : pl 11 r = -1 → Q 0 mem) : Ci X d 74 [(2, u), (0, (r : Int))] rf mem Q := by
  refine s_rules_isTold hR hu ?_
  rw [h2, h3, Int.toNat_natCast]
  unfold ROK at hok
  refine ⟨by omega, fun q => absurd q (by omega), fun q => ⟨by omega, fun q => absurd q (by omega), fun q => ⟨by omega, by omega, fun q => k0 (by omega), fun q => ⟨by omega, by omega, by omega, fun q2 => absurd q2 (by omega), fun q2 => k1 (by omega)⟩⟩⟩⟩
theorem u_result {D : Nat} {Q : Int → zF → Prop} {mem : zF} (hR : zall rf zRK = true) (hu : zRul rf u) (hD : 2 ≤ D) {r : Nat} (hr : r < 3) (h1 : mem (u + 1) = pl 10) (h2 : mem (u + 2) = pl 11) (h3 : mem (u + 3) = pl 12) (hok : ROK pl r) {q : Nat → Int} (hqq : ∀ j : Nat, j < 6 → (j < 3 ∨ j = r + 3) → mem (u + 4) j = q j) (hq : ∀ j : Nat, j < 6 → (j < 3 ∨ j = r + 3) → -1000000 ≤ q j ∧ q j ≤ 1000000) (kk : ∀ mem', (∀ i, i ≠ u → i ≠ u + 5 → mem' i = mem i) → Q (if pl 11 r = -1 then 0 else zres pl r q) mem') : Ci X D 79 [(2, u), (0, (r : Int))] rf mem Q := by
  obtain ⟨d, rfl⟩ : ∃ d, D = d + 1 := ⟨D - 1, by omega⟩
  refine s_rules_result hR hu ?_
  refine u_isTold hR hu hr h2 h3 hok (fun ht => ?_) (fun ht => ?_)
  · refine ⟨by decide, fun _ => ⟨by omega, ?_⟩, fun q => absurd q (by decide)⟩
    rw [zup_row _ _ _ (by omega), h2, Int.toNat_natCast]
    have hok2 := hok
    rcases hok2 with h | h
    · exact absurd h.1 ht
    · have e : pl 11 r = (((pl 11 r).toNat : Nat) : Int) := by omega
      rw [e]
      refine u_res_22 (qr := mem (u + 4)) (pl := pl) hR hu (by omega) hr (fun j j1 j2 => by rw [hqq j j1 (by omega)]; exact hq j j1 (by omega)) h.2.2.1 (pl 12 r - pl 11 r).toNat (by rw [zup_row _ _ _ (by omega)]; exact h1) (by rw [zup_row _ _ _ (by omega)]; exact h3) (by rw [zup_row _ _ _ (by omega)]) (vs := []) ⟨zup_at _ _ _ _, trivial⟩ (ts := []) trivial (by decide) h.2.2.2.2 (by omega) (fun j j1 j2 => h.2.2.2.1 j (by omega) j2) ?_
      intro mem' hf
      have e2 := zres_same (q := mem (u + 4)) (q' := q) hok ht hqq
      have := kk mem' (fun i i1 i2 => by rw [hf i i1 i2, zup_row _ _ _ i1])
      rw [if_neg ht, ← e2] at this
      exact this
  · refine ⟨by decide, fun q => absurd rfl q, fun _ => ?_⟩
    have := kk mem (fun _ _ _ => rfl)
    rwa [if_pos ht] at this
theorem u_setQ {d : Nat} {Q : zF → Prop} {mem : zF} (hR : zall rf zRK = true) (hu : zRul rf u) {c x : Int} (hc : -6 ≤ c ∧ c ≤ -1) (k : Q (zup mem (u + 4) (-1 - c).toNat x)) : Cv X d 78 [(2, u), (0, c), (0, x)] rf mem Q :=
  s_rules_setQuality hR hu ⟨by omega, fun q => absurd q (by omega), fun _ => ⟨by omega, fun q => absurd q (by omega), fun _ => ⟨by omega, k⟩⟩⟩
/-! the reference -/
theorem t_floor {d : Nat} {Q : Int → zF → Prop} {mem : zF} {l r : Int} (hR : zall rf zRK = true) (hl : -1000000 ≤ l ∧ l ≤ 1000000) (hr : -1000000 ≤ r ∧ r ≤ 1000000) (k : Q (if r = 0 then 0 else zfd l r) mem) : Cl X d 248 [(1, l), (1, r)] rf mem Q := by
  refine s_m_floor hR ⟨⟨by omega, by decide⟩, zcmpi _ _, fun q => ?_, fun q => ?_⟩
  · rw [zcmp0] at q
    have h2 := tmod_rng l q
    rw [if_neg q] at k
    unfold zfd at k
    refine ⟨⟨by omega, by omega, q⟩, ⟨by omega, by omega, q⟩, ⟨by omega, by decide⟩, zcmpi _ _, fun q2 => ?_, fun q2 => ⟨⟨by omega, by decide⟩, zcmpi _ _, fun q3 => ?_, fun q3 => ?_⟩⟩
    · rw [zcmp0] at q2
      rwa [if_neg (by omega)] at k
    · rw [zcmp0] at q2
      rw [zcmpg] at q3
      refine s_m_floor_32 hR ⟨⟨by omega, by decide⟩, zcmpi _ _, fun q4 => ?_, fun q4 => ?_⟩
      · rw [zcmpg] at q4
        rw [if_neg (by omega)] at k
        exact s_m_floor_43 hR ⟨by decide, fun _ => k, fun q => absurd rfl q⟩
      · rw [zcmpg] at q4
        rw [if_pos (by omega)] at k
        exact s_m_floor_43 hR ⟨by decide, fun q => absurd q (by decide), fun _ => k⟩
    · rw [zcmp0] at q2
      rw [zcmpg] at q3
      refine s_m_floor_32 hR ⟨⟨by omega, by decide⟩, zcmpi _ _, fun q4 => ?_, fun q4 => ?_⟩
      · rw [zcmpg] at q4
        rw [if_pos (by omega)] at k
        exact s_m_floor_43 hR ⟨by decide, fun q => absurd q (by decide), fun _ => k⟩
      · rw [zcmpg] at q4
        rw [if_neg (by omega)] at k
        exact s_m_floor_43 hR ⟨by decide, fun _ => k, fun q => absurd rfl q⟩
  · rw [zcmp0] at q
    rwa [if_pos q] at k
theorem zlan01 {l r : Int} (h1 : l = 0 ∨ l = 1) (h2 : r = 0 ∨ r = 1) : zlan l r = if l = 1 ∧ r = 1 then 1 else 0 := by
  rcases h1 with rfl | rfl <;> rcases h2 with rfl | rfl <;> decide
theorem zlor01 {l r : Int} (h1 : l = 0 ∨ l = 1) (h2 : r = 0 ∨ r = 1) : zlor l r = if l = 1 ∨ r = 1 then 1 else 0 := by
  rcases h1 with rfl | rfl <;> rcases h2 with rfl | rfl <;> decide
theorem t_two {D : Nat} {Q : Int → zF → Prop} {mem : zF} {so l r : Int} (hR : zall rf zRK = true) (hD : 1 ≤ D) (hl : -1000000 ≤ l ∧ l ≤ 1000000) (hr : -1000000 ≤ r ∧ r ≤ 1000000) (h1 : 31 ≤ so) (h2 : so ≤ 42) (hb : 41 ≤ so → (l = 0 ∨ l = 1) ∧ (r = 0 ∨ r = 1)) (k : Q (zjo so l r) mem) : Cl X D 249 [(0, so), (1, l), (1, r)] rf mem Q := by
  obtain ⟨d, rfl⟩ : ∃ d, D = d + 1 := ⟨D - 1, by omega⟩
  have hm := mul_rng hl hr
  unfold zjo at k
  refine s_m_two hR ⟨by omega, ?_⟩
  refine ⟨fun q => ?_, fun q => ?_, fun q => ?_, fun q => ?_, fun q => ?_, fun q => ?_, fun q => ?_, fun q => ?_, fun q => ?_, fun q => ?_, fun q => ?_, fun q => ?_⟩
  · rw [if_pos (by omega)] at k
    exact t_within hR (by omega) k
  · rw [if_neg (by omega), if_pos (by omega)] at k
    exact t_within hR (by omega) k
  · rw [if_neg (by omega), if_neg (by omega), if_pos (by omega)] at k
    exact t_within hR (by omega) k
  · rw [if_neg (by omega), if_neg (by omega), if_neg (by omega), if_pos (by omega)] at k
    refine t_floor hR hl hr (t_within hR ?_ ?_)
    · have h3 := tdiv_rng r hl
      unfold zfd
      split
      · decide
      · split <;> omega
    · by_cases e : r = 0
      · rw [if_pos e] at k ⊢
        exact k
      · rw [if_neg e] at k ⊢
        exact k
  · rw [if_neg (by omega), if_neg (by omega), if_neg (by omega), if_neg (by omega), if_pos (by omega)] at k
    refine ⟨⟨by omega, by decide⟩, zcmpi _ _, fun q => ?_, fun q => ?_⟩
    · rw [zcmp0] at q
      rw [if_neg q] at k
      refine t_floor hR hl hr ?_
      rw [if_neg q]
      have h4 := (zfd_mod (l := l) q hr).1
      refine t_within hR (by omega) ?_
      rwa [zlim_id h4]
    · rw [zcmp0] at q
      rwa [if_pos q] at k
  · rw [if_neg (by omega), if_neg (by omega), if_neg (by omega), if_neg (by omega), if_neg (by omega), if_pos (by omega)] at k
    refine ⟨by omega, zcmpi _ _, fun q => ?_, fun q => ?_⟩
    · rw [zcmpg] at q
      have e : min l r = r := by omega
      rwa [e] at k
    · rw [zcmpg] at q
      have e : min l r = l := by omega
      rwa [e] at k
  · rw [if_neg (by omega), if_neg (by omega), if_neg (by omega), if_neg (by omega), if_neg (by omega), if_neg (by omega), if_pos (by omega)] at k
    refine ⟨by omega, zcmpi _ _, fun q => ?_, fun q => ?_⟩
    · rw [zcmpl] at q
      have e : max l r = r := by omega
      rwa [e] at k
    · rw [zcmpl] at q
      have e : max l r = l := by omega
      rwa [e] at k
  · rw [if_neg (by omega), if_neg (by omega), if_neg (by omega), if_neg (by omega), if_neg (by omega), if_neg (by omega), if_neg (by omega), if_pos (by omega)] at k
    refine ⟨by omega, zcmpi _ _, fun q => ?_, fun q => ?_⟩
    · rw [zcmpg] at q
      rwa [if_neg (by omega)] at k
    · rw [zcmpg] at q
      rwa [if_pos (by omega)] at k
  · rw [if_neg (by omega), if_neg (by omega), if_neg (by omega), if_neg (by omega), if_neg (by omega), if_neg (by omega), if_neg (by omega), if_neg (by omega), if_pos (by omega)] at k
    refine ⟨by omega, zcmpi _ _, fun q => ?_, fun q => ?_⟩
    · rw [zcmpl] at q
      rwa [if_neg (by omega)] at k
    · rw [zcmpl] at q
      rwa [if_pos (by omega)] at k
  · rw [if_neg (by omega), if_neg (by omega), if_neg (by omega), if_neg (by omega), if_neg (by omega), if_neg (by omega), if_neg (by omega), if_neg (by omega), if_neg (by omega), if_pos (by omega)] at k
    refine ⟨by omega, zcmpi _ _, fun q => ?_, fun q => ?_⟩
    · rw [zcmp0] at q
      rwa [if_neg q] at k
    · rw [zcmp0] at q
      rwa [if_pos q] at k
  · rw [if_neg (by omega), if_neg (by omega), if_neg (by omega), if_neg (by omega), if_neg (by omega), if_neg (by omega), if_neg (by omega), if_neg (by omega), if_neg (by omega), if_neg (by omega), if_pos (by omega)] at k
    have hb := hb (by omega)
    rwa [zlan01 hb.1 hb.2]
  · rw [if_neg (by omega), if_neg (by omega), if_neg (by omega), if_neg (by omega), if_neg (by omega), if_neg (by omega), if_neg (by omega), if_neg (by omega), if_neg (by omega), if_neg (by omega), if_neg (by omega)] at k
    have hb := hb (by omega)
    rwa [zlor01 hb.1 hb.2]
/-- the codes and rules of the reference's bank -/
def RC (mem pl : zF) : Prop := (0 ≤ mem 261 13 ∧ mem 261 13 < 2) ∧ (∀ r : Nat, r < 3 → mem 279 (3 * mem 261 13 + (r : Int)).toNat = pl 11 r ∧ (pl 11 r ≠ -1 → mem 280 (3 * mem 261 13 + (r : Int)).toNat = pl 12 r)) ∧ (∀ j : Nat, j < 1600 → mem 281 (1600 * mem 261 13 + (j : Int)).toNat = pl 13 j ∧ mem 282 (1600 * mem 261 13 + (j : Int)).toNat = pl 14 j)
theorem t_reck_25 {d : Nat} {Q : Int → zF → Prop} (hR : zall rf zRK = true) (hD : 1 ≤ d) {r : Nat} (hr : r < 3) {q : Nat → Int} {tb : Bool} (hq : ∀ j : Nat, j < 6 → -1000000 ≤ q j ∧ q j ≤ 1000000) (hb : pl 12 r ≤ 1600) (htl : pl 11 r ≠ -1) : ∀ (n : Nat) {k : Nat} {mem : zF} {ts : List Bool} {vs : List Int}, RC mem pl → (∀ j : Nat, j < 6 → mem 306 (j + 1) = q j) → SK (mem 305) vs → VT ts vs → ts.length ≤ 60 → zcks (r : Int) (pl 13) (pl 14) k n ts = some [tb] → (k : Int) + n = pl 12 r → (∀ mem', (∀ i, i ≠ 305 → mem' i = mem i) → Q ((zev q (pl 13) (pl 14) k n vs).headD 0) mem') → L_m_reckons_25 X d rf Q mem r vs.length (1600 * mem 261 13 + (k : Int))
  | 0, k, mem, ts, vs, hC, h6, hs, ht, hts, hc, hk, kk => by
    have hC1 := hC.2.1 r hr
    refine s_m_reckons_25 hR ⟨by have := hC.1; omega, ?_⟩
    rw [hC1.2 htl]
    refine ⟨by have := hC.1; omega, fun q => ?_, fun q => absurd q (by omega)⟩
    unfold zcks at hc
    cases hc
    obtain ⟨v, ws, rfl, e1, e2, e3⟩ := ht.cons
    have e4 := e3.len
    cases ws with
    | cons _ _ => simp at e4
    | nil =>
      have e5 : mem 305 0 = v := hs.1
      rw [e5]
      exact kk mem (fun _ _ => rfl)
  | n + 1, k, mem, ts, vs, hC, h6, hs, ht, hts, hc, hk, kk => by
    have hC0 := hC.1
    have hC1 := hC.2.1 r hr
    have hC2 := hC.2.2 k (by omega)
    obtain ⟨ts', hc1, hc2⟩ := zcks_succ hc
    have hl := ht.len
    have go : ∀ (mem' : zF) (vs' : List Int) (m : Int), SK (mem' 305) vs' → (∀ i, i ≠ 305 → mem' i = mem i) → vs' = zst q (pl 13 k) (pl 14 k) vs → m = vs'.length → L_m_reckons_25 X d rf Q mem' r m (1600 * mem 261 13 + (k : Int) + 1) := by
      intro mem' vs' m g1 g2 g3 g4
      have e : 1600 * mem 261 13 + (k : Int) + 1 = 1600 * mem' 261 13 + ((k + 1 : Nat) : Int) := by rw [g2 261 (by decide)]; omega
      rw [e, g4]
      subst g3
      have hC' : RC mem' pl := by
        unfold RC
        rw [g2 261 (by decide), g2 279 (by decide), g2 280 (by decide), g2 281 (by decide), g2 282 (by decide)]
        exact hC
      refine t_reck_25 hR hD hr hq hb htl n hC' (by rw [g2 306 (by decide)]; exact h6) g1 (ht.step hc1 (fun j j1 _ => hq j j1)) (zck_len hc1 hts) hc2 (by omega) ?_
      intro mem2 f1
      exact kk mem2 (fun i i1 => (f1 i i1).trans (g2 i i1))
    unfold zst at go
    refine s_m_reckons_25 hR ⟨by omega, ?_⟩
    rw [hC1.2 htl]
    refine ⟨by omega, fun q => absurd q (by omega), fun _ => ⟨by omega, ?_⟩⟩
    rw [hC2.1, hC2.2]
    rcases zck_cases hc1 with ⟨e, b1, b2, b3, rfl⟩ | ⟨a1, a2, b1, b3, rfl⟩ | ⟨e, b3, rfl⟩ | ⟨e, s, rfl, rfl⟩ | ⟨e, s, rfl, rfl⟩ | ⟨a1, a2, s, rfl, rfl⟩ | ⟨a1, a2, s, rfl, rfl⟩ | ⟨e, s, rfl, rfl⟩
    · refine ⟨by omega, fun q => absurd q (by omega), fun _ => ⟨by omega, fun q => absurd e q, fun _ => ⟨by omega, by omega, by omega, go _ _ _ ?_ (fun i hi => zup_row _ _ _ hi) (by rw [if_pos e]) (by simp)⟩⟩⟩
      exact ⟨by rw [zup_get, if_pos ⟨rfl, by omega⟩], hs.same (fun j hj => zup_ne _ _ _ _ (by omega))⟩
    · have e6 : mem 306 (pl 13 k).toNat = q (pl 13 k - 1).toNat := by
        have := h6 (pl 13 k - 1).toNat (by omega)
        have e7 : (pl 13 k - 1).toNat + 1 = (pl 13 k).toNat := by omega
        rwa [e7] at this
      have e8 := hq (pl 13 k - 1).toNat (by omega)
      rw [e6]
      refine ⟨by omega, fun q => absurd q (by omega), fun _ => ⟨by omega, fun _ => ⟨by omega, fun _ => ⟨by omega, by omega, by omega, go _ _ _ ?_ (fun i hi => zup_row _ _ _ hi) (by rw [if_neg (by omega), if_pos (by omega)]) (by simp)⟩, fun q => absurd q (by omega)⟩, fun q => absurd q (by omega)⟩⟩
      exact ⟨by rw [zup_get, if_pos ⟨rfl, by omega⟩], hs.same (fun j hj => zup_ne _ _ _ _ (by omega))⟩
    · refine ⟨by omega, fun q => absurd q (by omega), fun _ => ⟨by omega, fun _ => ⟨by omega, fun q => absurd e q, fun _ => ⟨by omega, go _ _ _ ?_ (fun i hi => zup_row _ _ _ hi) (by rw [if_neg (by omega), if_neg (by omega), if_pos e]) (by simp)⟩⟩, fun q => absurd q (by omega)⟩⟩
      exact ⟨by rw [zup_get, if_pos ⟨rfl, by omega⟩], hs.same (fun j hj => zup_ne _ _ _ _ (by omega))⟩
    · obtain ⟨v, ws, rfl, c1, c2, c3⟩ := ht.cons
      have ev : mem 305 (((v :: ws).length : Int) - 1).toNat = v := by
        have := hs.1
        have e9 : (((v :: ws).length : Int) - 1).toNat = ws.length := by simp
        rw [e9]
        exact this
      simp only [List.length_cons] at hl hts
      refine ⟨by omega, fun _ => ⟨by omega, fun q => absurd e q, fun _ => ⟨by simp; omega, by simp; omega, ?_⟩⟩, fun q => absurd q (by omega)⟩
      rw [ev]
      refine go _ _ _ ?_ (fun i hi => zup_row _ _ _ hi) (by rw [if_neg (by omega), if_neg (by omega), if_neg (by omega), if_pos e]) (by simp)
      refine ⟨by rw [zup_get, if_pos ⟨rfl, by simp⟩], hs.2.same (fun j hj => zup_ne _ _ _ _ (by simp; omega))⟩
    · obtain ⟨v, ws, rfl, c1, c2, c3⟩ := ht.cons
      obtain ⟨v2, ws2, rfl, c4, c5, c6⟩ := c3.cons
      obtain ⟨v3, ws3, rfl, c7, c8, c9⟩ := c6.cons
      have el : (((v :: v2 :: v3 :: ws3).length : Nat) : Int) = (ws3.length : Int) + 3 := by simp; omega
      have h01 := c8 rfl
      have ev1 : mem 305 (ws3.length + 2) = v := hs.1
      have ev2 : mem 305 (ws3.length + 1) = v2 := hs.2.1
      have ev3 : mem 305 ws3.length = v3 := hs.2.2.1
      have i1 : ((ws3.length : Int) + 3 + (-2) - 1).toNat = ws3.length := by omega
      have i2 : ((ws3.length : Int) + 3 + (-2)).toNat = ws3.length + 1 := by omega
      have i3 : ((ws3.length : Int) + 3 + (-2) + 1).toNat = ws3.length + 2 := by omega
      simp only [List.length_cons] at hl hts
      rw [el, i1, i2, i3, ev1, ev2, ev3]
      refine ⟨by omega, fun _ => ⟨by omega, fun _ => ⟨by omega, fun q => absurd e q, fun _ => ⟨by omega, ⟨by omega, by decide⟩, zcmpi _ _, fun q => ?_, fun q => ?_⟩⟩, fun q => absurd q (by omega)⟩, fun q => absurd q (by omega)⟩
      · rw [zcmp0] at q
        refine ⟨by omega, by omega, go _ (v :: ws3) _ ?_ (fun i hi => zup_row _ _ _ hi) ?_ (by simp; omega)⟩
        · exact ⟨by rw [zup_get, if_pos ⟨rfl, rfl⟩], hs.2.2.2.same (fun j hj => zup_ne _ _ _ _ (by omega))⟩
        · rw [if_neg (by omega), if_neg (by omega), if_neg (by omega), if_neg (by omega), if_pos e]
          simp only
          rw [if_neg q]
      · rw [zcmp0] at q
        refine ⟨by omega, by omega, go _ (v2 :: ws3) _ ?_ (fun i hi => zup_row _ _ _ hi) ?_ (by simp; omega)⟩
        · exact ⟨by rw [zup_get, if_pos ⟨rfl, rfl⟩], hs.2.2.2.same (fun j hj => zup_ne _ _ _ _ (by omega))⟩
        · rw [if_neg (by omega), if_neg (by omega), if_neg (by omega), if_neg (by omega), if_pos e]
          simp only
          rw [if_pos q]
    all_goals
      obtain ⟨v, ws, rfl, c1, c2, c3⟩ := ht.cons
      obtain ⟨v2, ws2, rfl, c4, c5, c6⟩ := c3.cons
      have el : (((v :: v2 :: ws2).length : Nat) : Int) = (ws2.length : Int) + 2 := by simp; omega
      have ev1 : mem 305 (ws2.length + 1) = v := hs.1
      have ev2 : mem 305 ws2.length = v2 := hs.2.1
      have i1 : ((ws2.length : Int) + 2 + (-1) - 1).toNat = ws2.length := by omega
      have i2 : ((ws2.length : Int) + 2 + (-1)).toNat = ws2.length + 1 := by omega
      simp only [List.length_cons] at hl hts
      rw [el, i1, i2, ev1, ev2]
      refine ⟨by omega, fun _ => ⟨by omega, fun _ => ⟨by omega, fun _ => ⟨by omega, by omega, t_two hR hD c4 c1 (by omega) (by omega) (fun q => ?_) ⟨by omega, go _ (zjo (pl 13 k) v2 v :: ws2) _ ?_ (fun i hi => zup_row _ _ _ hi) ?_ (by simp; omega)⟩⟩, fun q => absurd q (by omega)⟩, fun q => absurd q (by omega)⟩, fun q => absurd q (by omega)⟩
      · first | omega | exact ⟨c5 rfl, c2 rfl⟩
      · exact ⟨by rw [zup_get, if_pos ⟨rfl, rfl⟩], hs.2.2.same (fun j hj => zup_ne _ _ _ _ (by omega))⟩
      · rw [if_neg (by omega), if_neg (by omega), if_neg (by omega), if_neg (by omega), if_neg (by omega)]
theorem t_reckons {D : Nat} {Q : Int → zF → Prop} {mem : zF} (hR : zall rf zRK = true) (hD : 2 ≤ D) {r : Nat} (hr : r < 3) (hC : RC mem pl) (hok : ROK pl r) (htl : pl 11 r ≠ -1) {q : Nat → Int} (h6 : ∀ j : Nat, j < 6 → mem 306 (j + 1) = q j) (hq : ∀ j : Nat, j < 6 → -1000000 ≤ q j ∧ q j ≤ 1000000) (kk : ∀ mem', (∀ i, i ≠ 305 → mem' i = mem i) → Q (zres pl r q) mem') : Cl X D 250 [(2, 261), (0, (r : Int))] rf mem Q := by
  obtain ⟨d, rfl⟩ : ∃ d, D = d + 1 := ⟨D - 1, by omega⟩
  have hC0 := hC.1
  have hC1 := hC.2.1 r hr
  refine s_m_reckons hR ⟨by omega, ?_⟩
  rw [hC1.1]
  rcases hok with h | h
  · exact absurd h.1 htl
  · have e : pl 11 r = (((pl 11 r).toNat : Nat) : Int) := by omega
    rw [e]
    exact t_reck_25 (vs := []) (ts := []) hR (by omega) hr hq h.2.2.1 htl (pl 12 r - pl 11 r).toNat hC h6 trivial trivial (by decide) h.2.2.2.2 (by omega) kk
theorem t_isTold {d : Nat} {Q : Int → zF → Prop} {mem : zF} (hR : zall rf zRK = true) {r : Nat} (hr : r < 3) (hC : RC mem pl) (hok : ROK pl r) (k1 : pl 11 r ≠ -1 → Q 1 mem) (k0 : pl 11 r = -1 → Q 0 mem) : Ci X d 251 [(2, 261), (0, (r : Int))] rf mem Q := by
  have hC0 := hC.1
  have hC1 := hC.2.1 r hr
  refine s_m_isTold hR ⟨by omega, ?_⟩
  rw [hC1.1]
  unfold ROK at hok
  exact ⟨by omega, k0, k1⟩
end RES
