/-! THE REFERENCE: its bank and its versions -/
theorem zup_comm {f : zF} {a a2 j j2 : Nat} {v v2 : Int} (h : a ≠ a2) : zup (zup f a j v) a2 j2 v2 = zup (zup f a2 j2 v2) a j v := by
  funext b k
  rw [zup_get, zup_get, zup_get, zup_get]
  by_cases e1 : b = a2 ∧ k = j2
  · rw [if_pos e1, if_neg (by omega), if_pos e1]
  · rw [if_neg e1, if_neg e1]
theorem aFd_f {P : Int → Bool} {b : Int} {n : Nat} (h : P b = false) : aFd P b (n + 1) = aFd P (b + 1) n := by
  conv => lhs; unfold aFd
  rw [if_neg (by rw [h]; decide)]
theorem aFd_t {P : Int → Bool} {b : Int} {n : Nat} (h : P b = true) : aFd P b (n + 1) = b := by
  unfold aFd
  rw [if_pos h]
def RV (mem : zF) (v : Int) (pl sc : zF) : Prop :=
  (mem 293 v.toNat = sc 0 0 ∧ mem 294 v.toNat = sc 0 1 ∧ mem 295 v.toNat = sc 0 2 ∧ mem 303 v.toNat = sc 0 11) ∧
  (∀ k : Int, 0 ≤ k → k < pl 1 1 → mem 296 (6 * v + k).toNat = sc 1 k.toNat) ∧
  (∀ (s : Nat) (k : Int), 2 ≤ s → s ≤ 7 → 0 ≤ k → k < pl 1 2 → mem (295 + s) (6 * v + k).toNat = sc s k.toNat) ∧
  (∀ j : Int, 0 ≤ j → j < 4 * sc 0 11 → mem 304 (160 * v + j).toNat = sc 8 j.toNat)
theorem RV.b {mem pl sc : zF} {v : Int} (h : RV mem v pl sc) (s : Nat) (h1 : 2 ≤ s) (h2 : s ≤ 7) {k : Int} (k1 : 0 ≤ k) (k2 : k < pl 1 2) : mem (295 + s) (6 * v + k).toNat = sc s k.toNat := h.2.2.1 s k h1 h2 k1 k2
theorem RV.fr {mem mem' pl sc : zF} {v : Int} (h : RV mem v pl sc) (e : ∀ a, 293 ≤ a → a ≤ 304 → mem' a = mem a) : RV mem' v pl sc := by
  unfold RV
  rw [e 293 (by decide) (by decide), e 294 (by decide) (by decide), e 295 (by decide) (by decide), e 303 (by decide) (by decide), e 296 (by decide) (by decide), e 304 (by decide) (by decide)]
  refine ⟨h.1, h.2.1, fun s k h1 h2 h3 h4 => ?_, h.2.2.2⟩
  rw [e (295 + s) (by omega) (by omega)]
  exact h.2.2.1 s k h1 h2 h3 h4
theorem RV.same {mem pl sc sc' : zF} {v : Int} (h : RV mem v pl sc) (e : ∀ s, s ≤ 8 → sc' s = sc s) : RV mem v pl sc' := by
  unfold RV
  rw [e 0 (by decide), e 1 (by decide), e 8 (by decide)]
  refine ⟨h.1, h.2.1, fun s k h1 h2 h3 h4 => ?_, h.2.2.2⟩
  rw [e s (by omega)]
  exact h.2.2.1 s k h1 h2 h3 h4
theorem RV.up {mem pl sc : zF} {v : Int} (h : RV mem v pl sc) (hv : 0 ≤ v) (s : Nat) (h1 : 2 ≤ s) (h2 : s ≤ 7) {b : Int} (hb : 0 ≤ b) (x : Int) : RV (zup mem (295 + s) (6 * v + b).toNat x) v pl (zup sc s b.toNat x) := by
  refine ⟨?_, fun k k1 k2 => ?_, fun s2 k k1 k2 k3 k4 => ?_, fun j j1 j2 => ?_⟩
  · rw [zup_row _ _ _ (by omega), zup_row _ _ _ (by omega), zup_row _ _ _ (by omega), zup_row _ _ _ (by omega), zup_row _ _ _ (by omega)]
    exact h.1
  · rw [zup_row _ _ _ (by omega), zup_row _ _ _ (by omega)]
    exact h.2.1 k k1 k2
  · rw [zup_get, zupk hb k3]
    by_cases e : s2 = s ∧ k = b
    · rw [if_pos e, if_pos ⟨by omega, by omega⟩]
    · rw [if_neg e, if_neg (fun q => e ⟨by omega, by omega⟩)]
      exact h.2.2.1 s2 k k1 k2 k3 k4
  · rw [zup_row _ _ _ (by omega)] at j2
    rw [zup_row _ _ _ (by omega), zup_row _ _ _ (by omega)]
    exact h.2.2.2 j j1 j2
theorem RV.up1 {mem pl sc : zF} {v : Int} (h : RV mem v pl sc) (hv : 0 ≤ v) {b : Int} (hb : 0 ≤ b) (x : Int) : RV (zup mem 296 (6 * v + b).toNat x) v pl (zup sc 1 b.toNat x) := by
  refine ⟨?_, fun k k1 k2 => ?_, fun s2 k k1 k2 k3 k4 => ?_, fun j j1 j2 => ?_⟩
  · rw [zup_row _ _ _ (by omega), zup_row _ _ _ (by omega), zup_row _ _ _ (by omega), zup_row _ _ _ (by omega), zup_row _ _ _ (by omega)]
    exact h.1
  · rw [zup_get, zupk hb k1]
    by_cases e : k = b
    · rw [if_pos ⟨rfl, by omega⟩, if_pos ⟨rfl, e⟩]
    · rw [if_neg (by omega), if_neg (fun q => e q.2)]
      exact h.2.1 k k1 k2
  · rw [zup_row _ _ _ (by omega), zup_row _ _ _ (by omega)]
    exact h.2.2.1 s2 k k1 k2 k3 k4
  · rw [zup_row _ _ _ (by omega)] at j2
    rw [zup_row _ _ _ (by omega), zup_row _ _ _ (by omega)]
    exact h.2.2.2 j j1 j2
theorem RV.up0 {mem pl sc : zF} {v : Int} (h : RV mem v pl sc) (a j : Nat) (haj : (a = 293 ∧ j = 0) ∨ (a = 294 ∧ j = 1) ∨ (a = 295 ∧ j = 2)) (x : Int) : RV (zup mem a v.toNat x) v pl (zup sc 0 j x) := by
  refine ⟨?_, fun k k1 k2 => ?_, fun s2 k k1 k2 k3 k4 => ?_, fun j j1 j2 => ?_⟩
  · have h1 := h.1
    rcases haj with ⟨rfl, rfl⟩ | ⟨rfl, rfl⟩ | ⟨rfl, rfl⟩ <;> simp [zup_get, h1]
  · rw [zup_row _ _ _ (by omega), zup_row _ _ _ (by omega)]
    exact h.2.1 k k1 k2
  · rw [zup_row _ _ _ (by omega), zup_row _ _ _ (by omega)]
    exact h.2.2.1 s2 k k1 k2 k3 k4
  · rw [zup_ne _ _ _ _ (by omega)] at j2
    rw [zup_row _ _ _ (by omega), zup_row _ _ _ (by omega)]
    exact h.2.2.2 j j1 j2
/-- entry (a, j) belongs to version v -/
def zofv (v : Int) (a j : Nat) : Prop := ((a = 293 ∨ a = 294 ∨ a = 295 ∨ a = 303) ∧ (j : Int) = v) ∨ (296 ≤ a ∧ a ≤ 302 ∧ 6 * v ≤ (j : Int) ∧ (j : Int) < 6 * v + 6) ∨ (a = 304 ∧ 160 * v ≤ (j : Int) ∧ (j : Int) < 160 * v + 160)
def R7 (v : Int) (mem mem' : zF) : Prop := ∀ a j, ¬ zofv v a j → a ≠ 305 → a ≠ 306 → a ≠ 307 → mem' a j = mem a j
theorem R7.rfl {v : Int} {mem : zF} : R7 v mem mem := fun _ _ _ _ _ _ => Eq.refl _
theorem R7.trans {v : Int} {m1 m2 m3 : zF} (h1 : R7 v m1 m2) (h2 : R7 v m2 m3) : R7 v m1 m3 := fun a j p q r s => (h2 a j p q r s).trans (h1 a j p q r s)
theorem R7.up {v : Int} {m1 m2 : zF} {a j : Nat} {x : Int} (h : R7 v m1 m2) (ho : zofv v a j) : R7 v m1 (zup m2 a j x) := by
  intro b k p q r s
  rw [zup_get, if_neg]
  · exact h b k p q r s
  · rintro ⟨rfl, rfl⟩
    exact p ho
theorem R7.sc {v : Int} {m1 m2 m3 : zF} {a : Nat} (h : R7 v m1 m2) (ha : a = 305 ∨ a = 306 ∨ a = 307) (e : ∀ i, i ≠ a → m3 i = m2 i) : R7 v m1 m3 := by
  intro b k p q r s
  rw [e b (by omega)]
  exact h b k p q r s
theorem R7.row {v : Int} {m1 m2 : zF} (h : R7 v m1 m2) {a : Nat} (ha : a < 293 ∨ 307 < a) : m2 a = m1 a := by
  funext j
  refine h a j ?_ (by omega) (by omega) (by omega)
  unfold zofv
  omega
theorem R7.rv {v v2 : Int} {m1 m2 pl sc : zF} (h : R7 v m1 m2) (hne : v ≠ v2) (h0 : 0 ≤ v) (h2 : 0 ≤ v2) (hn : pl 1 1 ≤ 6 ∧ pl 1 2 ≤ 6) (hk : sc 0 11 ≤ 6) (hr : RV m1 v2 pl sc) : RV m2 v2 pl sc := by
  refine ⟨?_, fun k k1 k2 => ?_, fun s k k1 k2 k3 k4 => ?_, fun j j1 j2 => ?_⟩
  · rw [h 293 _ (by unfold zofv; omega) (by decide) (by decide) (by decide), h 294 _ (by unfold zofv; omega) (by decide) (by decide) (by decide), h 295 _ (by unfold zofv; omega) (by decide) (by decide) (by decide), h 303 _ (by unfold zofv; omega) (by decide) (by decide) (by decide)]
    exact hr.1
  · rw [h 296 _ (by unfold zofv; omega) (by decide) (by decide) (by decide)]
    exact hr.2.1 k k1 k2
  · rw [h (295 + s) _ (by unfold zofv; omega) (by omega) (by omega) (by omega)]
    exact hr.2.2.1 s k k1 k2 k3 k4
  · rw [h 304 _ (by unfold zofv; omega) (by decide) (by decide) (by decide)]
    exact hr.2.2.2 j j1 j2
def RF (v : Int) (mem mem' : zF) : Prop := ∀ a j, ¬ zofv v a j → a ≠ 305 → a ≠ 306 → mem' a j = mem a j
theorem RF.rfl {v : Int} {mem : zF} : RF v mem mem := fun _ _ _ _ _ => Eq.refl _
theorem RF.trans {v : Int} {m1 m2 m3 : zF} (h1 : RF v m1 m2) (h2 : RF v m2 m3) : RF v m1 m3 := fun a j p q r => (h2 a j p q r).trans (h1 a j p q r)
theorem RF.up {v : Int} {m1 m2 : zF} {a j : Nat} {x : Int} (h : RF v m1 m2) (ho : zofv v a j) : RF v m1 (zup m2 a j x) := by
  intro b k p q r
  rw [zup_get, if_neg]
  · exact h b k p q r
  · rintro ⟨rfl, rfl⟩
    exact p ho
theorem RF.sc {v : Int} {m1 m2 m3 : zF} {a : Nat} (h : RF v m1 m2) (ha : a = 305 ∨ a = 306) (e : ∀ i, i ≠ a → m3 i = m2 i) : RF v m1 m3 := by
  intro b k p q r
  rw [e b (by omega)]
  exact h b k p q r
theorem RF.row {v : Int} {m1 m2 : zF} (h : RF v m1 m2) {a : Nat} (ha : a < 293 ∨ 306 < a) : m2 a = m1 a := by
  funext j
  refine h a j ?_ (by omega) (by omega)
  unfold zofv
  omega
theorem RF.rv {v v2 : Int} {m1 m2 pl sc : zF} (h : RF v m1 m2) (hne : v ≠ v2) (h0 : 0 ≤ v) (h2 : 0 ≤ v2) (hn : pl 1 1 ≤ 6 ∧ pl 1 2 ≤ 6) (hk : sc 0 11 ≤ 6) (hr : RV m1 v2 pl sc) : RV m2 v2 pl sc := by
  refine ⟨?_, fun k k1 k2 => ?_, fun s k k1 k2 k3 k4 => ?_, fun j j1 j2 => ?_⟩
  · rw [h 293 _ (by unfold zofv; omega) (by decide) (by decide), h 294 _ (by unfold zofv; omega) (by decide) (by decide), h 295 _ (by unfold zofv; omega) (by decide) (by decide), h 303 _ (by unfold zofv; omega) (by decide) (by decide)]
    exact hr.1
  · rw [h 296 _ (by unfold zofv; omega) (by decide) (by decide)]
    exact hr.2.1 k k1 k2
  · rw [h (295 + s) _ (by unfold zofv; omega) (by omega) (by omega)]
    exact hr.2.2.1 s k k1 k2 k3 k4
  · rw [h 304 _ (by unfold zofv; omega) (by decide) (by decide)]
    exact hr.2.2.2 j j1 j2
theorem RF.r7 {v : Int} {m1 m2 : zF} (h : RF v m1 m2) : R7 v m1 m2 := fun a j p q r _ => h a j p q r
/-- the bank in use holds the plan -/
def RP (mem pl : zF) : Prop :=
  (0 ≤ mem 261 13 ∧ mem 261 13 < 2) ∧ mem 261 50 = (if pl 0 1 = 0 then 0 else 1) ∧ (mem 263 (mem 261 13).toNat = pl 0 1 ∧ mem 264 (mem 261 13).toNat = pl 0 2) ∧
  (mem 266 (mem 261 13).toNat = pl 1 0 ∧ mem 271 (mem 261 13).toNat = pl 1 1 ∧ mem 274 (mem 261 13).toNat = pl 1 2 ∧ mem 278 (mem 261 13).toNat = pl 0 4) ∧
  (∀ k : Int, 0 ≤ k → k < pl 1 0 → mem 267 (6 * mem 261 13 + k).toNat = pl 3 k.toNat ∧ mem 268 (6 * mem 261 13 + k).toNat = pl 4 k.toNat ∧ mem 269 (6 * mem 261 13 + k).toNat = pl 5 k.toNat) ∧
  (∀ k : Int, 0 ≤ k → k < pl 1 1 → mem 273 (6 * mem 261 13 + k).toNat = pl 6 k.toNat) ∧ RC mem pl
theorem RP.bank {mem pl : zF} (h : RP mem pl) : 0 ≤ mem 261 13 ∧ mem 261 13 < 2 := h.1
theorem RP.room {mem pl : zF} (h : RP mem pl) : mem 261 50 = (if pl 0 1 = 0 then 0 else 1) := h.2.1
theorem RP.cr {mem pl : zF} (h : RP mem pl) : mem 263 (mem 261 13).toNat = pl 0 1 ∧ mem 264 (mem 261 13).toNat = pl 0 2 := h.2.2.1
theorem RP.n {mem pl : zF} (h : RP mem pl) : mem 266 (mem 261 13).toNat = pl 1 0 ∧ mem 271 (mem 261 13).toNat = pl 1 1 ∧ mem 274 (mem 261 13).toNat = pl 1 2 ∧ mem 278 (mem 261 13).toNat = pl 0 4 := h.2.2.2.1
theorem RP.door {mem pl : zF} (h : RP mem pl) {k : Int} (h0 : 0 ≤ k) (h1 : k < pl 1 0) : mem 267 (6 * mem 261 13 + k).toNat = pl 3 k.toNat ∧ mem 268 (6 * mem 261 13 + k).toNat = pl 4 k.toNat ∧ mem 269 (6 * mem 261 13 + k).toNat = pl 5 k.toNat := h.2.2.2.2.1 k h0 h1
theorem RP.tall {mem pl : zF} (h : RP mem pl) {k : Int} (h0 : 0 ≤ k) (h1 : k < pl 1 1) : mem 273 (6 * mem 261 13 + k).toNat = pl 6 k.toNat := h.2.2.2.2.2.1 k h0 h1
theorem RP.rc {mem pl : zF} (h : RP mem pl) : RC mem pl := h.2.2.2.2.2.2
theorem RC.fr {mem mem' pl : zF} (h : RC mem pl) (e1 : mem' 261 13 = mem 261 13) (e : ∀ a, 279 ≤ a → a ≤ 282 → mem' a = mem a) : RC mem' pl := by
  unfold RC
  rw [e1, e 279 (by decide) (by decide), e 280 (by decide) (by decide), e 281 (by decide) (by decide), e 282 (by decide) (by decide)]
  exact h
theorem RP.fr {mem mem' pl : zF} (h : RP mem pl) (e1 : mem' 261 13 = mem 261 13) (e2 : mem' 261 50 = mem 261 50) (e : ∀ a, 263 ≤ a → a ≤ 282 → mem' a = mem a) : RP mem' pl := by
  unfold RP
  rw [e1, e2, e 263 (by decide) (by decide), e 264 (by decide) (by decide), e 266 (by decide) (by decide), e 271 (by decide) (by decide), e 274 (by decide) (by decide), e 278 (by decide) (by decide), e 267 (by decide) (by decide), e 268 (by decide) (by decide), e 269 (by decide) (by decide), e 273 (by decide) (by decide)]
  exact ⟨h.1, h.2.1, h.2.2.1, h.2.2.2.1, h.2.2.2.2.1, h.2.2.2.2.2.1, h.rc.fr e1 (fun a a1 a2 => e a (by omega) a2)⟩
theorem RF.rp {v : Int} {m1 m2 pl : zF} (h : RF v m1 m2) (hp : RP m1 pl) : RP m2 pl := hp.fr (by rw [h.row (by decide)]) (by rw [h.row (by decide)]) (fun a h1 h2 => h.row (by omega))
theorem R7.rp {v : Int} {m1 m2 pl : zF} (h : R7 v m1 m2) (hp : RP m1 pl) : RP m2 pl := hp.fr (by rw [h.row (by decide)]) (by rw [h.row (by decide)]) (fun a h1 h2 => h.row (by omega))
def RD (mem pl sc : zF) : Prop := ∀ k : Int, 0 ≤ k → k < pl 1 2 → mem 307 k.toNat = sc 9 k.toNat
theorem aDrift_end {pl : zF} {w : Int → Int} {br : Int} : ∀ (n : Nat) (b : Int) (sc : zF), 0 ≤ b → (∀ k : Int, b ≤ k → k < b + n → sc 2 k.toNat = -1) → ∀ (s k : Nat), (s ≠ 9 ∨ (k : Int) < b) → aIt (aDrift pl w br) b n sc s k = sc s k
  | 0, _, _, _, _, _, _, _ => rfl
  | n + 1, b, sc, h0, h, s, k, hs => by
    unfold aIt
    have e : aDrift pl w br b sc = zup sc 9 b.toNat 0 := by
      unfold aDrift
      rw [if_pos]
      unfold znext
      have := h b (by omega) (by omega)
      rw [if_neg (by omega)]
    rw [e, aDrift_end n (b + 1) _ (by omega) (fun k k1 k2 => by rw [zup_row _ _ _ (by decide)]; exact h k (by omega) (by omega)) s k (by omega), zup_get, if_neg (by omega)]
section REF
variable {X : zX} {rf pl : zF}
theorem t_cell {D : Nat} {Q : Int → zF → Prop} {mem : zF} (hR : zall rf zRK = true) (hD : 1 ≤ D) (hp : RP mem pl) (hW : WP pl) {x y : Int} (hx : inI x) (hy : inI y) (k1 : zcellAt (pl 0 1) (pl 0 2) x y ≠ -1 → Q 1 mem) (k0 : zcellAt (pl 0 1) (pl 0 2) x y = -1 → Q 0 mem) : Ci X D 253 [(2, 261), (0, x), (0, y)] rf mem Q := by
  obtain ⟨d, rfl⟩ : ∃ d, D = d + 1 := ⟨D - 1, by omega⟩
  have hcr := hW.cr
  have hro := hp.room
  have hro2 : mem 261 50 = 0 ∨ mem 261 50 = 1 := by
    rw [hro]
    split
    · exact Or.inl rfl
    · exact Or.inr rfl
  refine t_isCell hR hx hy hp.bank hp.cr.1 hp.cr.2 hro2 hcr.1 hcr.2 ?_
  by_cases h : zcellAt (pl 0 1) (pl 0 2) x y = -1
  · rw [if_neg (fun q => q.2 h)]
    exact k0 h
  · rw [if_pos]
    · exact k1 h
    · refine ⟨?_, h⟩
      rw [hro, if_neg]
      intro e
      apply h
      unfold zcellAt
      rw [if_neg (by omega)]
theorem t_onward {D : Nat} {Q : Int → zF → Prop} {mem : zF} (hR : zall rf zRK = true) (hD : 2 ≤ D) (hp : RP mem pl) (hW : WP pl) {c w : Int} (hc : 0 ≤ c ∧ c < 64) (hw : 0 ≤ w ∧ w < 4) (k : Q (znext (pl 0 1) (pl 0 2) c w) mem) : Ci X D 255 [(2, 261), (0, c), (0, w)] rf mem Q := by
  obtain ⟨d, rfl⟩ : ∃ d, D = d + 1 := ⟨D - 1, by omega⟩
  unfold znext at k
  rw [if_pos (by omega)] at k
  have g3 : ∀ x y, x = c % 8 + zdx w → y = zdy w → L_m_onward_47 X d rf Q mem x (c / 8) y := by
    intro x y ex ey
    have h1 := zdx_rng w
    have h2 := zdy_rng w
    refine s_m_onward_47 hR (t_cell hR (by omega) hp hW (by omega) (by omega) (fun q => ?_) (fun q => ?_))
    · refine ⟨by decide, fun q => absurd q (by decide), fun _ => ?_⟩
      rw [ex, ey] at q ⊢
      have e : zcellAt (pl 0 1) (pl 0 2) (c % 8 + zdx w) (c / 8 + zdy w) = 8 * (c / 8 + zdy w) + (c % 8 + zdx w) := by
        unfold zcellAt at q ⊢
        split
        · rfl
        · next q2 => rw [if_neg q2] at q; exact absurd rfl q
      rwa [e] at k
    · refine ⟨by decide, fun _ => ?_, fun q => absurd rfl q⟩
      rw [ex, ey] at q
      rwa [q] at k
  have g2 : ∀ x, x = zdx w → L_m_onward_23 X d rf Q mem c w (c.tmod 8) x := by
    intro x ex
    refine s_m_onward_23 hR ?_
    rw [tmod8 hc.1, tdiv8 hc.1]
    refine ⟨by omega, by omega, fun q => ⟨by omega, fun q2 => g3 _ _ (by rw [ex]) ?_, fun q2 => g3 _ _ (by rw [ex]) ?_⟩, fun q => g3 _ _ (by rw [ex]) ?_⟩
    · unfold zdy
      rw [if_neg q, if_neg q2]
    · unfold zdy
      rw [if_neg q, if_pos q2]
    · unfold zdy
      rw [if_pos q]
  refine s_m_onward hR ⟨by omega, by omega, fun q => ⟨by omega, fun q2 => g2 _ ?_, fun q2 => g2 _ ?_⟩, fun q => g2 _ ?_⟩
  · unfold zdx
    rw [if_neg q, if_neg q2]
  · unfold zdx
    rw [if_neg q, if_pos q2]
  · unfold zdx
    rw [if_pos q]
theorem t_blown_18 {d : Nat} {Q : Int → zF → Prop} {mem : zF} (hR : zall rf zRK = true) (hD : 2 ≤ d) (hp : RP mem pl) (hW : WP pl) {k c : Int} (hk : 0 ≤ k ∧ k < pl 1 0) (hc : inI c) : ∀ (n : Nat) {a j : Int}, 0 ≤ j → j + n = pl 5 k.toNat + 1 → (a = -1 ∨ zic (pl 0 1) (pl 0 2) a) → (zbl (pl 0 1) (pl 0 2) (pl 4 k.toNat) c a n = true → Q 1 mem) → (zbl (pl 0 1) (pl 0 2) (pl 4 k.toNat) c a n = false → Q 0 mem) → L_m_isBlown_18 X d rf Q mem k c a j
  | n, a, j, h0, hj, ha, k1, k0 => by
    have hn := hW.n
    have hb := hp.bank
    have hcr := hW.cr
    have hdo := hW.door hk.1 hk.2
    have hdr := hp.door hk.1 hk.2
    refine s_m_isBlown_18 hR ⟨by omega, ?_⟩
    rw [hdr.2.2, hdr.2.1]
    refine ⟨by omega, fun q => ?_, fun q => ⟨by unfold zic at ha; omega, fun q2 => ?_, fun q2 => ⟨by unfold zic at ha; omega, fun q3 => ⟨by omega, ?_⟩, fun q3 => ?_⟩⟩⟩
    · have e : n = 0 := by omega
      subst e
      exact k0 rfl
    · obtain ⟨m, rfl⟩ : ∃ m, n = m + 1 := ⟨n - 1, by omega⟩
      refine k0 ?_
      unfold zbl
      rw [if_pos q2]
    · obtain ⟨m, rfl⟩ : ∃ m, n = m + 1 := ⟨n - 1, by omega⟩
      unfold zbl at k1 k0
      rw [if_neg q2, if_neg q3] at k1 k0
      refine t_onward hR hD hp hW (by unfold zic at ha; omega) (by omega) ?_
      exact t_blown_18 hR hD hp hW hk hc m (by omega) (by omega) (znext_rng hcr.1.2 hcr.2.2) k1 k0
    · obtain ⟨m, rfl⟩ : ∃ m, n = m + 1 := ⟨n - 1, by omega⟩
      refine k1 ?_
      unfold zbl
      rw [if_neg q2, if_pos q3]
theorem t_isBlown {D : Nat} {Q : Int → zF → Prop} {mem : zF} (hR : zall rf zRK = true) (hD : 3 ≤ D) (hp : RP mem pl) (hW : WP pl) {k c : Int} (hk : 0 ≤ k ∧ k < pl 1 0) (hc : inI c) (k1 : zblown pl k c = true → Q 1 mem) (k0 : zblown pl k c = false → Q 0 mem) : Ci X D 256 [(2, 261), (0, k), (0, c)] rf mem Q := by
  obtain ⟨d, rfl⟩ : ∃ d, D = d + 1 := ⟨D - 1, by omega⟩
  have hn := hW.n
  have hb := hp.bank
  have hdo := hW.door hk.1 hk.2
  refine s_m_isBlown hR ⟨by omega, ?_⟩
  rw [(hp.door hk.1 hk.2).1]
  exact t_blown_18 hR (by omega) hp hW hk hc (pl 5 k.toNat + 1).toNat (by omega) (by omega) (Or.inr hdo.1) k1 k0
theorem t_draught_2 {d : Nat} {Q : Int → zF → Prop} {mem : zF} (hR : zall rf zRK = true) (hD : 3 ≤ d) (hp : RP mem pl) (hW : WP pl) {v c op : Int} (hv : 0 ≤ v ∧ v < 22) (hop : mem 295 v.toNat = op) (ho : 0 ≤ op ∧ op < 64) (hc : inI c) : ∀ (n : Nat) {b : Int}, 0 ≤ b → b + n = pl 1 0 → Q (if aFd (fun k => zbit op k = 1 && zblown pl k c) b n = -1 then -1 else pl 4 (aFd (fun k => zbit op k = 1 && zblown pl k c) b n).toNat) mem → L_m_draughtIn_2 X d rf Q mem v c b
  | 0, b, h0, hb, kk => by
    have hn := hW.n
    refine s_m_draughtIn_2 hR ⟨hp.bank, ?_⟩
    rw [hp.n.1]
    refine ⟨by omega, fun _ => ?_, fun q => absurd q (by omega)⟩
    unfold aFd at kk
    rwa [if_pos rfl] at kk
  | n + 1, b, h0, hb, kk => by
    have hn := hW.n
    have hbk := hp.bank
    refine s_m_draughtIn_2 hR ⟨hp.bank, ?_⟩
    rw [hp.n.1, hop]
    refine ⟨by omega, fun q => absurd q (by omega), fun _ => ⟨hv, t_has2 hR ho (by omega) ?_⟩⟩
    have h01 := zbit_01 ho (k := b) (by omega)
    refine ⟨by omega, fun q => ?_, fun q => ?_⟩
    · rw [aFd_f (by simp [q])] at kk
      exact t_draught_2 hR hD hp hW hv hop ho hc n (by omega) (by omega) kk
    · have q1 : zbit op b = 1 := by omega
      refine t_isBlown hR hD hp hW (by omega) hc (fun q2 => ?_) (fun q2 => ?_)
      · refine ⟨by decide, fun q => absurd q (by decide), fun _ => ⟨by omega, ?_⟩⟩
        rw [(hp.door h0 (by omega)).2.1]
        rw [aFd_t (by simp [q1, q2]), if_neg (by omega)] at kk
        exact kk
      · refine ⟨by decide, fun _ => ?_, fun q => absurd rfl q⟩
        rw [aFd_f (by simp [q2])] at kk
        exact t_draught_2 hR hD hp hW hv hop ho hc n (by omega) (by omega) kk
theorem t_draughtIn {D : Nat} {Q : Int → zF → Prop} {mem : zF} (hR : zall rf zRK = true) (hD : 4 ≤ D) (hp : RP mem pl) (hW : WP pl) {v c op : Int} (hv : 0 ≤ v ∧ v < 22) (hop : mem 295 v.toNat = op) (ho : 0 ≤ op ∧ op < 64) (hc : inI c) (kk : Q (zwind pl op c) mem) : Ci X D 257 [(2, 261), (0, v), (0, c)] rf mem Q := by
  obtain ⟨d, rfl⟩ : ∃ d, D = d + 1 := ⟨D - 1, by omega⟩
  have hn := hW.n
  exact s_m_draughtIn hR (t_draught_2 hR (by omega) hp hW hv hop ho hc (pl 1 0).toNat (by omega) (by omega) kk)
theorem t_heirIn_2 {d : Nat} {Q : Int → zF → Prop} {mem sc : zF} (hR : zall rf zRK = true) (hp : RP mem pl) (hP : WP pl) (hW : WS pl sc) {v c : Int} (hv : 0 ≤ v ∧ v < 22) (hs : RV mem v pl sc) (hc : inI c) (hc1 : c ≠ -1) : ∀ (n : Nat) {b : Int}, 0 ≤ b → b + n = 6 → Q (aFd (fun k => decide (sc 1 k.toNat = c ∧ c ≠ -1)) b n) mem → L_m_heirIn_2 X d rf Q mem v c b
  | n, b, h0, hb, kk => by
    have hn := hP.n
    refine s_m_heirIn_2 hR ⟨hp.bank, ?_⟩
    rw [hp.n.2.1]
    refine ⟨by omega, fun q => ?_, fun q => ⟨by omega, ?_⟩⟩
    · rw [aFd_no] at kk
      · exact kk
      · intro k k1 k2
        have := (hW.heir (k := k) (by omega)).2 (by omega)
        rw [this]
        simp only [decide_eq_false_iff_not]
        rintro ⟨q1, q2⟩
        exact q2 q1.symm
    · obtain ⟨m, rfl⟩ : ∃ m, n = m + 1 := ⟨n - 1, by omega⟩
      rw [hs.2.1 b h0 (by omega)]
      have hh := hW.heirI (k := b) (by omega)
      refine ⟨by omega, fun q2 => ?_, fun q2 => ?_⟩
      · rw [aFd_f (by simp [q2])] at kk
        exact t_heirIn_2 hR hp hP hW hv hs hc hc1 m (by omega) (by omega) kk
      · rw [aFd_t (by simp [q2, hc1])] at kk
        exact kk
theorem t_heirIn {d : Nat} {Q : Int → zF → Prop} {mem sc : zF} (hR : zall rf zRK = true) (hp : RP mem pl) (hP : WP pl) (hW : WS pl sc) {v c : Int} (hv : 0 ≤ v ∧ v < 22) (hs : RV mem v pl sc) (hc : inI c) (hc1 : c ≠ -1) (kk : Q (aHeirIn sc c) mem) : Ci X d 259 [(2, 261), (0, v), (0, c)] rf mem Q :=
  s_m_heirIn hR (t_heirIn_2 hR hp hP hW hv hs hc hc1 6 (by omega) (by omega) kk)
theorem t_floatsV {d : Nat} {Q : Int → zF → Prop} {mem sc : zF} (hR : zall rf zRK = true) (hP : WP pl) (hW : WS pl sc) {v b : Int} (hv : 0 ≤ v ∧ v < 22) (hs : RV mem v pl sc) (hb : 0 ≤ b ∧ b < pl 1 2) (k1 : sc 2 b.toNat ≠ -1 → Q 1 mem) (k0 : sc 2 b.toNat = -1 → Q 0 mem) : Ci X d 258 [(2, 261), (0, v), (0, b)] rf mem Q := by
  have hn := hP.n
  have e : mem 297 (6 * v + b).toNat = sc 2 b.toNat := hs.b 2 (by decide) (by decide) hb.1 hb.2
  have hbI := hW.bubI (k := b) (by omega)
  refine t_floats hR (by omega) (by omega) ?_
  rw [e]
  by_cases q : sc 2 b.toNat = -1
  · rw [if_pos q]; exact k0 q
  · rw [if_neg q]; exact k1 q
theorem t_drifts_2 {d : Nat} {Q : zF → Prop} (hR : zall rf zRK = true) (hD : 4 ≤ d) (hP : WP pl) {v br op : Int} (hv : 0 ≤ v ∧ v < 22) (hbr : -1 ≤ br ∧ br < 4) : ∀ (n : Nat) {b : Int} {mem sc : zF}, 0 ≤ b → b + n = 6 → RP mem pl → RV mem v pl sc → WS pl sc → sc 0 2 = op → (∀ k : Int, 0 ≤ k → k < b → k < pl 1 2 → mem 307 k.toNat = sc 9 k.toNat) → (∀ mem', RV mem' v pl (aIt (aDrift pl (zwind pl op) br) b n sc) → RD mem' pl (aIt (aDrift pl (zwind pl op) br) b n sc) → R7 v mem mem' → Q mem') → L_m_drifts_2 X d rf Q mem v br b
  | n, b, mem, sc, h0, hb, hp, hs, hW, hop, hd, kk => by
    have hn := hP.n
    have hcr := hP.cr
    have hwr := zwind_rng hP op (sc 2 b.toNat)
    refine s_m_drifts_2 hR ⟨hp.bank, ?_⟩
    rw [hp.n.2.2.1]
    refine ⟨by omega, fun q => ?_, fun q => ⟨by omega, ?_⟩⟩
    · have ee := aDrift_end (pl := pl) (w := zwind pl op) (br := br) n b sc h0 (fun k k1 k2 => hW.bubN (by omega) (by omega))
      refine kk mem (hs.same (fun s hs => by funext k; exact ee s k (Or.inl (by omega)))) (fun k k1 k2 => ?_) R7.rfl
      rw [ee 9 k.toNat (Or.inr (by omega))]
      exact hd k k1 (by omega) k2
    · obtain ⟨m, rfl⟩ : ∃ m, n = m + 1 := ⟨n - 1, by omega⟩
      have hbI := hW.bubI (k := b) (by omega)
      have hbu := hW.bub (k := b) (by omega)
      have hs1 : RV (zup mem 307 b.toNat 0) v pl sc := hs.fr (fun a a1 a2 => zup_row _ _ _ (by omega))
      have hp1 : RP (zup mem 307 b.toNat 0) pl := hp.fr (by rw [zup_row _ _ _ (by decide)]) (by rw [zup_row _ _ _ (by decide)]) (fun a a1 a2 => zup_row _ _ _ (by omega))
      have hF1 : R7 v mem (zup mem 307 b.toNat 0) := R7.rfl.sc (Or.inr (Or.inr rfl)) (fun i hi => zup_row _ _ _ hi)
      have hd1 : ∀ k : Int, 0 ≤ k → k < b + 1 → k < pl 1 2 → (zup mem 307 b.toNat 0) 307 k.toNat = (zup sc 9 b.toNat 0) 9 k.toNat := by
        intro k k1 k2 k3
        rw [zupk h0 k1, zupk h0 k1]
        by_cases e : k = b
        · rw [if_pos ⟨rfl, e⟩, if_pos ⟨rfl, e⟩]
        · rw [if_neg (fun q => e q.2), if_neg (fun q => e q.2)]
          exact hd k k1 (by omega) k3
      unfold aIt at kk
      have hW2 := hW.drift hP (zwind pl op) br (b := b) (by omega)
      have stay : aDrift pl (zwind pl op) br b sc = zup sc 9 b.toNat 0 → L_m_drifts_2 X d rf Q (zup mem 307 b.toNat 0) v br (b + 1) := by
        intro e
        rw [e] at kk hW2
        refine t_drifts_2 (op := op) hR hD hP hv hbr m (by omega) (by omega) hp1 (hs1.same (sc' := zup sc 9 b.toNat 0) (fun s hs => zup_row _ _ _ (by omega))) hW2 (by rw [zup_row _ _ _ (by decide)]; exact hop) hd1 ?_
        intro m2 g1 g2 g3
        exact kk m2 g1 g2 (hF1.trans g3)
      refine t_floatsV hR hP hW hv hs1 ⟨h0, by omega⟩ (fun q2 => ?_) (fun q2 => ?_)
      · refine ⟨by decide, fun _ => ⟨by omega, ?_⟩, fun q => absurd q (by decide)⟩
        have e2 : (zup mem 307 b.toNat 0) 297 (6 * v + b).toNat = sc 2 b.toNat := hs1.b 2 (by decide) (by decide) h0 (by omega)
        rw [e2]
        refine t_draughtIn hR (by omega) hp1 hP hv hs1.1.2.2.1 (by have := hW.opn; omega) (by omega) ?_
        rw [hop]
        have g : ∀ x, x = (if zwind pl op (sc 2 b.toNat) = -1 then br else zwind pl op (sc 2 b.toNat)) → L_m_drifts_65 X d rf Q (zup mem 307 b.toNat 0) v br b (sc 2 b.toNat) x := by
          intro x hx
          have hxr : -1 ≤ x ∧ x < 4 := by
            rw [hx]
            split <;> omega
          have g83 : L_m_drifts_83 X d rf Q (zup mem 307 b.toNat 0) v br b (znext (pl 0 1) (pl 0 2) (sc 2 b.toNat) x) := by
            have hnr := znext_rng (C := pl 0 1) (R := pl 0 2) (c := sc 2 b.toNat) (w := x) hcr.1.2 hcr.2.2
            refine s_m_drifts_83 hR ⟨by unfold zic at hnr; omega, fun q3 => ⟨by omega, by omega, ?_⟩, fun q3 => stay ?_⟩
            · have ea : aDrift pl (zwind pl op) br b sc = zup (zup sc 9 b.toNat 1) 2 b.toNat (znext (pl 0 1) (pl 0 2) (sc 2 b.toNat) x) := by
                unfold aDrift
                rw [← hx, if_neg q3]
              rw [ea] at kk hW2
              have hs3 : RV (zup (zup (zup mem 307 b.toNat 0) 297 (6 * v + b).toNat (znext (pl 0 1) (pl 0 2) (sc 2 b.toNat) x)) 307 b.toNat 1) v pl (zup (zup sc 9 b.toNat 1) 2 b.toNat (znext (pl 0 1) (pl 0 2) (sc 2 b.toNat) x)) :=
                ((hs1.same (sc' := zup sc 9 b.toNat 1) (fun s hs => zup_row _ _ _ (by omega))).up hv.1 2 (by decide) (by decide) h0 _).fr (fun a a1 a2 => zup_row _ _ _ (by omega))
              refine t_drifts_2 (op := op) hR hD hP hv hbr m (by omega) (by omega) ?_ hs3 hW2 (by rw [zup_row _ _ _ (by decide), zup_row _ _ _ (by decide)]; exact hop) ?_ ?_
              · exact hp1.fr (by rw [zup_row _ _ _ (by decide), zup_row _ _ _ (by decide)]) (by rw [zup_row _ _ _ (by decide), zup_row _ _ _ (by decide)]) (fun a a1 a2 => by rw [zup_row _ _ _ (by omega), zup_row _ _ _ (by omega)])
              · intro k k1 k2 k3
                rw [zupk h0 k1, zup_row _ _ _ (show (307 : Nat) ≠ 297 by decide), zup_row _ _ _ (show (9 : Nat) ≠ 2 by decide), zupk h0 k1, zupk h0 k1]
                by_cases e : k = b
                · rw [if_pos ⟨rfl, e⟩, if_pos ⟨rfl, e⟩]
                · rw [if_neg (fun q => e q.2), if_neg (fun q => e q.2), if_neg (fun q => e q.2)]
                  exact hd k k1 (by omega) k3
              · intro m2 g1 g2 g3
                refine kk m2 g1 g2 (R7.trans ?_ g3)
                refine R7.sc (R7.up hF1 ?_) (Or.inr (Or.inr rfl)) (fun i hi => zup_row _ _ _ hi)
                unfold zofv
                omega
            · unfold aDrift
              rw [← hx, if_pos q3]
          refine s_m_drifts_65 hR ⟨by omega, fun q3 => ?_, fun q3 => ?_⟩
          · exact t_onward hR (by omega) hp1 hP (by omega) (by omega) g83
          · have e : znext (pl 0 1) (pl 0 2) (sc 2 b.toNat) x = -1 := by
              unfold znext
              rw [if_neg (by omega)]
            rw [e] at g83
            exact g83
        refine ⟨by omega, fun q => g _ (by rw [if_neg q]), fun q => g _ (by rw [if_pos q])⟩
      · refine ⟨by decide, fun q => absurd rfl q, fun _ => stay ?_⟩
        unfold aDrift
        rw [if_pos]
        unfold znext
        rw [if_neg (by omega)]
end REF
