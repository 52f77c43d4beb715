section ZWM
variable {X : zX} {d M pc pc' : Nat} {ls r : List zV} {ty : List zT} {rf mem : zF} {Q : Option zV → zS → Prop} {len a b c : Nat}
theorem w_iald {q n j : Nat} {i x : Int} (hc : zcod M pc = some (.iaload, 1, a, b, c)) (hn : c ≠ 101 ∧ c ≠ 102) (hp : pc + 1 = pc') (hq : 0 ≤ x ∧ x.toNat = q) (ht : ty[q]? = some (1, n)) (h : 0 ≤ i ∧ i < n) (hj : i.toNat = j) (k : zW X d M pc' ls ((0, mem q j) :: r) (ty, rf, mem) Q) : zW X d M pc ls ((0, i) :: (2, x) :: r) (ty, rf, mem) Q := by
  subst hp
  refine zW.step _ _ _ _ hc hn.1 hn.2 ?_ k
  unfold zstep
  obtain ⟨q1, rfl⟩ := hq
  subst hj
  simp only [zlod, zI, zR, if_true, true_and, q1, ht, h, and_self, true_or, or_true, or_self]
theorem w_lald {q n j : Nat} {i x : Int} (hc : zcod M pc = some (.laload, 1, a, b, c)) (hn : c ≠ 101 ∧ c ≠ 102) (hp : pc + 1 = pc') (hq : 0 ≤ x ∧ x.toNat = q) (ht : ty[q]? = some (2, n)) (h : 0 ≤ i ∧ i < n) (hj : i.toNat = j) (k : zW X d M pc' ls ((1, mem q j) :: r) (ty, rf, mem) Q) : zW X d M pc ls ((0, i) :: (2, x) :: r) (ty, rf, mem) Q := by
  subst hp
  refine zW.step _ _ _ _ hc hn.1 hn.2 ?_ k
  unfold zstep
  obtain ⟨q1, rfl⟩ := hq
  subst hj
  simp only [zlod, zI, zR, if_true, true_and, q1, ht, h, and_self, true_or, or_true, or_self]
theorem w_bald {q n j : Nat} {i x : Int} (hc : zcod M pc = some (.baload, 1, a, b, c)) (hn : c ≠ 101 ∧ c ≠ 102) (hp : pc + 1 = pc') (hq : 0 ≤ x ∧ x.toNat = q) (ht : ty[q]? = some (3, n)) (h : 0 ≤ i ∧ i < n) (hj : i.toNat = j) (k : zW X d M pc' ls ((0, mem q j) :: r) (ty, rf, mem) Q) : zW X d M pc ls ((0, i) :: (2, x) :: r) (ty, rf, mem) Q := by
  subst hp
  refine zW.step _ _ _ _ hc hn.1 hn.2 ?_ k
  unfold zstep
  obtain ⟨q1, rfl⟩ := hq
  subst hj
  simp only [zlod, zI, zR, if_true, true_and, q1, ht, h, and_self, true_or, or_true, or_self]
theorem w_zald {q n j : Nat} {i x : Int} (hc : zcod M pc = some (.baload, 1, a, b, c)) (hn : c ≠ 101 ∧ c ≠ 102) (hp : pc + 1 = pc') (hq : 0 ≤ x ∧ x.toNat = q) (ht : ty[q]? = some (4, n)) (h : 0 ≤ i ∧ i < n) (hj : i.toNat = j) (k : zW X d M pc' ls ((0, mem q j) :: r) (ty, rf, mem) Q) : zW X d M pc ls ((0, i) :: (2, x) :: r) (ty, rf, mem) Q := by
  subst hp
  refine zW.step _ _ _ _ hc hn.1 hn.2 ?_ k
  unfold zstep
  obtain ⟨q1, rfl⟩ := hq
  subst hj
  simp only [zlod, zI, zR, if_true, true_and, q1, ht, h, and_self, true_or, or_true, or_self]
theorem w_aald {q n j : Nat} {i x v : Int} (hc : zcod M pc = some (.aaload, 1, a, b, c)) (hn : c ≠ 101 ∧ c ≠ 102) (hp : pc + 1 = pc') (hq : 0 ≤ x ∧ x.toNat = q) (ht : ty[q]? = some (5, n)) (h : 0 ≤ i ∧ i < n) (hj : i.toNat = j) (hv : rf q j = v) (k : zW X d M pc' ls ((2, v) :: r) (ty, rf, mem) Q) : zW X d M pc ls ((0, i) :: (2, x) :: r) (ty, rf, mem) Q := by
  subst hp
  refine zW.step _ _ _ _ hc hn.1 hn.2 ?_ k
  unfold zstep
  obtain ⟨q1, rfl⟩ := hq
  subst hj
  subst hv
  simp only [zI, zR, if_true, true_and, q1, ht, h, and_self]
theorem w_ald_col {j : Nat} {i : Int} (hc : zcod M pc = some (.iaload, 1, a, b, c)) (hn : c ≠ 101 ∧ c ≠ 102) (hp : pc + 1 = pc') (h : 0 ≤ i ∧ i < 4) (hj : i.toNat = j) (k : zW X d M pc' ls ((0, zom X 3 j) :: r) (ty, rf, mem) Q) : zW X d M pc ls ((0, i) :: (3, 3) :: r) (ty, rf, mem) Q := by
  subst hp
  refine zW.step _ _ _ _ hc hn.1 hn.2 ?_ k
  unfold zstep
  subst hj
  have h4 : i < ((zol X 3 : Nat) : Int) := h.2
  have e : ((3 : Int)).toNat = 3 := rfl
  simp [zlod, zI, zR, e, h.1, h4]
theorem w_ald_row {j : Nat} {i : Int} (hc : zcod M pc = some (.iaload, 1, a, b, c)) (hn : c ≠ 101 ∧ c ≠ 102) (hp : pc + 1 = pc') (h : 0 ≤ i ∧ i < 4) (hj : i.toNat = j) (k : zW X d M pc' ls ((0, zom X 4 j) :: r) (ty, rf, mem) Q) : zW X d M pc ls ((0, i) :: (3, 4) :: r) (ty, rf, mem) Q := by
  subst hp
  refine zW.step _ _ _ _ hc hn.1 hn.2 ?_ k
  unfold zstep
  subst hj
  have h4 : i < ((zol X 4 : Nat) : Int) := h.2
  have e : ((4 : Int)).toNat = 4 := rfl
  simp [zlod, zI, zR, e, h.1, h4]
theorem w_sld {j : Nat} {i : Int} (hc : zcod M pc = some (.iaload, 1, a, b, c)) (hn : c ≠ 101 ∧ c ≠ 102) (hp : pc + 1 = pc') (h : 0 ≤ i ∧ i < X.1) (hj : i.toNat = j) (k : zW X d M pc' ls ((0, X.2 j) :: r) (ty, rf, mem) Q) : zW X d M pc ls ((0, i) :: (3, 0) :: r) (ty, rf, mem) Q := by
  subst hp
  refine zW.step _ _ _ _ hc hn.1 hn.2 ?_ k
  unfold zstep
  subst hj
  have h4 : i < ((zol X 0 : Nat) : Int) := h.2
  simp [zlod, zI, zR, h.1, h4, zom]
theorem w_iast {q n j : Nat} {i x v : Int} (hc : zcod M pc = some (.iastore, 1, a, b, c)) (hn : c ≠ 101 ∧ c ≠ 102) (hp : pc + 1 = pc') (hq : 0 ≤ x ∧ x.toNat = q) (ht : ty[q]? = some (1, n)) (h : 0 ≤ i ∧ i < n) (hj : i.toNat = j) (k : zW X d M pc' ls r (ty, rf, zup mem q j v) Q) : zW X d M pc ls ((0, v) :: (0, i) :: (2, x) :: r) (ty, rf, mem) Q := by
  subst hp
  refine zW.step _ _ _ _ hc hn.1 hn.2 ?_ k
  unfold zstep
  obtain ⟨q1, rfl⟩ := hq
  subst hj
  simp only [zsto, zI, zL, zR, if_true, true_and, q1, ht, h, and_self]
theorem w_last {q n j : Nat} {i x v : Int} (hc : zcod M pc = some (.lastore, 1, a, b, c)) (hn : c ≠ 101 ∧ c ≠ 102) (hp : pc + 1 = pc') (hq : 0 ≤ x ∧ x.toNat = q) (ht : ty[q]? = some (2, n)) (h : 0 ≤ i ∧ i < n) (hj : i.toNat = j) (k : zW X d M pc' ls r (ty, rf, zup mem q j v) Q) : zW X d M pc ls ((1, v) :: (0, i) :: (2, x) :: r) (ty, rf, mem) Q := by
  subst hp
  refine zW.step _ _ _ _ hc hn.1 hn.2 ?_ k
  unfold zstep
  obtain ⟨q1, rfl⟩ := hq
  subst hj
  simp only [zsto, zI, zL, zR, if_true, true_and, q1, ht, h, and_self]
theorem w_bast {q n j : Nat} {i x v : Int} (hc : zcod M pc = some (.bastore, 1, a, b, c)) (hn : c ≠ 101 ∧ c ≠ 102) (hp : pc + 1 = pc') (hq : 0 ≤ x ∧ x.toNat = q) (ht : ty[q]? = some (3, n)) (h : 0 ≤ i ∧ i < n) (hj : i.toNat = j) (ha : a = 3) (hv : -128 ≤ v ∧ v < 128) (k : zW X d M pc' ls r (ty, rf, zup mem q j v) Q) : zW X d M pc ls ((0, v) :: (0, i) :: (2, x) :: r) (ty, rf, mem) Q := by
  subst hp
  refine zW.step _ _ _ _ hc hn.1 hn.2 ?_ k
  unfold zstep
  obtain ⟨q1, rfl⟩ := hq
  subst hj
  simp only [zsto, zI, zL, zR, if_true, true_and, q1, ht, h, and_self, ha, hv]
theorem w_zast {q n j : Nat} {i x v : Int} (hc : zcod M pc = some (.bastore, 1, a, b, c)) (hn : c ≠ 101 ∧ c ≠ 102) (hp : pc + 1 = pc') (hq : 0 ≤ x ∧ x.toNat = q) (ht : ty[q]? = some (4, n)) (h : 0 ≤ i ∧ i < n) (hj : i.toNat = j) (ha : a ≠ 3) (hv : v = 0 ∨ v = 1) (k : zW X d M pc' ls r (ty, rf, zup mem q j v) Q) : zW X d M pc ls ((0, v) :: (0, i) :: (2, x) :: r) (ty, rf, mem) Q := by
  subst hp
  refine zW.step _ _ _ _ hc hn.1 hn.2 ?_ k
  unfold zstep
  obtain ⟨q1, rfl⟩ := hq
  subst hj
  simp only [zsto, zI, zL, zR, if_true, true_and, q1, ht, h, and_self, ha, if_false, hv]
theorem w_alen {q n t : Nat} {x : Int} (hc : zcod M pc = some (.arraylength, 1, a, b, c)) (hn : c ≠ 101 ∧ c ≠ 102) (hp : pc + 1 = pc') (hq : 0 ≤ x ∧ x.toNat = q) (ht : ty[q]? = some (t, n)) (h : 1 ≤ t ∧ t ≤ 5) (k : zW X d M pc' ls ((0, (n : Int)) :: r) (ty, rf, mem) Q) : zW X d M pc ls ((2, x) :: r) (ty, rf, mem) Q := by
  subst hp
  refine zW.step _ _ _ _ hc hn.1 hn.2 ?_ k
  unfold zstep
  obtain ⟨q1, rfl⟩ := hq
  simp only [zR, true_and, q1, if_true, ht, h, and_self]
theorem w_slen  (hc : zcod M pc = some (.arraylength, 1, a, b, c)) (hn : c ≠ 101 ∧ c ≠ 102) (hp : pc + 1 = pc')  (k : zW X d M pc' ls ((0, (X.1 : Int)) :: r) (ty, rf, mem) Q) : zW X d M pc ls ((3, 0) :: r) (ty, rf, mem) Q := by
  subst hp
  refine zW.step _ _ _ _ hc hn.1 hn.2 ?_ k
  unfold zstep
  simp [zR, zol]
theorem w_getI {idx q : Nat} {x : Int} (hc : zcod M pc = some (.getfield idx, 3, a, b, c)) (hn : c ≠ 101 ∧ c ≠ 102) (hp : pc + 3 = pc') (hq : 0 ≤ x ∧ x.toNat = q) (ht : ty[q]? = some (0, a)) (hcc : c = 0 ∨ c = 3) (k : zW X d M pc' ls ((0, mem q b) :: r) (ty, rf, mem) Q) : zW X d M pc ls ((2, x) :: r) (ty, rf, mem) Q := by
  subst hp
  refine zW.step _ _ _ _ hc hn.1 hn.2 ?_ k
  unfold zstep
  obtain ⟨q1, rfl⟩ := hq
  skip
  have h3 : c ≤ 3 := by omega
  simp only [zR, true_and, q1, if_true, ht, h3, and_self]
  rcases hcc with rfl | rfl <;> rfl
theorem w_getJ {idx q : Nat} {x : Int} (hc : zcod M pc = some (.getfield idx, 3, a, b, c)) (hn : c ≠ 101 ∧ c ≠ 102) (hp : pc + 3 = pc') (hq : 0 ≤ x ∧ x.toNat = q) (ht : ty[q]? = some (0, a)) (hcc : c = 1) (k : zW X d M pc' ls ((1, mem q b) :: r) (ty, rf, mem) Q) : zW X d M pc ls ((2, x) :: r) (ty, rf, mem) Q := by
  subst hp
  refine zW.step _ _ _ _ hc hn.1 hn.2 ?_ k
  unfold zstep
  obtain ⟨q1, rfl⟩ := hq
  skip
  have h3 : c ≤ 3 := by omega
  simp only [zR, true_and, q1, if_true, ht, h3, and_self]
  subst hcc; rfl
theorem w_getL {idx q : Nat} {x : Int} {v : Int} (hc : zcod M pc = some (.getfield idx, 3, a, b, c)) (hn : c ≠ 101 ∧ c ≠ 102) (hp : pc + 3 = pc') (hq : 0 ≤ x ∧ x.toNat = q) (ht : ty[q]? = some (0, a)) (hcc : c = 2) (hv : rf q b = v) (k : zW X d M pc' ls ((2, v) :: r) (ty, rf, mem) Q) : zW X d M pc ls ((2, x) :: r) (ty, rf, mem) Q := by
  subst hp
  refine zW.step _ _ _ _ hc hn.1 hn.2 ?_ k
  unfold zstep
  obtain ⟨q1, rfl⟩ := hq
  subst hv
  have h3 : c ≤ 3 := by omega
  simp only [zR, true_and, q1, if_true, ht, h3, and_self]
  subst hcc; rfl
theorem w_putI {idx q : Nat} {x v : Int} (hc : zcod M pc = some (.putfield idx, 3, a, b, c)) (hn : c ≠ 101 ∧ c ≠ 102) (hp : pc + 3 = pc') (hq : 0 ≤ x ∧ x.toNat = q) (ht : ty[q]? = some (0, a)) (hcc : c = 0 ∨ c = 10) (k : zW X d M pc' ls r (ty, rf, zup mem q b v) Q) : zW X d M pc ls ((0, v) :: (2, x) :: r) (ty, rf, mem) Q := by
  subst hp
  refine zW.step _ _ _ _ hc hn.1 hn.2 ?_ k
  unfold zstep
  obtain ⟨q1, rfl⟩ := hq
  rcases hcc with rfl | rfl <;> simp [zI, zL, zR, q1, ht]
theorem w_putZ {idx q : Nat} {x v : Int} (hc : zcod M pc = some (.putfield idx, 3, a, b, c)) (hn : c ≠ 101 ∧ c ≠ 102) (hp : pc + 3 = pc') (hq : 0 ≤ x ∧ x.toNat = q) (ht : ty[q]? = some (0, a)) (hcc : c = 3 ∨ c = 13) (hv : v = 0 ∨ v = 1) (k : zW X d M pc' ls r (ty, rf, zup mem q b v) Q) : zW X d M pc ls ((0, v) :: (2, x) :: r) (ty, rf, mem) Q := by
  subst hp
  refine zW.step _ _ _ _ hc hn.1 hn.2 ?_ k
  unfold zstep
  obtain ⟨q1, rfl⟩ := hq
  rcases hcc with rfl | rfl <;> simp [zI, zL, zR, q1, ht, hv]
theorem w_putJ {idx q : Nat} {x v : Int} (hc : zcod M pc = some (.putfield idx, 3, a, b, c)) (hn : c ≠ 101 ∧ c ≠ 102) (hp : pc + 3 = pc') (hq : 0 ≤ x ∧ x.toNat = q) (ht : ty[q]? = some (0, a)) (hcc : c = 1 ∨ c = 11) (k : zW X d M pc' ls r (ty, rf, zup mem q b v) Q) : zW X d M pc ls ((1, v) :: (2, x) :: r) (ty, rf, mem) Q := by
  subst hp
  refine zW.step _ _ _ _ hc hn.1 hn.2 ?_ k
  unfold zstep
  obtain ⟨q1, rfl⟩ := hq
  rcases hcc with rfl | rfl <;> simp [zI, zL, zR, q1, ht]
theorem w_putL {idx q v : Nat} {x y : Int} (hc : zcod M pc = some (.putfield idx, 3, a, b, c)) (hn : c ≠ 101 ∧ c ≠ 102) (hp : pc + 3 = pc') (hq : 0 ≤ x ∧ x.toNat = q) (hy : 0 ≤ y ∧ y.toNat = v) (ht : ty[q]? = some (0, a)) (hcc : c = 2 ∨ c = 12) (k : zW X d M pc' ls r (ty, zup rf q b (v : Int), mem) Q) : zW X d M pc ls ((2, y) :: (2, x) :: r) (ty, rf, mem) Q := by
  subst hp
  refine zW.step _ _ _ _ hc hn.1 hn.2 ?_ k
  unfold zstep
  obtain ⟨q1, rfl⟩ := hq
  obtain ⟨q2, rfl⟩ := hy
  rcases hcc with rfl | rfl <;> simp [zR, q1, q2, ht]
theorem w_idiv {x y : Int} (hc : zcod M pc = some (.idiv, 1, a, b, c)) (hn : c ≠ 101 ∧ c ≠ 102) (hp : pc + 1 = pc') (h : inI x ∧ inI y ∧ y ≠ 0) (k : zW X d M pc' ls ((0, x.tdiv y) :: r) (ty, rf, mem) Q) : zW X d M pc ls ((0, y) :: (0, x) :: r) (ty, rf, mem) Q := by
  subst hp
  refine zW.step _ _ _ _ hc hn.1 hn.2 ?_ k
  unfold zstep
  simp only [zII, zI, if_true]
  rw [if_pos h]
theorem w_ldiv {x y : Int} (hc : zcod M pc = some (.ldiv, 1, a, b, c)) (hn : c ≠ 101 ∧ c ≠ 102) (hp : pc + 1 = pc') (h : inL x ∧ inL y ∧ y ≠ 0) (k : zW X d M pc' ls ((1, x.tdiv y) :: r) (ty, rf, mem) Q) : zW X d M pc ls ((1, y) :: (1, x) :: r) (ty, rf, mem) Q := by
  subst hp
  refine zW.step _ _ _ _ hc hn.1 hn.2 ?_ k
  unfold zstep
  simp only [zLL, zL, if_true]
  rw [if_pos h]
theorem w_irem {x y : Int} (hc : zcod M pc = some (.irem, 1, a, b, c)) (hn : c ≠ 101 ∧ c ≠ 102) (hp : pc + 1 = pc') (h : inI x ∧ inI y ∧ y ≠ 0) (k : zW X d M pc' ls ((0, x.tmod y) :: r) (ty, rf, mem) Q) : zW X d M pc ls ((0, y) :: (0, x) :: r) (ty, rf, mem) Q := by
  subst hp
  refine zW.step _ _ _ _ hc hn.1 hn.2 ?_ k
  unfold zstep
  simp only [zII, zI, if_true]
  rw [if_pos h]
theorem w_lrem {x y : Int} (hc : zcod M pc = some (.lrem, 1, a, b, c)) (hn : c ≠ 101 ∧ c ≠ 102) (hp : pc + 1 = pc') (h : inL x ∧ inL y ∧ y ≠ 0) (k : zW X d M pc' ls ((1, x.tmod y) :: r) (ty, rf, mem) Q) : zW X d M pc ls ((1, y) :: (1, x) :: r) (ty, rf, mem) Q := by
  subst hp
  refine zW.step _ _ _ _ hc hn.1 hn.2 ?_ k
  unfold zstep
  simp only [zLL, zL, if_true]
  rw [if_pos h]
theorem w_lcmp {x y : Int} (hc : zcod M pc = some (.lcmp, 1, a, b, c)) (hn : c ≠ 101 ∧ c ≠ 102) (hp : pc + 1 = pc') (h : inL x ∧ inL y) (k : zW X d M pc' ls ((0, if x < y then -1 else if x = y then 0 else 1) :: r) (ty, rf, mem) Q) : zW X d M pc ls ((1, y) :: (1, x) :: r) (ty, rf, mem) Q := by
  subst hp
  refine zW.step _ _ _ _ hc hn.1 hn.2 ?_ k
  unfold zstep
  simp only [zLL, zL, if_true]
  rw [if_pos h]
theorem w_i2l {x : Int} (hc : zcod M pc = some (.i2l, 1, a, b, c)) (hn : c ≠ 101 ∧ c ≠ 102) (hp : pc + 1 = pc') (h : inI x) (k : zW X d M pc' ls ((1, x) :: r) (ty, rf, mem) Q) : zW X d M pc ls ((0, x) :: r) (ty, rf, mem) Q := by
  subst hp
  refine zW.step _ _ _ _ hc hn.1 hn.2 ?_ k
  unfold zstep
  simp only [zI, if_true]
  rw [if_pos h]
theorem w_ifnull {x : Int} {off : Int} (hc : zcod M pc = some (.ifnull off, 3, a, b, c)) (hn : c ≠ 101 ∧ c ≠ 102) (hp : pc + 3 = pc') (h : 0 ≤ x) (k : zW X d M pc' ls r (ty, rf, mem) Q) : zW X d M pc ls ((2, x) :: r) (ty, rf, mem) Q := by
  subst hp
  refine zW.step _ _ _ _ hc hn.1 hn.2 ?_ k
  unfold zstep
  simp only [zR, true_and, h, if_true]
theorem w_pop {t : Nat} {x : Int} (hc : zcod M pc = some (.pop, 1, a, b, c)) (hn : c ≠ 101 ∧ c ≠ 102) (hp : pc + 1 = pc') (h : t = 0 ∨ t = 2) (k : zW X d M pc' ls r (ty, rf, mem) Q) : zW X d M pc ls ((t, x) :: r) (ty, rf, mem) Q := by
  subst hp
  refine zW.step _ _ _ _ hc hn.1 hn.2 ?_ k
  unfold zstep
  rcases h with rfl | rfl <;> rfl
theorem w_copy {idx q q1 n0 n1 : Nat} {x y sp dp n : Int} (hc : zcod M pc = some (.invokestatic idx, 3, 2, b, c)) (hn : c ≠ 101 ∧ c ≠ 102) (hp : pc + 3 = pc') (hq : 0 ≤ x ∧ x.toNat = q) (hq1 : 0 ≤ y ∧ y.toNat = q1) (ht : ty[q1]? = some (1, n0)) (hu : ty[q]? = some (1, n1)) (h : 0 ≤ sp ∧ 0 ≤ dp ∧ 0 ≤ n ∧ n < 100000 ∧ sp < 100000 ∧ dp < 100000 ∧ sp + n ≤ n0 ∧ dp + n ≤ n1 ∧ zcat r ≤ 8) (k : zW X d M pc' ls r (ty, rf, fun b k => if b = q ∧ dp.toNat ≤ k ∧ k < dp.toNat + n.toNat then mem q1 (sp.toNat + (k - dp.toNat)) else mem b k) Q) : zW X d M pc ls ((0, n) :: (0, dp) :: (2, x) :: (0, sp) :: (2, y) :: r) (ty, rf, mem) Q := by
  subst hp
  refine zW.step _ _ _ _ hc hn.1 hn.2 ?_ k
  unfold zstep
  obtain ⟨g1, rfl⟩ := hq
  obtain ⟨g2, rfl⟩ := hq1
  simp only [zII, zI, zR, if_true, true_and, g1, g2, ht, hu, h, and_self]
theorem w_tabIn {dflt lo hi off x : Int} {offs : Array Int} (t : Nat) (hc : zcod M pc = some (.tableswitch dflt lo hi offs, len, a, b, c)) (hn : c ≠ 101 ∧ c ≠ 102) (hx : inI x) (h : lo ≤ x ∧ x ≤ hi) (ho : offs[(x - lo).toNat]? = some off) (ht : (pc : Int) + off = (t : Int)) (k : zW X d M t ls r (ty, rf, mem) Q) : zW X d M pc ls ((0, x) :: r) (ty, rf, mem) Q := by
  refine zW.step _ _ _ _ hc hn.1 hn.2 ?_ k
  unfold zstep
  simp only [zI, if_true]
  rw [if_pos hx, if_neg (by omega), ho]
  dsimp only
  rw [if_pos (by omega), ht]
  rfl
theorem w_tabOut {dflt lo hi x : Int} {offs : Array Int} (t : Nat) (hc : zcod M pc = some (.tableswitch dflt lo hi offs, len, a, b, c)) (hn : c ≠ 101 ∧ c ≠ 102) (hx : inI x) (h : x < lo ∨ hi < x) (ht : (pc : Int) + dflt = (t : Int)) (k : zW X d M t ls r (ty, rf, mem) Q) : zW X d M pc ls ((0, x) :: r) (ty, rf, mem) Q := by
  refine zW.step _ _ _ _ hc hn.1 hn.2 ?_ k
  unfold zstep
  simp only [zI, if_true]
  rw [if_pos hx, if_pos h, if_pos (by omega), ht]
  rfl
theorem w_look {dflt x : Int} {ps : Array (Int × Int)} (t : Nat) (hc : zcod M pc = some (.lookupswitch dflt ps, len, a, b, c)) (hn : c ≠ 101 ∧ c ≠ 102) (hx : inI x) (hps : (ps.toList.zip (ps.toList.drop 1)).all (fun (a, next) => a.1 < next.1) = true) (ho : (pc : Int) + Op.lookupswitch.offset ps.toList dflt x = (t : Int)) (k : zW X d M t ls r (ty, rf, mem) Q) : zW X d M pc ls ((0, x) :: r) (ty, rf, mem) Q := by
  refine zW.step _ _ _ _ hc hn.1 hn.2 ?_ k
  unfold zstep
  simp only [zI, if_true]
  rw [if_pos ⟨hx, hps, by omega⟩, ho]
  rfl
theorem w_if_eq {x : Int} {off : Int} {t : Nat} (hc : zcod M pc = some (.ifCond .eq off, len, t, b, c)) (hn : c ≠ 101 ∧ c ≠ 102) (hp : pc + 3 = pc') (h : inI x) (kt : x = 0 → zW X d M t ls r (ty, rf, mem) Q) (kf : ¬ x = 0 → zW X d M pc' ls r (ty, rf, mem) Q) : zW X d M pc ls ((0, x) :: r) (ty, rf, mem) Q :=
  zW.ifc hc hn.1 hn.2 hp h (fun q => kt (of_decide_eq_true q)) (fun q => kf (of_decide_eq_false q))
theorem w_ic_eq {x y : Int} {off : Int} {t : Nat} (hc : zcod M pc = some (.if_icmp .eq off, len, t, b, c)) (hn : c ≠ 101 ∧ c ≠ 102) (hp : pc + 3 = pc') (h : inI x ∧ inI y) (kt : x = y → zW X d M t ls r (ty, rf, mem) Q) (kf : ¬ x = y → zW X d M pc' ls r (ty, rf, mem) Q) : zW X d M pc ls ((0, y) :: (0, x) :: r) (ty, rf, mem) Q :=
  zW.ific hc hn.1 hn.2 hp h.1 h.2 (fun q => kt (of_decide_eq_true q)) (fun q => kf (of_decide_eq_false q))
theorem w_if_ne {x : Int} {off : Int} {t : Nat} (hc : zcod M pc = some (.ifCond .ne off, len, t, b, c)) (hn : c ≠ 101 ∧ c ≠ 102) (hp : pc + 3 = pc') (h : inI x) (kt : ¬ x = 0 → zW X d M t ls r (ty, rf, mem) Q) (kf : x = 0 → zW X d M pc' ls r (ty, rf, mem) Q) : zW X d M pc ls ((0, x) :: r) (ty, rf, mem) Q :=
  zW.ifc hc hn.1 hn.2 hp h (fun q => kt (of_decide_eq_true q)) (fun q => kf (Decidable.of_not_not (of_decide_eq_false q)))
theorem w_ic_ne {x y : Int} {off : Int} {t : Nat} (hc : zcod M pc = some (.if_icmp .ne off, len, t, b, c)) (hn : c ≠ 101 ∧ c ≠ 102) (hp : pc + 3 = pc') (h : inI x ∧ inI y) (kt : ¬ x = y → zW X d M t ls r (ty, rf, mem) Q) (kf : x = y → zW X d M pc' ls r (ty, rf, mem) Q) : zW X d M pc ls ((0, y) :: (0, x) :: r) (ty, rf, mem) Q :=
  zW.ific hc hn.1 hn.2 hp h.1 h.2 (fun q => kt (of_decide_eq_true q)) (fun q => kf (Decidable.of_not_not (of_decide_eq_false q)))
theorem w_if_lt {x : Int} {off : Int} {t : Nat} (hc : zcod M pc = some (.ifCond .lt off, len, t, b, c)) (hn : c ≠ 101 ∧ c ≠ 102) (hp : pc + 3 = pc') (h : inI x) (kt : x < 0 → zW X d M t ls r (ty, rf, mem) Q) (kf : ¬ x < 0 → zW X d M pc' ls r (ty, rf, mem) Q) : zW X d M pc ls ((0, x) :: r) (ty, rf, mem) Q :=
  zW.ifc hc hn.1 hn.2 hp h (fun q => kt (of_decide_eq_true q)) (fun q => kf (of_decide_eq_false q))
theorem w_ic_lt {x y : Int} {off : Int} {t : Nat} (hc : zcod M pc = some (.if_icmp .lt off, len, t, b, c)) (hn : c ≠ 101 ∧ c ≠ 102) (hp : pc + 3 = pc') (h : inI x ∧ inI y) (kt : x < y → zW X d M t ls r (ty, rf, mem) Q) (kf : ¬ x < y → zW X d M pc' ls r (ty, rf, mem) Q) : zW X d M pc ls ((0, y) :: (0, x) :: r) (ty, rf, mem) Q :=
  zW.ific hc hn.1 hn.2 hp h.1 h.2 (fun q => kt (of_decide_eq_true q)) (fun q => kf (of_decide_eq_false q))
theorem w_if_ge {x : Int} {off : Int} {t : Nat} (hc : zcod M pc = some (.ifCond .ge off, len, t, b, c)) (hn : c ≠ 101 ∧ c ≠ 102) (hp : pc + 3 = pc') (h : inI x) (kt : 0 ≤ x → zW X d M t ls r (ty, rf, mem) Q) (kf : ¬ 0 ≤ x → zW X d M pc' ls r (ty, rf, mem) Q) : zW X d M pc ls ((0, x) :: r) (ty, rf, mem) Q :=
  zW.ifc hc hn.1 hn.2 hp h (fun q => kt (of_decide_eq_true q)) (fun q => kf (of_decide_eq_false q))
theorem w_ic_ge {x y : Int} {off : Int} {t : Nat} (hc : zcod M pc = some (.if_icmp .ge off, len, t, b, c)) (hn : c ≠ 101 ∧ c ≠ 102) (hp : pc + 3 = pc') (h : inI x ∧ inI y) (kt : y ≤ x → zW X d M t ls r (ty, rf, mem) Q) (kf : ¬ y ≤ x → zW X d M pc' ls r (ty, rf, mem) Q) : zW X d M pc ls ((0, y) :: (0, x) :: r) (ty, rf, mem) Q :=
  zW.ific hc hn.1 hn.2 hp h.1 h.2 (fun q => kt (of_decide_eq_true q)) (fun q => kf (of_decide_eq_false q))
theorem w_if_gt {x : Int} {off : Int} {t : Nat} (hc : zcod M pc = some (.ifCond .gt off, len, t, b, c)) (hn : c ≠ 101 ∧ c ≠ 102) (hp : pc + 3 = pc') (h : inI x) (kt : 0 < x → zW X d M t ls r (ty, rf, mem) Q) (kf : ¬ 0 < x → zW X d M pc' ls r (ty, rf, mem) Q) : zW X d M pc ls ((0, x) :: r) (ty, rf, mem) Q :=
  zW.ifc hc hn.1 hn.2 hp h (fun q => kt (of_decide_eq_true q)) (fun q => kf (of_decide_eq_false q))
theorem w_ic_gt {x y : Int} {off : Int} {t : Nat} (hc : zcod M pc = some (.if_icmp .gt off, len, t, b, c)) (hn : c ≠ 101 ∧ c ≠ 102) (hp : pc + 3 = pc') (h : inI x ∧ inI y) (kt : y < x → zW X d M t ls r (ty, rf, mem) Q) (kf : ¬ y < x → zW X d M pc' ls r (ty, rf, mem) Q) : zW X d M pc ls ((0, y) :: (0, x) :: r) (ty, rf, mem) Q :=
  zW.ific hc hn.1 hn.2 hp h.1 h.2 (fun q => kt (of_decide_eq_true q)) (fun q => kf (of_decide_eq_false q))
theorem w_if_le {x : Int} {off : Int} {t : Nat} (hc : zcod M pc = some (.ifCond .le off, len, t, b, c)) (hn : c ≠ 101 ∧ c ≠ 102) (hp : pc + 3 = pc') (h : inI x) (kt : x ≤ 0 → zW X d M t ls r (ty, rf, mem) Q) (kf : ¬ x ≤ 0 → zW X d M pc' ls r (ty, rf, mem) Q) : zW X d M pc ls ((0, x) :: r) (ty, rf, mem) Q :=
  zW.ifc hc hn.1 hn.2 hp h (fun q => kt (of_decide_eq_true q)) (fun q => kf (of_decide_eq_false q))
theorem w_ic_le {x y : Int} {off : Int} {t : Nat} (hc : zcod M pc = some (.if_icmp .le off, len, t, b, c)) (hn : c ≠ 101 ∧ c ≠ 102) (hp : pc + 3 = pc') (h : inI x ∧ inI y) (kt : x ≤ y → zW X d M t ls r (ty, rf, mem) Q) (kf : ¬ x ≤ y → zW X d M pc' ls r (ty, rf, mem) Q) : zW X d M pc ls ((0, y) :: (0, x) :: r) (ty, rf, mem) Q :=
  zW.ific hc hn.1 hn.2 hp h.1 h.2 (fun q => kt (of_decide_eq_true q)) (fun q => kf (of_decide_eq_false q))
end ZWM
