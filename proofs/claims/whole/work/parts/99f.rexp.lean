/-! the reference reads a SUM or a TEST: its state -/
def rk (o : Int) : Int := if o = 42 then 1 else if o = 41 then 2 else if o = 43 then 3 else if o = 38 ∨ o = 39 ∨ o = 40 then 4 else if o = 31 ∨ o = 32 then 5 else 6
theorem rk_rng (a : Int) : 1 ≤ rk a ∧ rk a ≤ 6 := by
  unfold rk
  split
  · decide
  · split
    · decide
    · split
      · decide
      · split
        · decide
        · split <;> decide
def nots : List Int → Int
  | [] => 0
  | a :: A => (if a = 43 then 1 else 0) + nots A
theorem nots_app (B : List Int) : ∀ A : List Int, nots (A ++ B) = nots A + nots B
  | [] => by show nots B = 0 + nots B; omega
  | a :: A => by
    have := nots_app B A
    show (if a = 43 then 1 else 0) + nots (A ++ B) = (if a = 43 then 1 else 0) + nots A + nots B
    omega
theorem nots_pos : ∀ A : List Int, 0 ≤ nots A ∧ nots A ≤ A.length
  | [] => by show (0 : Int) ≤ 0 ∧ (0 : Int) ≤ 0; decide
  | a :: A => by
    have := nots_pos A
    show 0 ≤ (if a = 43 then 1 else 0) + nots A ∧ (if a = 43 then 1 else 0) + nots A ≤ ((A.length + 1 : Nat) : Int)
    split <;> omega
def zz (A : List Int) : zC := A.map (fun a => (a, 0))
theorem zz_app (A B : List Int) : zz (A ++ B) = zz A ++ zz B := List.map_append
theorem zz_len (A : List Int) : (zz A).length = A.length := List.length_map ..
/-- the frame of a reading -/
def RFr (m0 mem : zF) (b : Int) : Prop := (∀ i, (i < 261 ∨ (261 < i ∧ i < 281) ∨ (282 < i ∧ i < 286) ∨ 291 < i) → mem i = m0 i) ∧ (∀ j, j ≠ 3 → j ≠ 4 → j ≠ 5 → j ≠ 6 → j ≠ 7 → j ≠ 8 → j ≠ 9 → j ≠ 12 → j ≠ 37 → j ≠ 45 → j ≠ 46 → j ≠ 48 → j ≠ 49 → mem 261 j = m0 261 j) ∧ ∀ j : Nat, ((j : Int) < 1600 * b ∨ 1600 * b + 1600 ≤ (j : Int)) → mem 281 j = m0 281 j ∧ mem 282 j = m0 282 j
theorem RFr.fr {m0 mem mem' : zF} {b : Int} (h : RFr m0 mem b) (h1 : ∀ i, (i < 261 ∨ (261 < i ∧ i < 281) ∨ (282 < i ∧ i < 286) ∨ 291 < i) → mem' i = mem i) (h2 : ∀ j, j ≠ 3 → j ≠ 4 → j ≠ 5 → j ≠ 6 → j ≠ 7 → j ≠ 8 → j ≠ 9 → j ≠ 12 → j ≠ 37 → j ≠ 45 → j ≠ 46 → j ≠ 48 → j ≠ 49 → mem' 261 j = mem 261 j) (h3 : ∀ j : Nat, ((j : Int) < 1600 * b ∨ 1600 * b + 1600 ≤ (j : Int)) → mem' 281 j = mem 281 j ∧ mem' 282 j = mem 282 j) : RFr m0 mem' b :=
  ⟨fun i hi => (h1 i hi).trans (h.1 i hi), fun j a b c d e f g i k l m o q => (h2 j a b c d e f g i k l m o q).trans (h.2.1 j a b c d e f g i k l m o q), fun j hj => ⟨(h3 j hj).1.trans (h.2.2 j hj).1, (h3 j hj).2.trans (h.2.2 j hj).2⟩⟩
theorem RFr.r261 {m0 mem mem' : zF} {b : Int} (h : RFr m0 mem b) (h1 : ∀ i, i ≠ 261 → mem' i = mem i) (h2 : ∀ j, j ≠ 3 → j ≠ 4 → j ≠ 5 → j ≠ 6 → j ≠ 7 → j ≠ 8 → j ≠ 9 → j ≠ 12 → j ≠ 37 → j ≠ 45 → j ≠ 46 → j ≠ 48 → j ≠ 49 → mem' 261 j = mem 261 j) : RFr m0 mem' b := h.fr (fun i hi => h1 i (by omega)) h2 (fun j _ => ⟨by rw [h1 281 (by decide)], by rw [h1 282 (by decide)]⟩)
theorem RFr.rfl {m0 : zF} {b : Int} : RFr m0 m0 b := ⟨fun _ _ => Eq.refl _, fun _ _ _ _ _ _ _ _ _ _ _ _ _ _ => Eq.refl _, fun _ _ => ⟨Eq.refl _, Eq.refl _⟩⟩
/-- the reference has a fault -/
def REF (m0 mem : zF) (b k pc : Int) : Prop := RFr m0 mem b ∧ mem 261 8 = k ∧ mem 261 9 = pc ∧ inI (mem 261 12)
/-- the reference stands at s; E its codes, W its ops that wait (the latest first), f its frame, o how many are open -/
def RE (m0 mem : zF) (tb : Nat → Int) (n b r s : Int) (E : zC) (W : List Int) (f : Nat) (o : Int) (fr : zF) (q : Int) : Prop :=
  RTK mem tb n s ∧ RFr m0 mem b ∧ (mem 261 38 = b ∧ mem 261 39 = r ∧ (0 ≤ b ∧ b < 2)) ∧ (mem 261 37 = (E.length : Int) ∧ ∀ i : Nat, i < E.length → mem 281 (1600 * b + (i : Int)).toNat = (E.getD i (0, 0)).1 ∧ mem 282 (1600 * b + (i : Int)).toNat = (E.getD i (0, 0)).2) ∧ (mem 261 48 = (W.length : Int) ∧ SK (mem 291) W) ∧ (mem 261 45 = (f : Int) + 1 ∧ mem 261 46 = o ∧ mem 261 49 = q) ∧ ∀ g : Nat, g ≤ f → mem 286 g = fr 0 g ∧ mem 287 g = fr 1 g ∧ mem 288 g = fr 2 g ∧ mem 289 g = fr 3 g ∧ mem 290 g = fr 4 g
section REXP
variable {X : zX} {rf m0 mem : zF} {D : Nat} {tb : Nat → Int} {n b r s o q : Int} {E : zC} {W : List Int} {f : Nat} {fr : zF}
theorem RE.tk (h : RE m0 mem tb n b r s E W f o fr q) : RTK mem tb n s := h.1
/-- slots of the counters may change -/
theorem RE.set {mem' : zF} {o2 q2 : Int} (h : RE m0 mem tb n b r s E W f o fr q) (h1 : ∀ i, i ≠ 261 → mem' i = mem i) (h2 : ∀ j, j ≠ 46 → j ≠ 49 → mem' 261 j = mem 261 j) (h46 : mem' 261 46 = o2) (h49 : mem' 261 49 = q2) : RE m0 mem' tb n b r s E W f o2 fr q2 := by
  obtain ⟨a1, a2, a3, a4, a5, a6, a7⟩ := h
  refine ⟨a1.fr (fun j hj => h2 j (by omega) (by omega)) (h1 262 (by decide)), a2.r261 h1 (fun j _ _ _ _ _ _ _ _ _ _ z _ w => h2 j z w), ?_, ?_, ?_, ⟨?_, h46, h49⟩, ?_⟩
  · rw [h2 38 (by decide) (by decide), h2 39 (by decide) (by decide)]; exact a3
  · rw [h2 37 (by decide) (by decide), h1 281 (by decide), h1 282 (by decide)]; exact a4
  · rw [h2 48 (by decide) (by decide), h1 291 (by decide)]; exact a5
  · rw [h2 45 (by decide) (by decide)]; exact a6.1
  · rw [h1 286 (by decide), h1 287 (by decide), h1 288 (by decide), h1 289 (by decide), h1 290 (by decide)]; exact a7
theorem RE.qq {q2 : Int} (h : RE m0 mem tb n b r s E W f o fr q) : RE m0 (zup mem 261 49 q2) tb n b r s E W f o fr q2 := h.set (fun i hi => zup_row _ _ _ hi) (fun j _ hj => zup_ne _ _ _ _ hj) ((zup_ne _ _ _ _ (by decide)).trans h.2.2.2.2.2.1.2.1) (zup_at _ _ _ _)
theorem RE.oo {o2 : Int} (h : RE m0 mem tb n b r s E W f o fr q) : RE m0 (zup mem 261 46 o2) tb n b r s E W f o2 fr q := h.set (fun i hi => zup_row _ _ _ hi) (fun j hj _ => zup_ne _ _ _ _ hj) (zup_at _ _ _ _) ((zup_ne _ _ _ _ (by decide)).trans h.2.2.2.2.2.1.2.2)
theorem RE.flt (h : RE m0 mem tb n b r s E W f o fr q) (hs : 0 ≤ s ∧ s ≤ n) (hn : n ≤ 1600) {k pc : Int} : REF m0 (zflt mem k pc) b k pc := by
  have hf := h.1.1.f hs
  have hr := tBp_rng (tb := tb) hs.1 hn
  unfold zflt
  refine ⟨h.2.1.r261 (fun i hi => by rw [zup_row _ _ _ hi, zup_row _ _ _ hi]) (fun j _ _ _ _ _ x y _ _ _ _ _ _ => by rw [zup_ne _ _ _ _ y, zup_ne _ _ _ _ x]), ?_, zup_at _ _ _ _, ?_⟩
  · rw [zup_ne _ _ _ _ (by decide), zup_at]
  · rw [zup_ne _ _ _ _ (by decide), zup_ne _ _ _ _ (by decide), hf.2.2.1]
    omega
theorem REF.up49 {k pc v : Int} (h : REF m0 mem b k pc) : REF m0 (zup mem 261 49 v) b k pc := ⟨h.1.r261 (fun i hi => zup_row _ _ _ hi) (fun j _ _ _ _ _ _ _ _ _ _ _ _ x => zup_ne _ _ _ _ x), by rw [zup_ne _ _ _ _ (by decide)]; exact h.2.1, by rw [zup_ne _ _ _ _ (by decide)]; exact h.2.2.1, by rw [zup_ne _ _ _ _ (by decide)]; exact h.2.2.2⟩
theorem RE.ahd {Q : zF → Prop} (hR : zall rf zRK = true) (hD : 1 ≤ D) (hb : TBy tb n) (hn : 0 ≤ n ∧ n ≤ 1600) (hs : 0 ≤ s ∧ s ≤ n) (h : RE m0 mem tb n b r s E W f o fr q) (kk : ∀ mem', RE m0 mem' tb n b r (tNxt tb n s) E W f o fr q → Q mem') : Cv X D 202 [(2, 261)] rf mem Q := by
  refine t_ahd hR hD hb hn hs h.1 (fun mem' g hT => kk mem' ?_)
  obtain ⟨a1, a2, a3, a4, a5, a6, a7⟩ := h
  have e : ∀ j, j = 38 ∨ j = 39 ∨ j = 37 ∨ j = 48 ∨ j = 45 ∨ j = 46 ∨ j = 49 → mem' 261 j = mem 261 j := fun j hj => g.2 j (by omega) (by omega) (by omega) (by omega) (by omega) (by omega)
  refine ⟨hT, a2.r261 g.1 (fun j x1 x2 x3 x4 x5 _ _ x8 _ _ _ _ _ => g.2 j x1 x2 x3 x4 x5 x8), ?_, ?_, ?_, ?_, ?_⟩
  · rw [e 38 (by decide), e 39 (by decide)]; exact a3
  · rw [e 37 (by decide), g.1 281 (by decide), g.1 282 (by decide)]; exact a4
  · rw [e 48 (by decide), g.1 291 (by decide)]; exact a5
  · rw [e 45 (by decide), e 46 (by decide), e 49 (by decide)]; exact a6
  · rw [g.1 286 (by decide), g.1 287 (by decide), g.1 288 (by decide), g.1 289 (by decide), g.1 290 (by decide)]; exact a7
theorem RE.add2 {Q : zF → Prop} (hR : zall rf zRK = true) (h : RE m0 mem tb n b r s E W f o fr q) {so va : Int} (hl : E.length < 1600) (kk : ∀ mem', mem' 291 = mem 291 → RE m0 mem' tb n b r s (E ++ [(so, va)]) W f o fr q → Q mem') : Cv X D 211 [(2, 261), (0, so), (0, va)] rf mem Q := by
  obtain ⟨a1, a2, a3, a4, a5, a6, a7⟩ := h
  have hb2 := a3.2.2
  refine s_m_add hR ?_
  rw [a3.1, a4.1]
  refine ⟨by omega, by omega, kk _ (by rw [zup_row _ _ _ (by decide), zup_row _ _ _ (by decide), zup_row _ _ _ (by decide)]) ?_⟩
  generalize hm : zup (zup (zup mem 281 (1600 * b + (E.length : Int)).toNat so) 282 (1600 * b + (E.length : Int)).toNat va) 261 37 ((E.length : Int) + 1) = m2
  have r1 : ∀ i, i ≠ 261 → i ≠ 281 → i ≠ 282 → m2 i = mem i := fun i x y z => by rw [← hm, zup_row _ _ _ x, zup_row _ _ _ z, zup_row _ _ _ y]
  have r2 : ∀ j, j ≠ 37 → m2 261 j = mem 261 j := fun j x => by rw [← hm, zup_ne _ _ _ _ x, zup_row _ _ _ (by decide), zup_row _ _ _ (by decide)]
  have r3 : ∀ j, j ≠ (1600 * b + (E.length : Int)).toNat → m2 281 j = mem 281 j ∧ m2 282 j = mem 282 j := fun j x => by
    rw [← hm, zup_row _ _ _ (show (281 : Nat) ≠ 261 by decide), zup_row _ _ _ (show (282 : Nat) ≠ 261 by decide), zup_row _ _ _ (show (281 : Nat) ≠ 282 by decide), zup_ne _ _ _ _ x, zup_ne _ _ _ _ x, zup_row _ _ _ (show (282 : Nat) ≠ 281 by decide)]
    exact ⟨rfl, rfl⟩
  refine ⟨a1.fr (fun j hj => r2 j (by omega)) (r1 262 (by decide) (by decide) (by decide)), a2.fr (fun i hi => r1 i (by omega) (by omega) (by omega)) (fun j _ _ _ _ _ _ _ _ x _ _ _ _ => r2 j x) (fun j hj => r3 j (by omega)), ?_, ⟨?_, ?_⟩, ?_, ?_, ?_⟩
  · rw [r2 38 (by decide), r2 39 (by decide)]; exact a3
  · rw [← hm, zup_at, List.length_append]; rfl
  · intro i hi
    rw [getD_app hi]
    by_cases x : i < E.length
    · rw [if_pos x, (r3 _ (by omega)).1, (r3 _ (by omega)).2]
      exact a4.2 i x
    · have : i = E.length := by
        rw [List.length_append] at hi
        simp only [List.length_cons, List.length_nil] at hi
        omega
      rw [if_neg x, this, ← hm, zup_row _ _ _ (show (281 : Nat) ≠ 261 by decide), zup_row _ _ _ (show (282 : Nat) ≠ 261 by decide), zup_row _ _ _ (show (281 : Nat) ≠ 282 by decide), zup_at, zup_at]
      exact ⟨rfl, rfl⟩
  · rw [r2 48 (by decide), r1 291 (by decide) (by decide) (by decide)]; exact a5
  · rw [r2 45 (by decide), r2 46 (by decide), r2 49 (by decide)]; exact a6
  · rw [r1 286 (by decide) (by decide) (by decide), r1 287 (by decide) (by decide) (by decide), r1 288 (by decide) (by decide) (by decide), r1 289 (by decide) (by decide) (by decide), r1 290 (by decide) (by decide) (by decide)]; exact a7
theorem RE.add {Q : zF → Prop} (hR : zall rf zRK = true) (h : RE m0 mem tb n b r s E W f o fr q) {so va : Int} (hl : E.length < 1600) (kk : ∀ mem', RE m0 mem' tb n b r s (E ++ [(so, va)]) W f o fr q → Q mem') : Cv X D 211 [(2, 261), (0, so), (0, va)] rf mem Q := h.add2 hR hl (fun mem' _ => kk mem')
theorem RE.hold {Q : zF → Prop} (hR : zall rf zRK = true) (h : RE m0 mem tb n b r s E W f o fr q) {op : Int} (hl : W.length < 500) (kk : ∀ mem', RE m0 mem' tb n b r s E (op :: W) f o fr q → Q mem') : Cv X D 214 [(2, 261), (0, op)] rf mem Q := by
  obtain ⟨a1, a2, a3, a4, a5, a6, a7⟩ := h
  refine s_m_holdsBack hR ?_
  rw [a5.1]
  refine ⟨by omega, kk _ ?_⟩
  have e0 : ((W.length : Int)).toNat = W.length := by omega
  rw [e0]
  generalize hm : zup (zup mem 291 W.length op) 261 48 ((W.length : Int) + 1) = m2
  have r1 : ∀ i, i ≠ 261 → i ≠ 291 → m2 i = mem i := fun i x y => by rw [← hm, zup_row _ _ _ x, zup_row _ _ _ y]
  have r2 : ∀ j, j ≠ 48 → m2 261 j = mem 261 j := fun j x => by rw [← hm, zup_ne _ _ _ _ x, zup_row _ _ _ (by decide)]
  refine ⟨a1.fr (fun j hj => r2 j (by omega)) (r1 262 (by decide) (by decide)), a2.fr (fun i hi => r1 i (by omega) (by omega)) (fun j _ _ _ _ _ _ _ _ _ _ _ x _ => r2 j x) (fun j hj => ⟨by rw [r1 281 (by decide) (by decide)], by rw [r1 282 (by decide) (by decide)]⟩), ?_, ?_, ⟨?_, ?_, ?_⟩, ?_, ?_⟩
  · rw [r2 38 (by decide), r2 39 (by decide)]; exact a3
  · rw [r2 37 (by decide), r1 281 (by decide) (by decide), r1 282 (by decide) (by decide)]; exact a4
  · rw [← hm, zup_at]; rfl
  · rw [← hm, zup_row _ _ _ (by decide), zup_at]
  · exact a5.2.same (fun j hj => by rw [← hm, zup_row _ _ _ (by decide), zup_ne _ _ _ _ (by omega)])
  · rw [r2 45 (by decide), r2 46 (by decide), r2 49 (by decide)]; exact a6
  · rw [r1 286 (by decide) (by decide), r1 287 (by decide) (by decide), r1 288 (by decide) (by decide), r1 289 (by decide) (by decide), r1 290 (by decide) (by decide)]; exact a7
theorem t_rank {Q : Int → zF → Prop} (hR : zall rf zRK = true) {x : Int} (hx : 31 ≤ x ∧ x ≤ 43) (kk : Q (rk x) mem) : Ci X D 212 [(0, x)] rf mem Q := by
  have hi : inI x := by omega
  refine s_m_rank hR ?_
  unfold rk at kk
  refine ⟨hi, fun q1 => ⟨hi, fun q2 => ⟨hi, fun q3 => ⟨hi, fun q4 => ?_, fun q4 => ⟨hi, fun q5 => ?_, fun q5 => ⟨hi, fun q6 => ⟨hi, fun q7 => ?_, fun q7 => ⟨hi, fun q8 => ?_, fun q8 => ?_⟩⟩, fun q6 => ?_⟩⟩⟩, fun q3 => ?_⟩, fun q2 => ?_⟩, fun q1 => ?_⟩
  · rwa [if_neg q1, if_neg q2, if_neg q3, if_pos (by omega)] at kk
  · rwa [if_neg q1, if_neg q2, if_neg q3, if_pos (by omega)] at kk
  · rwa [if_neg q1, if_neg q2, if_neg q3, if_neg (by omega), if_pos (by omega)] at kk
  · rwa [if_neg q1, if_neg q2, if_neg q3, if_neg (by omega), if_neg (by omega)] at kk
  · rwa [if_neg q1, if_neg q2, if_neg q3, if_neg (by omega), if_pos (by omega)] at kk
  · rwa [if_neg q1, if_neg q2, if_neg q3, if_pos (by omega)] at kk
  · rwa [if_neg q1, if_neg q2, if_pos q3] at kk
  · rwa [if_neg q1, if_pos q2] at kk
  · rwa [if_pos q1] at kk
/-- the last op goes from those that wait -/
theorem RE.pop {a : Int} (h : RE m0 mem tb n b r s E (a :: W) f o fr q) : RE m0 (zup mem 261 48 (W.length : Int)) tb n b r s E W f o fr q ∧ mem 291 W.length = a := by
  obtain ⟨a1, a2, a3, a4, a5, a6, a7⟩ := h
  have r1 : ∀ i, i ≠ 261 → (zup mem 261 48 (W.length : Int)) i = mem i := fun i x => zup_row _ _ _ x
  have r2 : ∀ j, j ≠ 48 → (zup mem 261 48 (W.length : Int)) 261 j = mem 261 j := fun j x => zup_ne _ _ _ _ x
  refine ⟨⟨a1.fr (fun j hj => r2 j (by omega)) (r1 262 (by decide)), a2.r261 r1 (fun j _ _ _ _ _ _ _ _ _ _ _ x _ => r2 j x), ?_, ?_, ⟨zup_at _ _ _ _, ?_⟩, ?_, ?_⟩, a5.2.1⟩
  · rw [r2 38 (by decide), r2 39 (by decide)]; exact a3
  · rw [r2 37 (by decide), r1 281 (by decide), r1 282 (by decide)]; exact a4
  · rw [r1 291 (by decide)]; exact a5.2.2
  · rw [r2 45 (by decide), r2 46 (by decide), r2 49 (by decide)]; exact a6
  · rw [r1 286 (by decide), r1 287 (by decide), r1 288 (by decide), r1 289 (by decide), r1 290 (by decide)]; exact a7
/-- ops of a rank go to the codes -/
theorem RE.join0 {Q : zF → Prop} {lv : Int} (hR : zall rf zRK = true) (hlv : 1 ≤ lv ∧ lv ≤ 6) (hf : f ≤ 15) : ∀ (A : List Int) {B : List Int} {mem : zF} {E : zC} {o : Int}, RE m0 mem tb n b r s E (A ++ B) f o fr q → (∀ a ∈ A, (31 ≤ a ∧ a ≤ 43) ∧ lv ≤ rk a) → (∀ x ∈ B, 31 ≤ x ∧ x ≤ 43) → (0 ≤ fr 4 f ∧ fr 4 f ≤ (B.length : Int)) → ((B.length : Int) = fr 4 f ∨ rk (B.headD 0) < lv) → E.length + A.length + B.length ≤ 1600 → A.length + B.length ≤ 400 → (∀ mem', RE m0 mem' tb n b r s (E ++ zz A) B f (o - nots A) fr q → Q mem') → L_m_joins_0 X D rf Q mem lv
  | [], B, mem, E, o, h, hA, hB, hbs, hor, hl, hl2, kk => by
    have hk := kk mem (by
      have : RE m0 mem tb n b r s (E ++ zz []) B f (o - nots []) fr q := by
        have e1 : E ++ zz [] = E := List.append_nil E
        have e2 : o - nots [] = o := by show o - 0 = o; omega
        rw [e1, e2]
        exact h
      exact this)
    have hg := (h.2.2.2.2.2.2 f (Nat.le_refl _)).2.2.2.2
    refine s_m_joins_0 hR ?_
    have e45 := h.2.2.2.2.2.1.1
    have e48 : mem 261 48 = (B.length : Int) := h.2.2.2.2.1.1
    have ef : ((f : Int) + 1 - 1).toNat = f := by omega
    rw [e45, e48, ef, hg]
    refine ⟨by omega, by omega, fun _ => hk, fun q0 => ⟨by omega, ?_⟩⟩
    cases B with
    | nil => exact absurd (show (([] : List Int).length : Int) ≤ fr 4 f from by show (0 : Int) ≤ fr 4 f; omega) q0
    | cons x B =>
      have hx := hB x (List.mem_cons_self ..)
      have hS : SK (mem 291) (x :: B) := h.2.2.2.2.1.2
      have e0 : (((x :: B).length : Int) - 1).toNat = B.length := by simp only [List.length_cons]; omega
      rw [e0, hS.1]
      have hrk := rk_rng x
      refine t_rank hR hx ⟨by omega, fun _ => hk, fun q => absurd ?_ q⟩
      rcases hor with e | e
      · exact absurd (by omega) q0
      · exact e
  | a :: A, B, mem, E, o, h, hA, hB, hbs, hor, hl, hl2, kk => by
    have ha := hA a (List.mem_cons_self ..)
    have hp := RE.pop (W := A ++ B) (a := a) h
    have hrk := rk_rng a
    have hg := (h.2.2.2.2.2.2 f (Nat.le_refl _)).2.2.2.2
    have e45 := h.2.2.2.2.2.1.1
    have e48 : mem 261 48 = (((a :: A) ++ B).length : Int) := h.2.2.2.2.1.1
    have eL : (((a :: A) ++ B).length : Int) = ((A ++ B).length : Int) + 1 := by show (((A ++ B).length + 1 : Nat) : Int) = _; omega
    have eAB : (A ++ B).length = A.length + B.length := List.length_append
    have ef : ((f : Int) + 1 - 1).toNat = f := by omega
    simp only [List.length_cons] at hl hl2
    refine s_m_joins_0 hR ?_
    rw [e45, e48, eL, ef, hg]
    refine ⟨by omega, by omega, fun q0 => absurd q0 (by omega), fun q0 => ⟨by omega, ?_⟩⟩
    have e0 : (((A ++ B).length : Int) + 1 - 1).toNat = (A ++ B).length := by omega
    rw [e0, hp.2]
    refine t_rank hR ha.1 ⟨by omega, fun q => absurd q (by omega), fun _ => ?_⟩
    rw [e48, eL, e0, hp.2]
    have e1 : ((A ++ B).length : Int) + 1 - 1 = ((A ++ B).length : Int) := by omega
    rw [e1]
    refine ⟨by omega, hp.1.add2 hR (by omega) (fun m2 g291 h2 => ?_)⟩
    have f48 : m2 261 48 = ((A ++ B).length : Int) := h2.2.2.2.2.1.1
    rw [f48]
    have e2 : (((A ++ B).length : Int)).toNat = (A ++ B).length := by omega
    have e291 : m2 291 (A ++ B).length = a := by rw [g291, zup_row _ _ _ (by decide)]; exact hp.2
    rw [e2, e291]
    have eE : (E ++ [(a, 0)]) ++ zz A = E ++ zz (a :: A) := by rw [List.append_assoc]; rfl
    have go : ∀ (m3 : zF) (o3 : Int), RE m0 m3 tb n b r s (E ++ [(a, 0)]) (A ++ B) f o3 fr q → o3 - nots A = o - nots (a :: A) → L_m_joins_0 X D rf Q m3 lv := by
      intro m3 o3 h3 e3
      refine RE.join0 hR hlv hf A h3 (fun x hx => hA x (List.mem_cons_of_mem _ hx)) hB hbs hor (by rw [List.length_append]; simp only [List.length_cons, List.length_nil]; omega) (by omega) (fun m4 h4 => kk m4 ?_)
      rw [eE, e3] at h4
      exact h4
    refine ⟨by omega, by omega, fun q => go m2 o h2 ?_, fun q => ?_⟩
    · show o - nots A = o - ((if a = 43 then 1 else 0) + nots A)
      rw [if_neg q]
      omega
    · have e46 : m2 261 46 = o := h2.2.2.2.2.2.1.2.1
      rw [e46]
      refine go _ (o - 1) h2.oo ?_
      show o - 1 - nots A = o - ((if a = 43 then 1 else 0) + nots A)
      rw [if_pos q]
      omega
theorem RE.join {Q : zF → Prop} {lv : Int} (hR : zall rf zRK = true) (hD : 1 ≤ D) (hlv : 1 ≤ lv ∧ lv ≤ 6) (hf : f ≤ 15) (A : List Int) {B : List Int} (h : RE m0 mem tb n b r s E (A ++ B) f o fr q) (hA : ∀ a ∈ A, (31 ≤ a ∧ a ≤ 43) ∧ lv ≤ rk a) (hB : ∀ x ∈ B, 31 ≤ x ∧ x ≤ 43) (hbs : 0 ≤ fr 4 f ∧ fr 4 f ≤ (B.length : Int)) (hor : (B.length : Int) = fr 4 f ∨ rk (B.headD 0) < lv) (hl : E.length + A.length + B.length ≤ 1600) (hl2 : A.length + B.length ≤ 400) (kk : ∀ mem', RE m0 mem' tb n b r s (E ++ zz A) B f (o - nots A) fr q → Q mem') : Cv X D 213 [(2, 261), (0, lv)] rf mem Q := by
  obtain ⟨d, rfl⟩ : ∃ d, D = d + 1 := ⟨D - 1, by omega⟩
  have := RE.join0 (X := X) (D := d) (Q := Q) hR hlv hf A h hA hB hbs hor hl hl2 kk
  exact this
/-- a frame more -/
theorem RE.push {Q : zF → Prop} (hR : zall rf zRK = true) (h : RE m0 mem tb n b r s E W f o fr q) (hf : f ≤ 15) {kd : Int} (kk : ∀ mem' fr', RE m0 mem' tb n b r s E W (f + 1) o fr' q → (∀ sl g, g ≤ f → fr' sl g = fr sl g) → fr' 0 (f + 1) = kd → fr' 1 (f + 1) = 0 → fr' 2 (f + 1) = 1 → fr' 4 (f + 1) = (W.length : Int) → Q mem') : Cv X D 215 [(2, 261), (0, kd)] rf mem Q := by
  obtain ⟨a1, a2, a3, a4, a5, a6, a7⟩ := h
  refine s_m_pushes hR ?_
  rw [a6.1, a5.1]
  have ef : ((f : Int) + 1).toNat = f + 1 := by omega
  rw [ef]
  refine ⟨by omega, by omega, by omega, by omega, ?_⟩
  generalize hm : zup (zup (zup (zup (zup mem 286 (f + 1) kd) 287 (f + 1) 0) 288 (f + 1) 1) 290 (f + 1) (W.length : Int)) 261 45 ((f : Int) + 1 + 1) = m2
  have r1 : ∀ i, i ≠ 261 → (i < 286 ∨ 290 < i) → m2 i = mem i := fun i x y => by rw [← hm, zup_row _ _ _ x, zup_row _ _ _ (by omega), zup_row _ _ _ (by omega), zup_row _ _ _ (by omega), zup_row _ _ _ (by omega)]
  have r2 : ∀ j, j ≠ 45 → m2 261 j = mem 261 j := fun j x => by rw [← hm, zup_ne _ _ _ _ x, zup_row _ _ _ (by decide), zup_row _ _ _ (by decide), zup_row _ _ _ (by decide), zup_row _ _ _ (by decide)]
  have r3 : ∀ i j, i ≠ 261 → j ≠ f + 1 → m2 i j = mem i j := fun i j x y => by rw [← hm, zup_row _ _ _ x, zup_ne _ _ _ _ y, zup_ne _ _ _ _ y, zup_ne _ _ _ _ y, zup_ne _ _ _ _ y]
  refine kk m2 (fun sl g => if g ≤ f then fr sl g else m2 (286 + sl) g) ⟨a1.fr (fun j hj => r2 j (by omega)) (r1 262 (by decide) (by decide)), a2.fr (fun i hi => r1 i (by omega) (by omega)) (fun j _ _ _ _ _ _ _ _ _ x _ _ _ => r2 j x) (fun j hj => ⟨by rw [r1 281 (by decide) (by decide)], by rw [r1 282 (by decide) (by decide)]⟩), ?_, ?_, ?_, ⟨?_, ?_, ?_⟩, ?_⟩ (fun sl g hg => if_pos hg) ?_ ?_ ?_ ?_
  · rw [r2 38 (by decide), r2 39 (by decide)]; exact a3
  · rw [r2 37 (by decide), r1 281 (by decide) (by decide), r1 282 (by decide) (by decide)]; exact a4
  · rw [r2 48 (by decide), r1 291 (by decide) (by decide)]; exact a5
  · rw [← hm, zup_at]; omega
  · rw [r2 46 (by decide)]; exact a6.2.1
  · rw [r2 49 (by decide)]; exact a6.2.2
  · intro g hg
    show m2 286 g = (if g ≤ f then fr 0 g else m2 286 g) ∧ m2 287 g = (if g ≤ f then fr 1 g else m2 287 g) ∧ m2 288 g = (if g ≤ f then fr 2 g else m2 288 g) ∧ m2 289 g = (if g ≤ f then fr 3 g else m2 289 g) ∧ m2 290 g = (if g ≤ f then fr 4 g else m2 290 g)
    by_cases x : g ≤ f
    · rw [if_pos x, if_pos x, if_pos x, if_pos x, if_pos x, r3 286 g (by decide) (by omega), r3 287 g (by decide) (by omega), r3 288 g (by decide) (by omega), r3 289 g (by decide) (by omega), r3 290 g (by decide) (by omega)]
      exact a7 g x
    · rw [if_neg x, if_neg x, if_neg x, if_neg x, if_neg x]
      exact ⟨rfl, rfl, rfl, rfl, rfl⟩
  · show (if f + 1 ≤ f then fr 0 (f + 1) else m2 286 (f + 1)) = kd
    rw [if_neg (by omega), ← hm, zup_row _ _ _ (by decide), zup_row _ _ _ (by decide), zup_row _ _ _ (by decide), zup_row _ _ _ (by decide), zup_at]
  · show (if f + 1 ≤ f then fr 1 (f + 1) else m2 287 (f + 1)) = 0
    rw [if_neg (by omega), ← hm, zup_row _ _ _ (by decide), zup_row _ _ _ (by decide), zup_row _ _ _ (by decide), zup_at]
  · show (if f + 1 ≤ f then fr 2 (f + 1) else m2 288 (f + 1)) = 1
    rw [if_neg (by omega), ← hm, zup_row _ _ _ (by decide), zup_row _ _ _ (by decide), zup_at]
  · show (if f + 1 ≤ f then fr 4 (f + 1) else m2 290 (f + 1)) = (W.length : Int)
    rw [if_neg (by omega), ← hm, zup_row _ _ _ (by decide), zup_at]
/-- a slot of the frame -/
theorem RE.frame {sl : Nat} {v : Int} (h : RE m0 mem tb n b r s E W f o fr q) (hsl : sl ≤ 4) : RE m0 (zup mem (286 + sl) f v) tb n b r s E W f o (zup fr sl f v) q := by
  obtain ⟨a1, a2, a3, a4, a5, a6, a7⟩ := h
  have r1 : ∀ i, i ≠ 286 + sl → (zup mem (286 + sl) f v) i = mem i := fun i x => zup_row _ _ _ x
  refine ⟨a1.fr (fun j hj => by rw [r1 261 (by omega)]) (r1 262 (by omega)), a2.fr (fun i hi => r1 i (by omega)) (fun j _ _ _ _ _ _ _ _ _ _ _ _ _ => by rw [r1 261 (by omega)]) (fun j hj => ⟨by rw [r1 281 (by omega)], by rw [r1 282 (by omega)]⟩), ?_, ?_, ?_, ?_, ?_⟩
  · rw [r1 261 (by omega)]; exact a3
  · rw [r1 261 (by omega), r1 281 (by omega), r1 282 (by omega)]; exact a4
  · rw [r1 261 (by omega), r1 291 (by omega)]; exact a5
  · rw [r1 261 (by omega)]; exact a6
  · intro g hg
    have hh := a7 g hg
    refine ⟨?_, ?_, ?_, ?_, ?_⟩
    · rw [zup_get, zup_get]
      by_cases x : g = f ∧ sl = 0
      · rw [if_pos ⟨by omega, x.1⟩, if_pos ⟨by omega, x.1⟩]
      · rw [if_neg (by omega), if_neg (by omega)]; exact hh.1
    · rw [zup_get, zup_get]
      by_cases x : g = f ∧ sl = 1
      · rw [if_pos ⟨by omega, x.1⟩, if_pos ⟨by omega, x.1⟩]
      · rw [if_neg (by omega), if_neg (by omega)]; exact hh.2.1
    · rw [zup_get, zup_get]
      by_cases x : g = f ∧ sl = 2
      · rw [if_pos ⟨by omega, x.1⟩, if_pos ⟨by omega, x.1⟩]
      · rw [if_neg (by omega), if_neg (by omega)]; exact hh.2.2.1
    · rw [zup_get, zup_get]
      by_cases x : g = f ∧ sl = 3
      · rw [if_pos ⟨by omega, x.1⟩, if_pos ⟨by omega, x.1⟩]
      · rw [if_neg (by omega), if_neg (by omega)]; exact hh.2.2.2.1
    · rw [zup_get, zup_get]
      by_cases x : g = f ∧ sl = 4
      · rw [if_pos ⟨by omega, x.1⟩, if_pos ⟨by omega, x.1⟩]
      · rw [if_neg (by omega), if_neg (by omega)]; exact hh.2.2.2.2
/-- the frame closes -/
theorem RE.close (h : RE m0 mem tb n b r s E W (f + 1) o fr q) {mem' : zF} (h1 : ∀ i, i ≠ 261 → mem' i = mem i) (h2 : ∀ j, j ≠ 45 → j ≠ 46 → mem' 261 j = mem 261 j) (h45 : mem' 261 45 = (f : Int) + 1) {o2 : Int} (h46 : mem' 261 46 = o2) : RE m0 mem' tb n b r s E W f o2 fr q := by
  obtain ⟨a1, a2, a3, a4, a5, a6, a7⟩ := h
  refine ⟨a1.fr (fun j hj => h2 j (by omega) (by omega)) (h1 262 (by decide)), a2.r261 h1 (fun j _ _ _ _ _ _ _ _ _ x y _ _ => h2 j x y), ?_, ?_, ?_, ⟨h45, h46, ?_⟩, ?_⟩
  · rw [h2 38 (by decide) (by decide), h2 39 (by decide) (by decide)]; exact a3
  · rw [h2 37 (by decide) (by decide), h1 281 (by decide), h1 282 (by decide)]; exact a4
  · rw [h2 48 (by decide) (by decide), h1 291 (by decide)]; exact a5
  · rw [h2 49 (by decide) (by decide)]; exact a6.2.2
  · intro g hg
    rw [h1 286 (by decide), h1 287 (by decide), h1 288 (by decide), h1 289 (by decide), h1 290 (by decide)]
    exact a7 g (by omega)
end REXP
