/-! THE CLASS'S SCENES -/
def zdom (s k : Nat) : Prop := (s = 0 ∧ (k < 3 ∨ k = 11)) ∨ (1 ≤ s ∧ s ≤ 7 ∧ k < 6) ∨ (s = 8 ∧ k < 24)
def SC (mem : zF) (o : Nat) (sc : zF) : Prop := ∀ s k, zdom s k → mem (o + s) k = sc s k
theorem zdom_le {s k : Nat} (h : zdom s k) : s ≤ 8 := by
  unfold zdom at h
  omega
theorem SC.i {mem sc : zF} {o : Nat} (h : SC mem o sc) (s : Nat) (h1 : 1 ≤ s ∧ s ≤ 7) {b : Int} (hb : 0 ≤ b ∧ b < 6) : mem (o + s) b.toNat = sc s b.toNat := h s b.toNat (Or.inr (Or.inl ⟨h1.1, h1.2, by omega⟩))
theorem SC.z {mem sc : zF} {o : Nat} (h : SC mem o sc) (j : Nat) (hj : j < 3 ∨ j = 11) : mem o j = sc 0 j := h 0 j (Or.inl ⟨rfl, hj⟩)
theorem SC.e {mem sc : zF} {o : Nat} (h : SC mem o sc) (j : Nat) (hj : j < 24) : mem (o + 8) j = sc 8 j := h 8 j (Or.inr (Or.inr ⟨rfl, hj⟩))
theorem SC.up {mem sc : zF} {o : Nat} (h : SC mem o sc) (s k : Nat) (v : Int) : SC (zup mem (o + s) k v) o (zup sc s k v) := by
  intro a j ha
  rw [zup_get, zup_get]
  by_cases e : a = s ∧ j = k
  · rw [if_pos e, if_pos ⟨by omega, e.2⟩]
  · rw [if_neg e, if_neg (fun q => e ⟨by omega, q.2⟩)]
    exact h a j ha
theorem SC.up0 {mem sc : zF} {o : Nat} (h : SC mem o sc) (k : Nat) (v : Int) : SC (zup mem o k v) o (zup sc 0 k v) := h.up 0 k v
theorem SC.fr {mem mem' sc : zF} {o : Nat} (h : SC mem o sc) (hf : ∀ i, o ≤ i → i ≤ o + 8 → mem' i = mem i) : SC mem' o sc := by
  intro a j ha
  have := zdom_le ha
  rw [hf (o + a) (by omega) (by omega)]
  exact h a j ha
theorem SC.same {mem sc sc' : zF} {o : Nat} (h : SC mem o sc) (e : ∀ s k, zdom s k → sc' s k = sc s k) : SC mem o sc' := fun s k hz => (h s k hz).trans (e s k hz).symm
/-- only the scene at o has changed -/
def FS (o : Nat) (mem mem' : zF) : Prop := ∀ i, (i < o ∨ o + 8 < i) → mem' i = mem i
theorem FS.rfl {o : Nat} {mem : zF} : FS o mem mem := fun _ _ => Eq.refl _
theorem FS.trans {o : Nat} {m1 m2 m3 : zF} (h1 : FS o m1 m2) (h2 : FS o m2 m3) : FS o m1 m3 := fun i hi => (h2 i hi).trans (h1 i hi)
theorem FS.up {o s k : Nat} {m1 m2 : zF} {v : Int} (h : FS o m1 m2) (hs : s ≤ 8) : FS o m1 (zup m2 (o + s) k v) := fun i hi => by rw [zup_row _ _ _ (by omega)]; exact h i hi
theorem FS.up0 {o k : Nat} {m1 m2 : zF} {v : Int} (h : FS o m1 m2) : FS o m1 (zup m2 o k v) := h.up (s := 0) (by decide)
section CSC
variable {X : zX} {o : Nat} {rf pl sc : zF}
theorem u_heirIn_2 {d : Nat} {Q : Int → zF → Prop} {mem : zF} (hR : zall rf zRK = true) (ho : zScn rf o) (hs : SC mem o sc) (hr : ∀ k : Int, 0 ≤ k → k < 6 → inI (sc 1 k.toNat)) {c : Int} (hc : inI c) : ∀ (n : Nat) {b : Int}, 0 ≤ b → b + n = 6 → Q (aFd (fun k => decide (sc 1 k.toNat = c ∧ c ≠ -1)) b n) mem → L_scene_heirIn_2 X d rf Q mem o c b
  | 0, b, h0, hb, kk => s_scene_heirIn_2 hR ho ⟨by omega, fun _ => kk, fun q => absurd q (by omega)⟩
  | n + 1, b, h0, hb, kk => by
    refine s_scene_heirIn_2 hR ho ⟨by omega, fun q => absurd q (by omega), fun _ => ⟨by omega, ?_⟩⟩
    rw [hs.i 1 (by decide) (by omega)]
    unfold aFd at kk
    refine ⟨⟨hr b h0 (by omega), hc⟩, fun q => ?_, fun q => ⟨hc, fun q2 => ?_, fun q2 => ?_⟩⟩
    · rw [if_neg (by simp [q])] at kk
      exact u_heirIn_2 hR ho hs hr hc n (by omega) (by omega) kk
    · rw [if_neg (by simp [q2])] at kk
      exact u_heirIn_2 hR ho hs hr hc n (by omega) (by omega) kk
    · rw [if_pos (by simp [q, q2])] at kk
      exact kk
theorem u_heirIn {d : Nat} {Q : Int → zF → Prop} {mem : zF} (hR : zall rf zRK = true) (ho : zScn rf o) (hs : SC mem o sc) (hr : ∀ k : Int, 0 ≤ k → k < 6 → inI (sc 1 k.toNat)) {c : Int} (hc : inI c) (kk : Q (aHeirIn sc c) mem) : Ci X d 88 [(2, o), (0, c)] rf mem Q :=
  s_scene_heirIn hR ho (u_heirIn_2 hR ho hs hr hc 6 (by omega) (by omega) kk)
theorem u_isSlot {d : Nat} {Q : Int → zF → Prop} {mem : zF} (hR : zall rf zRK = true) {x : Int} (hx : 0 ≤ x ∧ x < 6) (kk : Q 1 mem) : Ci X d 96 [(0, x)] rf mem Q :=
  s_scene_isSlot hR ⟨by omega, fun q => absurd q (by omega), fun _ => ⟨by omega, fun q => absurd q (by omega), fun _ => kk⟩⟩
theorem u_clear {d : Nat} {Q : zF → Prop} {mem : zF} (hR : zall rf zRK = true) (ho : zScn rf o) (hs : SC mem o sc) {b : Int} (hb : 0 ≤ b ∧ b < 6) (kk : ∀ mem', SC mem' o (aClear b sc) → FS o mem mem' → Q mem') : Cv X d 97 [(2, o), (0, b)] rf mem Q :=
  s_scene_clearBubble hR ho ⟨hb, hb, hb, hb, kk _ ((((hs.up 2 _ _).up 3 _ _).up 4 _ _).up 5 _ _) ((((FS.rfl.up (by decide)).up (by decide)).up (by decide)).up (by decide))⟩
theorem u_joinTwo {D : Nat} {Q : zF → Prop} {mem : zF} (hR : zall rf zRK = true) (ho : zScn rf o) (hD : 1 ≤ D) (hs : SC mem o sc) (hW : WS pl sc) {b c : Int} (hb : 0 ≤ b ∧ b < 6) (hc : 0 ≤ c ∧ c < 6) (kk : ∀ mem', SC mem' o (aTwo b c sc) → FS o mem mem' → Q mem') : Cv X D 93 [(2, o), (0, b), (0, c)] rf mem Q := by
  obtain ⟨d, rfl⟩ : ∃ d, D = d + 1 := ⟨D - 1, by omega⟩
  have f1 := hW.film hb
  have f2 := hW.film hc
  have f3 := hW.size hb
  have f4 := hW.size hc
  refine s_scene_joinTwo hR ho (u_isSlot hR hb ⟨by decide, fun q => absurd q (by decide), fun _ => u_isSlot hR hc ⟨by decide, fun q => absurd q (by decide), fun _ => ⟨hb, hc, ?_⟩⟩⟩)
  rw [hs.i 3 (by decide) hb, hs.i 3 (by decide) hc]
  refine u_max hR (by omega) (by omega) ⟨hb, hb, hc, ?_⟩
  rw [zup_row _ _ _ (show o + 4 ≠ o + 3 by omega), hs.i 4 (by decide) hb, hs.i 4 (by decide) hc]
  refine u_min hR (by decide) (by omega) ⟨hb, hb, hc, hb, ?_⟩
  rw [zup_row _ _ _ (show o + 5 ≠ o + 4 by omega), zup_row _ _ _ (show o + 5 ≠ o + 3 by omega), hs.i 5 (by decide) hb, hs.i 5 (by decide) hc]
  refine u_clear hR ho (((hs.up 3 _ _).up 4 _ _).up 5 _ _) hc ?_
  intro mem' g1 g2
  exact kk mem' g1 ((((FS.rfl.up (by decide)).up (by decide)).up (by decide)).trans g2)
theorem u_keep {D : Nat} {Q : zF → Prop} {mem : zF} (hR : zall rf zRK = true) (ho : zScn rf o) (hD : 1 ≤ D) (hs : SC mem o sc) (hk : 0 ≤ sc 0 11 ∧ sc 0 11 < 6) {b h n : Int} (kk : ∀ mem', SC mem' o (aKeep b h n sc) → FS o mem mem' → Q mem') : Cv X D 98 [(2, o), (0, b), (0, h), (0, n)] rf mem Q := by
  obtain ⟨d, rfl⟩ : ∃ d, D = d + 1 := ⟨D - 1, by omega⟩
  refine s_scene_keep hR ho ?_
  rw [hs.z 11 (Or.inr rfl)]
  refine u_isSlot hR hk ⟨by decide, fun q => absurd q (by decide), fun _ => ?_⟩
  rw [hs.z 11 (Or.inr rfl), hs.z 0 (Or.inl (by decide))]
  rw [zup_row _ _ _ (show o ≠ o + 8 by omega), zup_row _ _ _ (show o ≠ o + 8 by omega), zup_row _ _ _ (show o ≠ o + 8 by omega), zup_row _ _ _ (show o ≠ o + 8 by omega), hs.z 11 (Or.inr rfl)]
  refine ⟨by omega, by omega, by omega, by omega, kk _ (((((hs.up 8 _ _).up 8 _ _).up 8 _ _).up 8 _ _).up0 _ _) (((((FS.rfl.up (by decide)).up (by decide)).up (by decide)).up (by decide)).up0)⟩
theorem u_burst_20 {d : Nat} {Q : zF → Prop} (hR : zall rf zRK = true) (ho : zScn rf o) (hD : 1 ≤ d) {b h cn dd : Int} (hb : 0 ≤ b ∧ b < 6) (hdd : 0 ≤ dd ∧ dd < 64) : ∀ (n : Nat) {x : Int} {mem sc : zF}, 0 ≤ x → x + n = 6 → SC mem o sc → sc 5 b.toNat = dd → (0 ≤ sc 0 11 ∧ sc 0 11 < 6) → (∀ mem', SC mem' o (aKeep b h cn (aClear b (aIt (aOwn1 h dd) x n sc))) → FS o mem mem' → Q mem') → L_scene_burst_20 X d rf Q mem o b h cn x
  | 0, x, mem, sc, h0, hx, hs, h5, hk, kk => by
    refine s_scene_burst_20 hR ho ⟨by omega, fun _ => ?_, fun q => absurd q (by omega)⟩
    refine u_clear hR ho hs hb ?_
    intro mem1 g1 g2
    refine u_keep hR ho hD g1 (by rw [aClear_row _ (by omega)]; exact hk) ?_
    intro mem2 g3 g4
    exact kk mem2 g3 (g2.trans g4)
  | n + 1, x, mem, sc, h0, hx, hs, h5, hk, kk => by
    refine s_scene_burst_20 hR ho ⟨by omega, fun q => absurd q (by omega), fun _ => ⟨hb, ?_⟩⟩
    rw [hs.i 5 (by decide) hb, h5]
    unfold aIt aOwn1 at kk
    refine ⟨zbit_inI hdd (by omega), fun q => ?_, fun q => ⟨by omega, ?_⟩⟩
    · rw [if_neg (show ¬ zbit dd x = 1 from q)] at kk
      exact u_burst_20 hR ho hD hb hdd n (by omega) (by omega) hs h5 hk kk
    · rw [if_pos (show zbit dd x = 1 from q)] at kk
      refine u_burst_20 hR ho hD hb hdd n (by omega) (by omega) (hs.up 6 _ _) (by rw [zup_row _ _ _ (by decide)]; exact h5) (by rw [zup_row _ _ _ (by decide)]; exact hk) ?_
      intro mem' g1 g2
      exact kk mem' g1 ((FS.rfl.up (by decide)).trans g2)
theorem u_burst {D : Nat} {Q : zF → Prop} {mem : zF} (hR : zall rf zRK = true) (ho : zScn rf o) (hD : 2 ≤ D) (hs : SC mem o sc) (hW : WS pl sc) {b h : Int} (hb : 0 ≤ b ∧ b < 6) (hf : sc 2 b.toNat ≠ -1) (kk : ∀ mem', SC mem' o (aBurst b h sc) → FS o mem mem' → Q mem') : Cv X D 94 [(2, o), (0, b), (0, h)] rf mem Q := by
  obtain ⟨d, rfl⟩ : ∃ d, D = d + 1 := ⟨D - 1, by omega⟩
  have hd := hW.deeds hb
  have hk := hW.kept
  have hfl := zfl_pos hb hf
  refine s_scene_burst hR ho (u_isSlot hR hb ⟨by decide, fun q => absurd q (by decide), fun _ => ⟨hb, ?_⟩⟩)
  rw [hs.i 5 (by decide) hb]
  refine u_bitCount hR hd ?_
  exact u_burst_20 hR ho (by omega) hb hd 6 (by omega) (by omega) hs rfl (by omega) kk
theorem u_addRent_2 {d : Nat} {Q : zF → Prop} (hR : zall rf zRK = true) (ho : zScn rf o) {b more : Int} (hb : 0 ≤ b ∧ b < 6) (hm : 0 ≤ more ∧ more ≤ 9) : ∀ (n : Nat) {x : Int} {mem sc : zF}, 0 ≤ x → x + n = 6 → SC mem o sc → WS pl sc → (∀ mem', SC mem' o (aIt (aRent1 b more) x n sc) → FS o mem mem' → Q mem') → L_scene_addRent_2 X d rf Q mem o b more x
  | 0, x, mem, sc, h0, hx, hs, hW, kk => s_scene_addRent_2 hR ho ⟨by omega, fun _ => kk mem hs FS.rfl, fun q => absurd q (by omega)⟩
  | n + 1, x, mem, sc, h0, hx, hs, hW, kk => by
    have hdd := hW.deeds hb
    have hrr := hW.rent (k := x) (by omega)
    refine s_scene_addRent_2 hR ho ⟨by omega, fun q => absurd q (by omega), fun _ => u_isSlot hR hb ⟨by decide, fun q => absurd q (by decide), fun _ => ⟨hb, ?_⟩⟩⟩
    rw [hs.i 5 (by decide) hb, hs.i 7 (by decide) (by omega)]
    unfold aIt aRent1 at kk
    refine ⟨zbit_inI hdd (by omega), fun q => ?_, fun q => ⟨by omega, ?_⟩⟩
    · rw [if_neg (show ¬ zbit (sc 5 b.toNat) x = 1 from q)] at kk
      exact u_addRent_2 hR ho hb hm n (by omega) (by omega) hs hW kk
    · rw [if_pos (show zbit (sc 5 b.toNat) x = 1 from q)] at kk
      refine u_min hR (by decide) (by omega) ⟨by omega, ?_⟩
      refine u_addRent_2 hR ho hb hm n (by omega) (by omega) (hs.up 7 _ _) (hW.s7 (by omega) ((hW.bt b x hb.1 hb.2 h0 (by omega) q).1) (by omega)) ?_
      intro mem' g1 g2
      exact kk mem' g1 ((FS.rfl.up (by decide)).trans g2)
theorem u_addRent {D : Nat} {Q : zF → Prop} {mem : zF} (hR : zall rf zRK = true) (ho : zScn rf o) (hD : 1 ≤ D) (hs : SC mem o sc) (hW : WS pl sc) {b more : Int} (hb : 0 ≤ b ∧ b < 6) (hm : 0 ≤ more ∧ more ≤ 9) (kk : ∀ mem', SC mem' o (aRent b more sc) → FS o mem mem' → Q mem') : Cv X D 95 [(2, o), (0, b), (0, more)] rf mem Q := by
  obtain ⟨d, rfl⟩ : ∃ d, D = d + 1 := ⟨D - 1, by omega⟩
  exact s_scene_addRent hR ho (u_addRent_2 hR ho hb hm 6 (by omega) (by omega) hs hW kk)
end CSC
