/-! THE SMALL MACHINE IS SOUND -/
def zWd (D : va_G) (cl : List vw_C) (aC : Nat → ClassId) (ov : Nat → Value) (A : Nat → Prop) (X : zX) (ad : Nat → Nat) (S : zS) (U : State) : Prop := (∀ q, U.heap.size ≤ q → A q) ∧ zEnv D cl aC ov A X U U.heap ∧ va_P D cl (zw cl aC ad S) U.heap ∧ va_D A (zw cl aC ad S) ∧ ∀ t ∈ S.1, t.2 < 100000
def zPc (D : va_G) (cl : List vw_C) (aC : Nat → ClassId) (ov : Nat → Value) (A : Nat → Prop) (X : zX) (ad : Nat → Nat) (S : zS) (as : List zV) : Array Value → State → Prop := fun v U => v = (as.map (zc ov ad)).toArray ∧ zWd D cl aC ov A X ad S U
def zQc (D : va_G) (cl : List vw_C) (aC : Nat → ClassId) (ov : Nat → Value) (A : Nat → Prop) (ad : Nat → Nat) (S : zS) (r : Option zV) (S' : zS) : Array Value → State → Outcome → State → Prop := fun _ st o t => ∃ ad' : Nat → Nat, o = .returned (r.map (zc ov ad')) ∧ (∀ i, i < S.1.length → ad' i = ad i) ∧ (S'.1.length = S.1.length → ad' = ad) ∧ va_P D cl (zw cl aC ad' S') t.heap ∧ va_D A (zw cl aC ad' S') ∧ (∀ t ∈ S'.1, t.2 < 100000) ∧ va_F A st t
theorem zPc_blind {D : va_G} {cl : List vw_C} {aC : Nat → ClassId} {ov : Nat → Value} {A : Nat → Prop} {X : zX} {ad : Nat → Nat} {S : zS} {as : List zV} : FrameBlind (zPc D cl aC ov A X ad S as) := by
  intro a U g mk h
  obtain ⟨h1, h2, h3, h4, h5, h6⟩ := h
  exact ⟨h1, h2, h3.move (Vm.Alike.refl U.vm) (fun a q => vk_R.same rfl q) (fun a i x h q => va_tabs (c := .methodLinkNest a i x h) (A := #[]) (u := U) rfl rfl q) (Nat.le_refl _) (fun _ _ _ => rfl), h4, h5, h6⟩
theorem zWd_at {D : va_G} {cl : List vw_C} {aC : Nat → ClassId} {ov : Nat → Value} {A : Nat → Prop} {X : zX} {ad : Nat → Nat} {S : zS} {s U : State} {H : Heap} {locs : List Loc} (hA : ∀ q, s.heap.size ≤ q → A q) (hE : zEnv D cl aC ov A X s s.heap) (hP : va_P D cl (zw cl aC ad S) H) (hD : va_D A (zw cl aC ad S)) (h5 : ∀ t ∈ S.1, t.2 < 100000) (hS : va_S A s.heap H locs) (hU : U.heap = H) (hW : s.WarmedH U.vm) : zWd D cl aC ov A X ad S U := by
  subst hU
  exact ⟨fun q hq => hA q (Nat.le_trans hS.1 hq), hE.move hW.alike (fun a q => vk_R.warm hW q) (fun a i x h q => va_Nw.warmM hW q) hS.1 hS.2.1, hP, hD, h5⟩
/-- locals at a method's entry -/
theorem zloc_len {ov : Nat → Value} (hov : ∀ k, (ov k).category = 1) {ad : Nat → Nat} : ∀ as : List zV, (lg_sl (as.map (zc ov ad))).length = (zloc as).length
  | [] => rfl
  | v :: as => by
    have ih := zloc_len hov (ad := ad) as
    have hc := zc_cat hov (ad := ad) (v := v)
    unfold zloc
    simp only [List.map_cons]
    by_cases h : v.1 = 1
    · rw [if_pos h] at hc ⊢
      simp only [lg_sl, List.flatMap_cons, List.length_append] at ih ⊢
      simp [hc, lg_sl, ih]
      omega
    · rw [if_neg h] at hc ⊢
      simp only [lg_sl, List.flatMap_cons, List.length_append] at ih ⊢
      simp [hc, lg_sl, ih]
      omega
theorem zloc_at {ov : Nat → Value} (hov : ∀ k, (ov k).category = 1) {ad : Nat → Nat} : ∀ (as : List zV) (o i : Nat), ((zloc as).getD i (9, 0)).1 ≠ 9 → (o + i, zc ov ad ((zloc as).getD i (9, 0))) ∈ lv_args o (as.map (zc ov ad))
  | [], o, i, h => absurd rfl h
  | v :: as, o, i, h => by
    have hc := zc_cat hov (ad := ad) (v := v)
    unfold zloc at h ⊢
    simp only [List.map_cons]
    unfold lv_args
    by_cases hv : v.1 = 1
    · rw [if_pos hv] at h ⊢ hc
      rw [if_pos hc]
      match i, h with
      | 0, h => exact List.mem_cons_self
      | 1, h => exact absurd rfl h
      | i + 2, h =>
        have ih := zloc_at hov (ad := ad) as (o + 2) i h
        refine List.mem_cons_of_mem _ ?_
        rw [show o + (i + 2) = o + 2 + i by omega]
        exact ih
    · rw [if_neg hv] at h ⊢ hc
      rw [if_neg (by omega)]
      match i, h with
      | 0, h => exact List.mem_cons_self
      | i + 1, h =>
        have ih := zloc_at hov (ad := ad) as (o + 1) i h
        refine List.mem_cons_of_mem _ ?_
        rw [show o + (i + 1) = o + 1 + i by omega]
        exact ih
theorem zpad_get {n : Nat} {l : List zV} {i : Nat} : (zpad n l).getD i (9, 0) = l.getD i (9, 0) := by
  unfold zpad
  simp only [List.getD_eq_getElem?_getD]
  by_cases h : i < l.length
  · rw [List.getElem?_append_left h]
  · rw [List.getElem?_append_right (by omega), List.getElem?_eq_none (l := l) (by omega), List.getElem?_replicate]
    split <;> rfl
theorem zpad_len {n : Nat} {l : List zV} (h : l.length ≤ n) : (zpad n l).length = n := by
  unfold zpad
  simp
  omega
theorem zentry {ov : Nat → Value} (hov : ∀ k, (ov k).category = 1) {ad : Nat → Nat} {as : List zV} {n : Nat} {L : Array Slot} (h : (zloc as).length ≤ n) (hl : lv_has L n (lv_args 0 (as.map (zc ov ad)))) : zlv ov ad (zpad n (zloc as)) L := by
  refine ⟨by rw [zpad_len h]; exact hl.1, hl.2.1, fun i hi => ?_⟩
  rw [zpad_get] at hi ⊢
  have := hl.2.2 _ (zloc_at hov (ad := ad) as 0 i hi)
  rw [Nat.zero_add] at this
  exact this
