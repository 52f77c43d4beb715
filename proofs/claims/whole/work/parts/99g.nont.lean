/-! what is read: one judgement of both -/
def zts (k : Int) : Prop := k = 1 ∨ k = 5 ∨ k = 6
def tck (r : Int) : zC → List Bool → Option (List Bool)
  | [], st => some st
  | x :: C, st => match ztc r x.1 x.2 st with
    | none => none
    | some st' => tck r C st'
theorem tck_app {r : Int} (D : zC) : ∀ (C : zC) {st st' : List Bool}, tck r C st = some st' → tck r (C ++ D) st = tck r D st'
  | [], st, st', h => by
    cases h
    rfl
  | x :: C, st, st', h => by
    show (match ztc r x.1 x.2 st with | none => none | some s => tck r (C ++ D) s) = tck r D st'
    have h : (match ztc r x.1 x.2 st with | none => none | some s => tck r C s) = some st' := h
    cases hq : ztc r x.1 x.2 st with
    | none => rw [hq] at h; cases h
    | some s =>
      rw [hq] at h
      exact tck_app D C h
theorem tck_one {r : Int} {x : Int × Int} {st st' : List Bool} (h : ztc r x.1 x.2 st = some st') : tck r [x] st = some st' := by
  show (match ztc r x.1 x.2 st with | none => none | some s => tck r [] s) = some st'
  rw [h]
  rfl
/-- bounds of the ops that wait -/
def RB (lv lb kB op s : Int) (E : zC) (A B : List Int) (f : Nat) (fr : zF) : Prop :=
  (f : Int) ≤ op ∧ (0 ≤ op ∧ op ≤ 7) ∧ (∀ x ∈ B, 31 ≤ x ∧ x ≤ 43) ∧ (0 ≤ fr 4 f ∧ fr 4 f ≤ (B.length : Int)) ∧ ((B.length : Int) = fr 4 f ∨ rk (B.headD 0) < lb) ∧ (B.length : Int) ≤ 5 * op + kB ∧ ((E.length : Int) + A.length + B.length ≤ s) ∧ (∀ a ∈ A, (31 ≤ a ∧ a ≤ 43) ∧ lv ≤ rk a) ∧ (5 ≤ lv → (A.length : Int) ≤ 7 - lv) ∧ (A.length : Int) ≤ 14 - lv - op
def nar (tb : Nat → Int) (n s : Int) : Prop := tCod tb n s ≠ 10043 ∧ tCod tb n s ≠ 10045 ∧ tCod tb n s ≠ 10042 ∧ tCod tb n s ≠ 10047 ∧ tCod tb n s ≠ 10037
def nml (tb : Nat → Int) (n s : Int) : Prop := tCod tb n s ≠ 10042 ∧ tCod tb n s ≠ 10047 ∧ tCod tb n s ≠ 10037
def cS (tb : Nat → Int) (n s : Int) (fr : zF) (f : Nat) : Prop := (0 ≤ fr 1 f ∧ fr 1 f ≤ 1) ∧ inI (fr 2 f) ∧ (¬ zts (fr 0 f) ∨ fr 2 f = 0 ∨ (tCod tb n s ≠ 20023 ∧ tCod tb n s ≠ 10091 ∧ tCod tb n s ≠ 20024))
def cS1 (fr : zF) (f : Nat) : Prop := (0 ≤ fr 1 f ∧ fr 1 f ≤ 1) ∧ fr 2 f = 0
def cT (fr : zF) (f : Nat) : Prop := zts (fr 0 f) ∧ fr 1 f = 0 ∧ fr 2 f = 1
def cT1 (tb : Nat → Int) (n s : Int) (fr : zF) (f : Nat) : Prop := zts (fr 0 f) ∧ (fr 1 f = 2 ∨ (fr 1 f = 1 ∧ nar tb n s)) ∧ inI (fr 2 f)
abbrev zRP := zF → zF → Int → zC → List Int → List Int → Nat → zF → Prop
def RSy (tb : Nat → Int) (n r : Int) (q lv lb kB op s : Int) (cd : zF → Nat → Prop) : zRP := fun m0 mem b E A B f fr => RE m0 mem tb n b r s E (A ++ B) f (op + nots A) fr q ∧ RB lv lb kB op s E A B f fr ∧ (0 ≤ fr 0 f ∧ fr 0 f ≤ 6) ∧ cd fr f
abbrev RSx (tb : Nat → Int) (n r : Int) (q lv kB op s : Int) (cd : zF → Nat → Prop) : zRP := RSy tb n r q lv lv kB op s cd
def RS0y (tb : Nat → Int) (n r : Int) (lv lb kB op s : Int) (cd : zF → Nat → Prop) : zRP := fun m0 mem b E A B f fr => A = [] ∧ RSy tb n r 0 lv lb kB op s cd m0 mem b E A B f fr
def RS0 (tb : Nat → Int) (n r : Int) (lv kB op s : Int) (cd : zF → Nat → Prop) : zRP := fun m0 mem b E A B f fr => A = [] ∧ RSx tb n r 0 lv kB op s cd m0 mem b E A B f fr
def FRs (fr fr' : zF) (f : Nat) : Prop := (∀ sl g, g < f → fr' sl g = fr sl g) ∧ fr' 0 f = fr 0 f ∧ fr' 1 f = fr 1 f ∧ fr' 3 f = fr 3 f ∧ fr' 4 f = fr 4 f
def FRt (fr fr' : zF) (f : Nat) : Prop := (∀ sl g, g < f → fr' sl g = fr sl g) ∧ fr' 0 f = fr 0 f ∧ fr' 3 f = fr 3 f ∧ fr' 4 f = fr 4 f
theorem FRs.rfl {fr : zF} {f : Nat} : FRs fr fr f := ⟨fun _ _ _ => Eq.refl _, Eq.refl _, Eq.refl _, Eq.refl _, Eq.refl _⟩
theorem FRs.trans {a b c : zF} {f : Nat} (h1 : FRs a b f) (h2 : FRs b c f) : FRs a c f := ⟨fun sl g hg => (h2.1 sl g hg).trans (h1.1 sl g hg), h2.2.1.trans h1.2.1, h2.2.2.1.trans h1.2.2.1, h2.2.2.2.1.trans h1.2.2.2.1, h2.2.2.2.2.trans h1.2.2.2.2⟩
theorem FRt.rfl {fr : zF} {f : Nat} : FRt fr fr f := ⟨fun _ _ _ => Eq.refl _, Eq.refl _, Eq.refl _, Eq.refl _⟩
theorem FRt.trans {a b c : zF} {f : Nat} (h1 : FRt a b f) (h2 : FRt b c f) : FRt a c f := ⟨fun sl g hg => (h2.1 sl g hg).trans (h1.1 sl g hg), h2.2.1.trans h1.2.1, h2.2.2.1.trans h1.2.2.1, h2.2.2.2.trans h1.2.2.2⟩
theorem FRs.t {a b : zF} {f : Nat} (h : FRs a b f) : FRt a b f := ⟨h.1, h.2.1, h.2.2.2.1, h.2.2.2.2⟩
def CFl (p : Nat) (tb : Nat → Int) (n r : Int) (cr : zF → (Int → zF → Prop) → Prop) (s k pc : Int) : Prop := ∀ (m0 mem : zF) (L : zC) (Q : Int → zF → Prop), CE m0 mem p tb n r s L → (L.length : Int) ≤ s → (∀ mem', CEF m0 mem' p k pc → Q 0 mem') → cr mem Q
def COk (p : Nat) (tb : Nat → Int) (n r : Int) (cr : zF → (Int → zF → Prop) → Prop) (s s' : Int) (C : zC) : Prop := ∀ (m0 mem : zF) (L : zC) (Q : Int → zF → Prop), CE m0 mem p tb n r s L → (L.length : Int) ≤ s → (∀ mem', CE m0 mem' p tb n r s' (L ++ C) → Q 1 mem') → cr mem Q
def RFl (X : zX) (rf : zF) (rp : zRP) (k pc : Int) : Prop := ∀ (m0 : zF) (b : Int) (E : zC) (A B : List Int) (f : Nat) (fr mem : zF) (d : Nat) (Q : zF → Prop), rp m0 mem b E A B f fr → 5 ≤ d → (∀ mem', REF m0 mem' b k pc → Q mem') → L_m_reads_43 X d rf Q mem 1
def ROk (X : zX) (rf : zF) (rp rq : zRP) (FR : zF → zF → Nat → Prop) (C : zC) : Prop := ∀ (m0 : zF) (b : Int) (E : zC) (A B : List Int) (f : Nat) (fr mem : zF) (d : Nat) (Q : zF → Prop), rp m0 mem b E A B f fr → 5 ≤ d → (∀ (mem' : zF) (E' : zC) (A' : List Int) (fr' : zF), rq m0 mem' b E' A' B f fr' → FR fr fr' f → E' ++ zz A' = E ++ zz A ++ C → L_m_reads_43 X d rf Q mem' 1) → L_m_reads_43 X d rf Q mem 1
def NT (X : zX) (rf : zF) (p : Nat) (tb : Nat → Int) (n r : Int) (cr : zF → (Int → zF → Prop) → Prop) (rp : zRP) (rq : Int → zRP) (FR : zF → zF → Nat → Prop) (ty : zC → Prop) (ec : Int → Prop) (s : Int) : Prop :=
  (∃ k pc : Int, (1 ≤ k ∧ k ≤ 6) ∧ inI pc ∧ CFl p tb n r cr s k pc ∧ RFl X rf rp k pc) ∨ (∃ (s' : Int) (C : zC), (s ≤ s' ∧ s' ≤ n) ∧ (C.length : Int) ≤ s' - s ∧ COk p tb n r cr s s' C ∧ ROk X rf rp (rq s') FR C ∧ ty C ∧ ec s')
def TyS (r kB op : Int) (v : Bool) (C : zC) : Prop := ∀ st : List Bool, (st.length : Int) ≤ 5 * op + kB → tck r C st = some (v :: st)
def TyR (r kB op : Int) (v : Bool) (C : zC) : Prop := ∀ st : List Bool, (st.length : Int) ≤ 5 * op + kB → tck r C (v :: st) = some (v :: st)
section RD
variable {X : zX} {rf mem : zF} {d : Nat} {Q : zF → Prop}
theorem rd_op (hR : zall rf zRK = true) (h : mem 261 49 = 0) (hh : Ci X d 218 [(2, 261)] rf mem (fun r m => (r = 0 ∨ r = 1) ∧ ((1 ≤ m 261 8 ∧ m 261 8 ≤ 6 ∧ Q (zup m 261 49 r)) ∨ (m 261 8 = 0 ∧ L_m_reads_43 X d rf Q (zup m 261 49 r) 1)))) : L_m_reads_43 X d rf Q mem 1 := by
  refine s_m_reads_43 hR ⟨by decide, fun q => absurd q (by decide), fun _ => ?_⟩
  rw [h]
  refine ⟨by decide, fun q => absurd rfl q, fun _ => Ci.imp hh (fun r m hq => ⟨hq.1, ?_⟩)⟩
  have e8 : (zup m 261 49 r) 261 8 = m 261 8 := zup_ne _ _ _ _ (by decide)
  refine s_m_reads_70 hR ⟨by decide, fun q => absurd q (by decide), fun _ => ?_⟩
  rw [e8]
  rcases hq.2 with ⟨h1, h2, h3⟩ | ⟨h1, h2⟩
  · exact ⟨by omega, fun _ => s_m_reads_43 hR ⟨by decide, fun _ => h3, fun q => absurd rfl q⟩, fun q => absurd q (by omega)⟩
  · exact ⟨by omega, fun q => absurd h1 q, fun _ => h2⟩
theorem rd_go (hR : zall rf zRK = true) (h : mem 261 49 = 1) (hh : Ci X d 219 [(2, 261)] rf mem (fun r m => (r = 0 ∧ Q m) ∨ (r = 1 ∧ m 261 8 = 0 ∧ L_m_reads_43 X d rf Q m 1))) : L_m_reads_43 X d rf Q mem 1 := by
  refine s_m_reads_43 hR ⟨by decide, fun q => absurd q (by decide), fun _ => ?_⟩
  rw [h]
  refine ⟨by decide, fun _ => Ci.imp hh (fun r m hq => ?_), fun q => absurd q (by decide)⟩
  rcases hq with ⟨e, h1⟩ | ⟨e, h1, h2⟩
  · rw [e]
    exact s_m_reads_70 hR ⟨by decide, fun _ => s_m_reads_43 hR ⟨by decide, fun _ => h1, fun q => absurd rfl q⟩, fun q => absurd rfl q⟩
  · rw [e]
    refine s_m_reads_70 hR ⟨by decide, fun q => absurd q (by decide), fun _ => ?_⟩
    rw [h1]
    exact ⟨by decide, fun q => absurd rfl q, fun _ => h2⟩
theorem t_isTest {Q : Int → zF → Prop} (hR : zall rf zRK = true) {x : Int} (hx : 0 ≤ x ∧ x ≤ 6) (k1 : zts x → Q 1 mem) (k0 : ¬ zts x → Q 0 mem) : Ci X d 217 [(0, x)] rf mem Q := by
  have hi : inI x := by omega
  exact s_m_isTest hR ⟨hi, fun q => k1 (Or.inl q), fun q1 => ⟨hi, fun q => k1 (Or.inr (Or.inl q)), fun q2 => ⟨hi, fun q3 => k0 (fun c => by unfold zts at c; omega), fun q => k1 (Or.inr (Or.inr q))⟩⟩⟩
end RD
section GARITH
variable {X : zX} {rf m0 mem : zF} {tb : Nat → Int} {n b r s o : Int} {E : zC} {A B : List Int} {f : Nat} {fr : zF}
/-- + - * / % -/
theorem g_arith {d : Nat} {Q : zF → Prop} (hR : zall rf zRK = true) (hb : TBy tb n) (hn : 0 ≤ n ∧ n ≤ 1600) (hd : 5 ≤ d) (h : RE m0 mem tb n b r s E (A ++ B) f o fr 1) (hs : 0 ≤ s ∧ s ≤ n) (hf : f ≤ 15) (hk : 0 ≤ fr 0 f ∧ fr 0 f ≤ 6) (hph : 0 ≤ fr 1 f ∧ fr 1 f ≤ 1) {m : Int} (hm : (tCod tb n s = 10043 ∧ m = 31) ∨ (tCod tb n s = 10045 ∧ m = 32) ∨ (tCod tb n s = 10042 ∧ m = 33) ∨ (tCod tb n s = 10047 ∧ m = 34) ∨ (tCod tb n s = 10037 ∧ m = 35)) (hA : ∀ a ∈ A, (31 ≤ a ∧ a ≤ 43) ∧ rk m ≤ rk a) (hB : ∀ x ∈ B, 31 ≤ x ∧ x ≤ 43) (hbs : 0 ≤ fr 4 f ∧ fr 4 f ≤ (B.length : Int)) (hor : (B.length : Int) = fr 4 f ∨ rk (B.headD 0) < rk m) (hl : E.length + A.length + B.length ≤ 1600) (hl2 : A.length + B.length ≤ 400) (kk : ∀ mem', RE m0 mem' tb n b r (tNxt tb n s) (E ++ zz A) (m :: B) f (o - nots A) fr 0 → L_m_reads_43 X d rf Q mem' 1) : L_m_reads_43 X d rf Q mem 1 := by
  obtain ⟨d, rfl⟩ : ∃ e, d = e + 1 := ⟨d - 1, by omega⟩
  have hc : tCod tb n s ≠ -1 := by omega
  have hg := h.2.2.2.2.2.2 f (Nat.le_refl _)
  have ef : ((f : Int) + 1 - 1).toNat = f := by omega
  refine rd_go hR h.2.2.2.2.2.1.2.2 (s_m_goesOn hR (t_lex hR (by omega) hb hn.2 hs h.1 (fun _ => ?_) (fun q => absurd q hc)))
  have e8 : mem 261 8 = 0 := h.1.2.2.2
  have e45 := h.2.2.2.2.2.1.1
  rw [e8, e45, ef, hg.1]
  have S174 : ∀ m2 : zF, RE m0 m2 tb n b r s (E ++ zz A) B f (o - nots A) fr 1 → L_m_goesOn_174 X d rf (fun r m => (r = 0 ∧ Q m) ∨ (r = 1 ∧ m 261 8 = 0 ∧ L_m_reads_43 X (d + 1) rf Q m 1)) m2 m := by
    intro m2 h2
    refine s_m_goesOn_174 hR (h2.hold hR (by omega) (fun m3 h3 => h3.ahd hR (by omega) hb hn hs (fun m4 h4 => Or.inr ⟨rfl, ?_, kk _ h4.qq⟩)))
    rw [zup_ne _ _ _ _ (by decide)]
    exact h4.1.2.2.2
  have S112 : L_m_goesOn_112 X d rf (fun r m => (r = 0 ∧ Q m) ∨ (r = 1 ∧ m 261 8 = 0 ∧ L_m_reads_43 X (d + 1) rf Q m 1)) mem (rk m) := by
    refine s_m_goesOn_112 hR (RE.join hR (by omega) ?_ hf A h hA hB hbs hor hl hl2 (fun m2 h2 => ?_))
    · unfold rk
      split
      · omega
      · split
        · omega
        · split
          · omega
          · split
            · omega
            · split <;> omega
    have go := S174 m2 h2
    refine t_isSign hR hb hs h2.1 hc (by decide) (fun e => ⟨by decide, fun q => absurd q (by decide), fun _ => ?_⟩) (fun e1 => ⟨by decide, fun _ => ?_, fun q => absurd rfl q⟩)
    · have : m = 31 := by omega
      rw [this] at go; exact go
    refine t_isSign hR hb hs h2.1 hc (by decide) (fun e => ⟨by decide, fun q => absurd q (by decide), fun _ => ?_⟩) (fun e2 => ⟨by decide, fun _ => ?_, fun q => absurd rfl q⟩)
    · have : m = 32 := by omega
      rw [this] at go; exact go
    refine t_isSign hR hb hs h2.1 hc (by decide) (fun e => ⟨by decide, fun q => absurd q (by decide), fun _ => ?_⟩) (fun e3 => ⟨by decide, fun _ => ?_, fun q => absurd rfl q⟩)
    · have : m = 33 := by omega
      rw [this] at go; exact go
    refine t_isSign hR hb hs h2.1 hc (by decide) (fun e => ⟨by decide, fun q => absurd q (by decide), fun _ => ?_⟩) (fun e4 => ⟨by decide, fun _ => ?_, fun q => absurd rfl q⟩)
    · have : m = 34 := by omega
      rw [this] at go; exact go
    · have : m = 35 := by omega
      rw [this] at go; exact go
  have S87 : L_m_goesOn_87 X d rf (fun r m => (r = 0 ∧ Q m) ∨ (r = 1 ∧ m 261 8 = 0 ∧ L_m_reads_43 X (d + 1) rf Q m 1)) mem := by
    refine s_m_goesOn_87 hR (t_isSign hR hb hs h.1 hc (by decide) (fun e => ⟨by decide, fun _ => ?_, fun q => absurd q (by decide)⟩) (fun e1 => ⟨by decide, fun q => absurd rfl q, fun _ => ?_⟩))
    · have : m = 31 := by omega
      rw [this] at S112; exact S112
    refine t_isSign hR hb hs h.1 hc (by decide) (fun e => ⟨by decide, fun q => absurd q (by decide), fun _ => ?_⟩) (fun e2 => ⟨by decide, fun _ => ?_, fun q => absurd rfl q⟩)
    · have : m = 32 := by omega
      rw [this] at S112; exact S112
    · have e6 : rk m = 6 := by
        have : m = 33 ∨ m = 34 ∨ m = 35 := by omega
        rcases this with x | x | x <;> rw [x] <;> decide
      rw [e6] at S112; exact S112
  refine ⟨by decide, fun _ => ⟨by omega, ?_⟩, fun q => absurd (by decide) q⟩
  have fin : ∀ t : Int, (0 ≤ (f : Int) + 1 - 1 ∧ (f : Int) + 1 - 1 < 20) ∧ inI (fr 1 f) ∧ (2 ≤ fr 1 f → L_m_goesOn_188 X d rf (fun r m => (r = 0 ∧ Q m) ∨ (r = 1 ∧ m 261 8 = 0 ∧ L_m_reads_43 X (d + 1) rf Q m 1)) mem ((f : Int) + 1 - 1) (fr 0 f) t) := fun t => ⟨by omega, by omega, fun q => absurd q (by omega)⟩
  have chain : ∀ t : Int, Ci X d 203 [(2, 261), (0, 43)] rf mem (fun r6 mem7 => (inI r6) ∧ ((¬ r6 = 0 → L_m_goesOn_87 X d rf (fun r m => (r = 0 ∧ Q m) ∨ (r = 1 ∧ m 261 8 = 0 ∧ L_m_reads_43 X (d + 1) rf Q m 1)) mem7) ∧ (r6 = 0 → Ci X d 203 [(2, 261), (0, 45)] rf mem7 (fun r9 mem10 => (inI r9) ∧ ((¬ r9 = 0 → L_m_goesOn_87 X d rf (fun r m => (r = 0 ∧ Q m) ∨ (r = 1 ∧ m 261 8 = 0 ∧ L_m_reads_43 X (d + 1) rf Q m 1)) mem10) ∧ (r9 = 0 → Ci X d 203 [(2, 261), (0, 42)] rf mem10 (fun r12 mem13 => (inI r12) ∧ ((¬ r12 = 0 → L_m_goesOn_87 X d rf (fun r m => (r = 0 ∧ Q m) ∨ (r = 1 ∧ m 261 8 = 0 ∧ L_m_reads_43 X (d + 1) rf Q m 1)) mem13) ∧ (r12 = 0 → Ci X d 203 [(2, 261), (0, 47)] rf mem13 (fun r15 mem16 => (inI r15) ∧ ((¬ r15 = 0 → L_m_goesOn_87 X d rf (fun r m => (r = 0 ∧ Q m) ∨ (r = 1 ∧ m 261 8 = 0 ∧ L_m_reads_43 X (d + 1) rf Q m 1)) mem16) ∧ (r15 = 0 → Ci X d 203 [(2, 261), (0, 37)] rf mem16 (fun r18 mem19 => (inI r18) ∧ ((r18 = 0 → L_m_goesOn_188 X d rf (fun r m => (r = 0 ∧ Q m) ∨ (r = 1 ∧ m 261 8 = 0 ∧ L_m_reads_43 X (d + 1) rf Q m 1)) mem19 ((f : Int) + 1 - 1) (fr 0 f) t) ∧ (¬ r18 = 0 → L_m_goesOn_87 X d rf (fun r m => (r = 0 ∧ Q m) ∨ (r = 1 ∧ m 261 8 = 0 ∧ L_m_reads_43 X (d + 1) rf Q m 1)) mem19))))))))))))))) := by
    intro t
    refine t_isSign hR hb hs h.1 hc (by decide) (fun e => ⟨by decide, fun _ => S87, fun q => absurd q (by decide)⟩) (fun e1 => ⟨by decide, fun q => absurd rfl q, fun _ => ?_⟩)
    refine t_isSign hR hb hs h.1 hc (by decide) (fun e => ⟨by decide, fun _ => S87, fun q => absurd q (by decide)⟩) (fun e2 => ⟨by decide, fun q => absurd rfl q, fun _ => ?_⟩)
    refine t_isSign hR hb hs h.1 hc (by decide) (fun e => ⟨by decide, fun _ => S87, fun q => absurd q (by decide)⟩) (fun e3 => ⟨by decide, fun q => absurd rfl q, fun _ => ?_⟩)
    refine t_isSign hR hb hs h.1 hc (by decide) (fun e => ⟨by decide, fun _ => S87, fun q => absurd q (by decide)⟩) (fun e4 => ⟨by decide, fun q => absurd rfl q, fun _ => ?_⟩)
    exact t_isSign hR hb hs h.1 hc (by decide) (fun e => ⟨by decide, fun q => absurd q (by decide), fun _ => S87⟩) (fun e5 => absurd hm (by omega))
  refine t_isTest hR hk (fun _ => ?_) (fun _ => ?_)
  · rw [hg.2.1]
    exact ⟨(fin 1).1, (fin 1).2.1, (fin 1).2.2, fun _ => chain 1⟩
  · rw [hg.2.1]
    exact ⟨(fin 0).1, (fin 0).2.1, (fin 0).2.2, fun _ => chain 0⟩
end GARITH
