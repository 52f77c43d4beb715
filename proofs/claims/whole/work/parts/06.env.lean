/-! WHAT STAYS OVER A RUN: the tables, the arrays and the text that were there before -/
def zTx : String := "room by lamp door at blows reach open heir tall bubble film size thins bursts hue breath second drift deeds if or and not all min max"
/-- the links of constructors that only the nest may call -/
def zNs : List (String × Nat × MethodName × String) := [("SoapDeeds", 9, ⟨"SoapDeeds$Tape", "<init>", "()V"⟩, "SoapDeeds"), ("SoapDeeds", 18, ⟨"SoapDeeds$Parser", "<init>", "()V"⟩, "SoapDeeds"), ("SoapDeeds$Plan", 57, ⟨"SoapDeeds$Rules", "<init>", "()V"⟩, "SoapDeeds"), ("SoapDeeds", 25, ⟨"SoapDeeds$Scene", "<init>", "()V"⟩, "SoapDeeds"), ("SoapDeeds", 32, ⟨"SoapDeeds$Works", "<init>", "()V"⟩, "SoapDeeds"), ("SoapDeeds", 39, ⟨"SoapDeeds$Seer", "<init>", "()V"⟩, "SoapDeeds"), ("SoapDeeds$Seer", 11, ⟨"SoapDeeds$Works", "<init>", "()V"⟩, "SoapDeeds"), ("SoapDeeds$Seer", 20, ⟨"SoapDeeds$Scene", "<init>", "()V"⟩, "SoapDeeds"), ("SoapDeeds$History", 22, ⟨"SoapDeeds$Scene", "<init>", "()V"⟩, "SoapDeeds"), ("SoapDeeds", 53, ⟨"SoapDeeds$Images", "<init>", "()V"⟩, "SoapDeeds"), ("SoapDeeds$Images", 21, ⟨"SoapDeeds$Scene", "<init>", "()V"⟩, "SoapDeeds")]
def zTys (aC : Nat → ClassId) : List (ClassId × FieldType) := [(aC 1, .int), (aC 2, .long), (aC 3, .byte), (aC 4, .boolean), (aC 5, .object "SoapDeeds$Scene")]
def zSt (C n d : String) (v : Value) (A : Nat → Prop) (U : State) (H : Heap) : Prop := va_Z C n d v A U H
def zEnv (D : va_G) (cl : List vw_C) (aC : Nat → ClassId) (ov : Nat → Value) (A : Nat → Prop) (X : zX) (U : State) (H : Heap) : Prop :=
  va_K D cl (zTys aC) U ∧
  (∃ (b : Nat) (xs : Nat → Int32), ov 0 = .ref b ∧ va_X b X.1 xs U H ∧ ¬ A b ∧ b < H.size ∧ X.1 < 100000 ∧ ∀ j, X.2 j = (xs j).toInt) ∧
  (∃ t : Nat, ov 3 = .ref t ∧ va_Z "SoapDeeds$Plan" "COLUMN_STEP" "[I" (.ref t) A U H ∧ va_T .int t 4 (fun j => .int (Int32.ofInt (zom X 3 j))) A U H) ∧
  (∃ t : Nat, ov 4 = .ref t ∧ va_Z "SoapDeeds$Plan" "ROW_STEP" "[I" (.ref t) A U H ∧ va_T .int t 4 (fun j => .int (Int32.ofInt (zom X 4 j))) A U H) ∧
  va_Z "java/lang/String" "COMPACT_STRINGS" "Z" (.int 1) A U H ∧
  va_Z "jdk/internal/util/Preconditions" "SIOOBE_FORMATTER" "Ljava/util/function/BiFunction;" (ov 5) A U H ∧
  (∃ aK aV : Nat, ov 1 = .ref aK ∧ ov 2 = .ref aV ∧ vk_R "SoapDeeds$Tokens" 46 zTx aK U ∧ va_O "java/lang/String" aK A U H ∧ va_OF "java/lang/String" "coder" "B" (.int 0) aK A U H ∧ va_OF "java/lang/String" "value" "[B" (.ref aV) aK A U H ∧ va_T .byte aV 133 (fun j => .int (Int32.ofInt (zom X 2 j))) A U H) ∧
  (va_AO "SoapDeeds$Scene" U ∧ ∀ q ∈ zNs, va_Nw (.methodLinkNest q.1 q.2.1 q.2.2.1 q.2.2.2) U) ∧
  (∀ k, ov k = .null ∨ ∃ t : Nat, ov k = .ref t)
theorem zEnv.move {D : va_G} {cl : List vw_C} {aC : Nat → ClassId} {ov : Nat → Value} {A : Nat → Prop} {X : zX} {u U : State} {H H1 : Heap} (h : zEnv D cl aC ov A X u H) (hvm : u.vm.Alike U.vm) (hR : ∀ a, vk_R "SoapDeeds$Tokens" 46 zTx a u → vk_R "SoapDeeds$Tokens" 46 zTx a U) (hN : ∀ (a : String) (i : Nat) (x : MethodName) (h : String), va_Nw (.methodLinkNest a i x h) u → va_Nw (.methodLinkNest a i x h) U) (hz : H.size ≤ H1.size) (hq : ∀ a : Nat, a < H.size → ¬ A a → H1[a]? = H[a]?) : zEnv D cl aC ov A X U H1 := by
  obtain ⟨h1, ⟨b, xs, h2, h3, h4, h5, h6, h7⟩, ⟨t, h8, h9, h10⟩, ⟨t2, h11, h12, h13⟩, h14, h15, ⟨aK, aV, h16, h17, h18, h19, h20, h21, h22⟩, h23, h24⟩ := h
  refine ⟨va_K.moved hvm h1, ⟨b, xs, h2, (h3.kept (hq b h5 h4)).moved hvm, h4, Nat.lt_of_lt_of_le h5 hz, h6, h7⟩, ⟨t, h8, (h9.kept hq).moved hvm, (h10.kept hq).moved hvm⟩, ⟨t2, h11, (h12.kept hq).moved hvm, (h13.kept hq).moved hvm⟩, (h14.kept hq).moved hvm, (h15.kept hq).moved hvm, ⟨aK, aV, h16, h17, hR aK h18, (h19.kept hq).moved hvm, (h20.kept hq).moved hvm, (h21.kept hq).moved hvm, (h22.kept hq).moved hvm⟩, ⟨h23.1.moved hvm, fun q hq => hN _ _ _ _ (h23.2 q hq)⟩, h24⟩
theorem zEnv.cat {D : va_G} {cl : List vw_C} {aC : Nat → ClassId} {ov : Nat → Value} {A : Nat → Prop} {X : zX} {U : State} {H : Heap} (h : zEnv D cl aC ov A X U H) (k : Nat) : (ov k).category = 1 := by
  rcases h.2.2.2.2.2.2.2.2 k with q | ⟨t, q⟩ <;> rw [q] <;> rfl
/-- the machine is at that state of the small machine: it comes to Q -/
def zAt (p : Program) (l : Launch) (e : Env) (R : Room) (s : State) (m : MethodId) (args : Array Value) (below : List Frame) (meth : Method) (c : Code) (Q : State → Prop) (D : va_G) (cl : List vw_C) (aC : Nat → ClassId) (ov : Nat → Value) (A : Nat → Prop) (k0 s0 : Nat) (ad0 : Nat → Nat) (pc : Nat) (ls st : List zV) (S : zS) : Prop :=
  ∀ (ad : Nat → Nat) (L : Array Slot) (H : Heap) (locs : List Loc) (cells slots : Nat), (∀ i, i < k0 → ad i = ad0 i) → (S.1.length = k0 → ad = ad0) → zlv ov ad ls L → va_P D cl (zw cl aC ad S) H → va_D A (zw cl aC ad S) → va_S A s.heap H locs → k0 + cells = S.1.length → s0 + slots = zsl (znF cl) S.1 → (∀ t ∈ S.1, t.2 < 100000) →
    W p l e R s m args below meth c H locs cells slots Q (F0 m pc L (st.map (zc ov ad)))
/-- what a method's body may use -/
def zCx (p : Program) (R : Room) (s : State) (m : MethodId) (args : Array Value) (meth : Method) (c : Code) (D : va_G) (cl : List vw_C) (aC : Nat → ClassId) (ov : Nat → Value) (A : Nat → Prop) (X : zX) (cc : ByteArray) (own nm : String) (Ts : List Cond) : Prop :=
  p.tables.exec = Jvm.exec ∧ c.code = cc ∧ s.vm.findClass own = some m.cls ∧ (∀ w ∈ Ts, w.before args s = true) ∧ meth.name = nm ∧ (∀ q, s.heap.size ≤ q → A q) ∧ zEnv D cl aC ov A X s s.heap ∧ 1 ≤ R.frames ∧ 60 ≤ R.locals
/-- what the tables say of the classes -/
def zClo (cl : List vw_C) (Ts : List Cond) : Prop := ∀ (ci : Nat) (q : vw_C), cl[ci]? = some q → (∀ w ∈ u_ws q.1 q.2.1 q.2.2, w ∈ Ts) ∧ (∀ k, k < q.2.2 → parseFieldDescriptor (q.2.1 k).2.2.1 = some (zfty cl ci k)) ∧ (∀ a, a < q.2.2 → ∀ b, b < q.2.2 → a ≠ b → (q.2.1 a).2.1 ≠ (q.2.1 b).2.1) ∧ Cond.instantiable q.1 q.2.2 ∈ Ts ∧ Cond.initialized q.1 ∈ Ts ∧ (∀ k, k < q.2.2 → zftc (zfty cl ci k) ≠ 7)
