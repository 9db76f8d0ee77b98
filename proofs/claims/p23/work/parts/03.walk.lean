/-! THE SMALL MACHINE AND THE MACHINE: what the tables must say of each instruction; what the heap of one is in the other -/
/-- the program's tables: words; words of nest mates and arrays; classes; per method: name, bytes, locals, answer's type, class, room of frames and locals; statics; string constants; how many methods -/
abbrev smZ : Type := List Cond × List Cond × List vw_C × (Nat → MethodName) × (Nat → ByteArray) × (Nat → Nat) × (Nat → Option FieldType) × (Nat → String) × (Nat → Nat) × (Nat → Nat) × List (String × String × String × Value) × List (String × Nat × String × Nat) × Nat
def zTB (Z : smZ) : List Cond := Z.1
def zNW (Z : smZ) : List Cond := Z.2.1
def zcl (Z : smZ) : List vw_C := Z.2.2.1
def znm (Z : smZ) : Nat → MethodName := Z.2.2.2.1
def zby (Z : smZ) : Nat → ByteArray := Z.2.2.2.2.1
def zmL (Z : smZ) : Nat → Nat := Z.2.2.2.2.2.1
def zrt (Z : smZ) : Nat → Option FieldType := Z.2.2.2.2.2.2.1
def zow (Z : smZ) : Nat → String := Z.2.2.2.2.2.2.2.1
def zfr (Z : smZ) : Nat → Nat := Z.2.2.2.2.2.2.2.2.1
def zlo (Z : smZ) : Nat → Nat := Z.2.2.2.2.2.2.2.2.2.1
def zST (Z : smZ) : List (String × String × String × Value) := Z.2.2.2.2.2.2.2.2.2.2.1
def zSC (Z : smZ) : List (String × Nat × String × Nat) := Z.2.2.2.2.2.2.2.2.2.2.2.1
def znM (Z : smZ) : Nat := Z.2.2.2.2.2.2.2.2.2.2.2.2
/-- numbers of classes and slots; which cells are the program's; what the tags stand for -/
abbrev smY : Type := va_G × (Nat → Prop) × (Nat → Value)
def sm_v (Y : smY) (v : Value) : Value := match v with
  | .retAddr t => Y.2.2 t
  | v => v
def sm_ml (Y : smY) (ls : smL) : smL := ls.map (fun q => (q.1, sm_v Y q.2))
def sm_cell (Z : smZ) (Y : smY) (U : State) (a : Nat) (e : smC) (H : Heap) : Prop := match e with
  | .inl x => ∃ cA : ClassId, (ArrOfT U cA x.1 ∧ va_RA U cA x.1) ∧ H[a]? = some (vp_cell cA x.2)
  | .inr o => va_at Y.1 (zcl Z) (a, .inr o) H
def sm_Rel (Z : smZ) (Y : smY) (U : State) (h : smH) (H : Heap) : Prop := h.2.1 = H.size ∧ ∀ (a : Nat) (e : smC), h.1 a = some e → Y.2.1 a ∧ sm_cell Z Y U a e H
/-- what the tables of a state say -/
def sm_VC (Z : smZ) (Y : smY) (U : State) : Prop :=
  (∀ (k : Nat) (q : vw_C), (zcl Z)[k]? = some q → u_Kn U q.1 q.2.1 q.2.2 (Y.1.1 k) (Y.1.2 k)) ∧ (∀ w ∈ zNW Z, va_Nw w U) ∧ (∀ q ∈ zSC Z, ∃ a, Y.2.2 q.2.2.2 = .ref a ∧ vk_R q.1 q.2.1 q.2.2.1 a U)
/-- what its old cells hold -/
def sm_HC (Z : smZ) (P : smP) (X : smX) (Y : smY) (U : State) (H : Heap) : Prop :=
  (∀ q ∈ zST Z, va_Z q.1 q.2.1 q.2.2.1 (sm_v Y q.2.2.2) Y.2.1 U H) ∧
  (∀ t, t < P.2.2.2.2.1.length → ∃ a b : Nat, Y.2.2 t = .ref a ∧ Y.2.2 (t + 16) = .ref b ∧ va_O "java/lang/String" a Y.2.1 U H ∧ va_OF "java/lang/String" "coder" "B" (.int 0) a Y.2.1 U H ∧ va_OF "java/lang/String" "value" "[B" (.ref b) a Y.2.1 U H) ∧
  (∀ t ty n f, sm_oA P X t = some (ty, n, .inl f) → ∃ b : Nat, Y.2.2 t = .ref b ∧ va_T ty b n (fun j => .int (f j)) Y.2.1 U H) ∧
  (∀ t, Y.2.2 t = .null ∨ ∃ a, Y.2.2 t = .ref a)
def sm_okA (mL pc len : Nat) (i : Instr) (x y : Nat) : Bool := match i with
  | .iload_n _ => len == 1 | .aload_n _ => len == 1 | .lload_n _ => len == 1 | .iconst n => len == 1 && decide (Int32.ofInt n = sm_k x y) | .aconst_null => len == 1
  | .iadd => len == 1 | .isub => len == 1 | .imul => len == 1 | .iand => len == 1 | .ishr => len == 1 | .ixor => len == 1 | .idiv => len == 1 | .irem => len == 1
  | .dup => len == 1 | .pop => len == 1 | .dup2 => len == 1
  | .iaload => len == 1 | .caload => len == 1 | .baload => len == 1 | .aaload => len == 1 | .iastore => len == 1 | .castore => len == 1 | .bastore => len == 1 | .aastore => len == 1 | .arraylength => len == 1
  | .i2c => len == 1 | .l2i => len == 1 | .lconst _ => len == 1 | .ldiv => len == 1 | .lrem => len == 1 | .lcmp => len == 1 | .ladd => len == 1 | .lmul => len == 1 | .i2l => len == 1 | .laload => len == 1 | .lastore => len == 1 | .ior => len == 1 | .lload _ => len == 2 | .lstore k => len == 2 && decide (k + 1 < mL)
  | .ireturn => len == 1 | .lreturn => len == 1 | .areturn => len == 1 | .return_ => len == 1
  | .istore_n k => len == 1 && decide (k.val < mL) | .astore_n k => len == 1 && decide (k.val < mL) | .lstore_n k => len == 1 && decide (k.val + 1 < mL)
  | .iload _ => len == 2 | .aload _ => len == 2 | .bipush n => len == 2 && decide ((Int8.ofInt n).toInt32 = sm_k x y) | .newarray _ => len == 2 | .ldc _ => len == 2
  | .istore k => len == 2 && decide (k < mL) | .astore k => len == 2 && decide (k < mL)
  | .sipush n => len == 3 && decide ((Int16.ofInt n).toInt32 = sm_k x y) | .getfield _ => len == 3 | .putfield _ => len == 3 | .invokestatic _ => len == 3 | .invokevirtual _ => len == 3 | .invokespecial _ => len == 3 | .getstatic _ => len == 3 | .new _ => len == 3 | .anewarray _ => len == 3 | .ldc2_w _ => len == 3
  | .iinc k n => len == 3 && decide (k < mL) && decide (Int32.ofInt n = sm_k x y)
  | .goto o => len == 3 && decide (0 ≤ (pc : Int) + o) | .ifCond _ o => len == 3 && decide (0 ≤ (pc : Int) + o) | .if_icmp _ o => len == 3 && decide (0 ≤ (pc : Int) + o) | .ifnull o => len == 3 && decide (0 ≤ (pc : Int) + o) | .ifnonnull o => len == 3 && decide (0 ≤ (pc : Int) + o)
  | .multianewarray _ d => len == 4 && d == 2
  | .tableswitch d _ _ offs => decide (0 ≤ (pc : Int) + d) && offs.toList.all (fun o => decide (0 ≤ (pc : Int) + o))
  | _ => false
def sm_okG (Z : smZ) (own : String) (idx x y : Nat) : Prop := ∃ q : vw_C, (zcl Z)[x]? = some q ∧ y < q.2.2 ∧ (Cond.fieldLink own idx (q.2.1 y).1 (q.2.1 y).2.1 (q.2.1 y).2.2.1 ∈ zTB Z ∨ ∃ host, Cond.fieldLinkNest own idx (q.2.1 y).1 (q.2.1 y).2.1 (q.2.1 y).2.2.1 host ∈ zNW Z)
def sm_okF (Z : smZ) (own : String) (idx x y z : Nat) : Prop := match z with
  | 0 => sm_okG Z own idx x y
  | 1 => sm_okG Z own idx x y
  | 2 => Cond.fieldLink own idx "java/lang/String" "value" "[B" ∈ zTB Z
  | _ => Cond.fieldLink own idx "java/lang/String" "coder" "B" ∈ zTB Z
def sm_pTy (P : smP) (x y z : Nat) (ty : FieldType) : Prop := match z with
  | 0 => ty = .int
  | 1 => (∃ n, ty = .object n) ∨ ∃ t, ty = .array t
  | _ => ty = P.2.1 x y
theorem sm_okF3 {Z : smZ} {own : String} {idx x y z : Nat} (h0 : ¬ z = 0) (h1 : ¬ z = 1) (h2 : ¬ z = 2) (h : sm_okF Z own idx x y z) : Cond.fieldLink own idx "java/lang/String" "coder" "B" ∈ zTB Z := by
  match z, h0, h1, h2, h with
  | 0, h0, _, _, _ => exact absurd rfl h0
  | 1, _, h1, _, _ => exact absurd rfl h1
  | 2, _, _, h2, _ => exact absurd rfl h2
  | _ + 3, _, _, _, h => exact h
theorem sm_pTy2 {P : smP} {x y z : Nat} {ty : FieldType} (h0 : ¬ z = 0) (h1 : ¬ z = 1) (h : sm_pTy P x y z ty) : ty = P.2.1 x y := by
  match z, h0, h1, h with
  | 0, h0, _, _ => exact absurd rfl h0
  | 1, _, h1, _ => exact absurd rfl h1
  | _ + 2, _, _, h => exact h
def sm_okP (Z : smZ) (P : smP) (own nm : String) (idx x y z : Nat) : Prop := ∃ q : vw_C, (zcl Z)[x]? = some q ∧ y < q.2.2 ∧ (∃ ty, parseFieldDescriptor (q.2.1 y).2.2.1 = some ty ∧ sm_pTy P x y z ty) ∧
  (((q.2.1 y).2.2.2 = false ∧ (Cond.fieldLink own idx (q.2.1 y).1 (q.2.1 y).2.1 (q.2.1 y).2.2.1 ∈ zTB Z ∨ ∃ host, Cond.fieldLinkNest own idx (q.2.1 y).1 (q.2.1 y).2.1 (q.2.1 y).2.2.1 host ∈ zNW Z)) ∨
   ((q.2.1 y).2.2.2 = true ∧ nm = "<init>" ∧ (q.2.1 y).1 = own ∧ Cond.fieldLink own idx (q.2.1 y).1 (q.2.1 y).2.1 (q.2.1 y).2.2.1 ∈ zTB Z))
/-- a call of method x with y arguments -/
def sm_okM (Z : smZ) (m idx x y : Nat) : Prop := x < znM Z ∧ ((znm Z x).cls ≠ "java/lang/invoke/MethodHandle" ∧ (znm Z x).cls ≠ "java/lang/invoke/VarHandle" ∧ (parseMethodDescriptor (znm Z x).desc).map (fun d => d.parameters.length) = some y) ∧ Cond.code (znm Z x) (zby Z x) (zmL Z x) (zrt Z x) ∈ zTB Z ∧ Cond.initialized (znm Z x).cls ∈ zTB Z ∧ zfr Z x + 1 ≤ zfr Z m ∧ 8 + (zmL Z x + 11) + zlo Z x ≤ zlo Z m ∧ (Cond.methodLink (zow Z m) idx (znm Z x) ∈ zTB Z ∨ ∃ host, Cond.methodLinkNest (zow Z m) idx (znm Z x) host ∈ zNW Z)
def sm_okB (Z : smZ) (m idx : Nat) (y : MethodName) (b : ByteArray) : Prop := Cond.methodLink (zow Z m) idx y ∈ zTB Z ∧ Cond.static y ∈ zTB Z ∧ Cond.initialized "java/lang/Math" ∈ zTB Z ∧ Cond.code y b 2 (some .int) ∈ zTB Z ∧ 1 ≤ zfr Z m ∧ 21 ≤ zlo Z m
def sm_okS (Z : smZ) (m idx x y z : Nat) : Prop := match z with
  | 0 => sm_okM Z m idx x y ∧ y ≤ zmL Z x ∧ Cond.static (znm Z x) ∈ zTB Z
  | 1 => sm_okB Z m idx Lib.Math.max.name Lib.Math.max.code
  | _ => sm_okB Z m idx Lib.Math.min.name Lib.Math.min.code
theorem sm_okS2 {Z : smZ} {m idx x y z : Nat} (h0 : ¬ z = 0) (h1 : ¬ z = 1) (h : sm_okS Z m idx x y z) : sm_okB Z m idx Lib.Math.min.name Lib.Math.min.code := by
  match z, h0, h1, h with
  | 0, h0, _, _ => exact absurd rfl h0
  | 1, _, h1, _ => exact absurd rfl h1
  | _ + 2, _, _, h => exact h
def sm_okL (Z : smZ) (P : smP) (m : Nat) (i : Instr) (x y z : Nat) : Prop := match i with
  | .getfield idx => sm_okF Z (zow Z m) idx x y z
  | .putfield idx => sm_okP Z P (zow Z m) (znm Z m).name idx x y z
  | .invokestatic idx => sm_okS Z m idx x y z
  | .invokevirtual idx => sm_okM Z m idx x y ∧ y + 1 ≤ zmL Z x ∧ Cond.instanceMethod (znm Z x) ∈ zTB Z ∧ Cond.selects (znm Z x).cls (znm Z x) (znm Z x) ∈ zTB Z ∧ (match z with
    | 0 => (znm Z x).cls = "java/lang/String"
    | z + 1 => ∃ q : vw_C, (zcl Z)[z]? = some q ∧ q.1 = (znm Z x).cls)
  | .invokespecial idx => (match z with
    | 0 => Cond.methodLink (zow Z m) idx objectInit ∈ zTB Z ∧ Cond.instanceMethod objectInit ∈ zTB Z ∧ Cond.code objectInit ⟨#[0xb1]⟩ 1 none ∈ zTB Z ∧ 1 ≤ zfr Z m ∧ 20 ≤ zlo Z m
    | _ + 1 => sm_okM Z m idx x y ∧ y + 1 ≤ zmL Z x ∧ Cond.instanceMethod (znm Z x) ∈ zTB Z ∧ (znm Z x).name = "<init>" ∧ zrt Z x = none)
  | .getstatic idx => ∃ C n d : String, Cond.fieldLink (zow Z m) idx C n d ∈ zTB Z ∧ (match z with
    | 0 => (C, n, d, Value.int (Int32.ofNat x)) ∈ zST Z
    | _ + 1 => (C, n, d, Value.retAddr x) ∈ zST Z)
  | .new idx => ∃ q : vw_C, (zcl Z)[x]? = some q ∧ Cond.classLink (zow Z m) idx q.1 ∈ zTB Z ∧ Cond.instantiable q.1 q.2.2 ∈ zTB Z ∧ Cond.initialized q.1 ∈ zTB Z
  | .newarray t => Cond.arrayClass (newarray.typeOf t) ∈ zTB Z
  | .anewarray idx => ∃ C : String, P.2.2.2.1 x = .object C ∧ Cond.classLink (zow Z m) idx C ∈ zTB Z ∧ Cond.arrayOver (.object C) ∈ zNW Z
  | .multianewarray idx _ => Cond.classLink (zow Z m) idx "[[I" ∈ zTB Z ∧ Cond.arrayOver (.array .int) ∈ zNW Z ∧ Cond.arrayClass .int ∈ zTB Z
  | .ldc idx => (match z with
    | 0 => Cond.constant (zow Z m) idx (Int32.ofNat x) ∈ zTB Z
    | _ + 1 => ∃ tx, (zow Z m, idx, tx, x) ∈ zSC Z)
  | .ldc2_w idx => Cond.constantLong (zow Z m) idx (Int64.ofNat x) ∈ zTB Z
  | .ireturn => (match z with
    | 0 => zrt Z m = some .int
    | z + 1 => zrt Z m = some (sm_nk (z + 1)))
  | .lreturn => zrt Z m = some .long
  | .areturn => ∃ rt, zrt Z m = some rt ∧ ((∃ n, rt = .object n) ∨ ∃ t, rt = .array t)
  | .return_ => zrt Z m = none
  | _ => True
def sm_okI (Z : smZ) (P : smP) (m pc : Nat) (i : Instr) (len x y z : Nat) : Prop := decode (zby Z m) pc = .ok (i, len) ∧ sm_okA (zmL Z m) pc len i x y = true ∧ sm_okL Z P m i x y z
/-- of the classes and of the words themselves -/
def sm_okC (Z : smZ) (P : smP) : Prop := (∀ (k : Nat) (q : vw_C), (zcl Z)[k]? = some q → (∀ w ∈ u_ws q.1 q.2.1 q.2.2, w ∈ zTB Z) ∧ (∃ ty : Nat → FieldType, (∀ j, j < q.2.2 → parseFieldDescriptor (q.2.1 j).2.2.1 = some (ty j)) ∧ ∀ j, j < q.2.2 → defaultValue (ty j) = vp_V (P.2.2.1 k) j) ∧ (P.2.2.1 k).length = q.2.2 ∧ (∀ a, a < q.2.2 → ∀ b, b < q.2.2 → a ≠ b → (q.2.1 a).2.1 ≠ (q.2.1 b).2.1) ∧ P.2.2.2.1 k = .object q.1) ∧
  (∀ w ∈ zTB Z, goodWord w = true) ∧
  (∀ w ∈ zNW Z, (∀ s U : State, s.WarmedH U.vm → va_Nw w s → va_Nw w U) ∧ (∀ u U : State, u.vm = U.vm → va_Nw w u → va_Nw w U) ∧ ∀ (A : Array Value) (U : State), va_Nw w U → w.before A U = true)
/-- a frame of method m: what a walk of it may use -/
def sm_Fx (Z : smZ) (P : smP) (X : smX) (Y : smY) (p : Program) (R : Room) (s : State) (mid : MethodId) (args : Array Value) (meth : Method) (c : Code) (m : Nat) : Prop :=
  p.tables.exec = Jvm.exec ∧ c.code = zby Z m ∧ c.maxLocals = zmL Z m ∧ s.vm.findClass (zow Z m) = some mid.cls ∧ (∀ w ∈ zTB Z, w.before args s = true) ∧ sm_VC Z Y s ∧ sm_HC Z P X Y s s.heap ∧ meth.name = (znm Z m).name ∧ (∀ a, s.heap.size ≤ a → Y.2.1 a) ∧ sm_okC Z P ∧ R.frames = zfr Z m ∧ R.locals = zlo Z m
def sm_G (Z : smZ) (Y : smY) (p : Program) (l : Launch) (e : Env) (R : Room) (s : State) (mid : MethodId) (args : Array Value) (below : List Frame) (meth : Method) (c : Code) (Q : State → Prop) (m : Nat) (hf : smH) (Cf Sf : Nat) (pc : Nat) (ls : smL) (st : List Value) (h : smH) : Prop :=
  ∀ (H : Heap) (locs : List Loc) (cells slots : Nat) (la : Array Slot), sm_Rel Z Y s h H → va_S Y.2.1 s.heap H locs → lv_has la (zmL Z m) (sm_ml Y ls) → cells + hf.2.1 = Cf + h.2.1 → slots + hf.2.2 = Sf + h.2.2 → W p l e R s mid args below meth c H locs cells slots Q (F0 mid pc la (st.map (sm_v Y)))
/-! what a helper's answer says -/
theorem sm_pI_e {st : List Value} {κ : Int32 → List Value → smR} {r : Option Value × smH} (h : sm_pI st κ = some r) : ∃ x t, st = .int x :: t ∧ κ x t = some r := by
  unfold sm_pI at h; split at h
  · exact ⟨_, _, rfl, h⟩
  · cases h
theorem sm_pJ_e {st : List Value} {κ : Int64 → List Value → smR} {r : Option Value × smH} (h : sm_pJ st κ = some r) : ∃ x t, st = .long x :: t ∧ κ x t = some r := by
  unfold sm_pJ at h; split at h
  · exact ⟨_, _, rfl, h⟩
  · cases h
theorem sm_pR_e {st : List Value} {κ : Nat → List Value → smR} {r : Option Value × smH} (h : sm_pR st κ = some r) : ∃ x t, st = .ref x :: t ∧ κ x t = some r := by
  unfold sm_pR at h; split at h
  · exact ⟨_, _, rfl, h⟩
  · cases h
theorem sm_pT_e {st : List Value} {κ : Nat → List Value → smR} {r : Option Value × smH} (h : sm_pT st κ = some r) : ∃ x t, st = .retAddr x :: t ∧ κ x t = some r := by
  unfold sm_pT at h; split at h
  · exact ⟨_, _, rfl, h⟩
  · cases h
theorem sm_pV_e {st : List Value} {κ : Value → List Value → smR} {r : Option Value × smH} (h : sm_pV st κ = some r) : ∃ x t, st = x :: t ∧ κ x t = some r := by
  unfold sm_pV at h; split at h
  · exact ⟨_, _, rfl, h⟩
  · cases h
theorem sm_gI_e {o : Option Value} {κ : Int32 → smR} {r : Option Value × smH} (h : sm_gI o κ = some r) : ∃ x, o = some (.int x) ∧ κ x = some r := by
  unfold sm_gI at h; split at h
  · exact ⟨_, rfl, h⟩
  · cases h
theorem sm_gJ_e {o : Option Value} {κ : Int64 → smR} {r : Option Value × smH} (h : sm_gJ o κ = some r) : ∃ x, o = some (.long x) ∧ κ x = some r := by
  unfold sm_gJ at h; split at h
  · exact ⟨_, rfl, h⟩
  · cases h
theorem sm_gR_e {o : Option Value} {κ : Nat → smR} {r : Option Value × smH} (h : sm_gR o κ = some r) : ∃ x, o = some (.ref x) ∧ κ x = some r := by
  unfold sm_gR at h; split at h
  · exact ⟨_, rfl, h⟩
  · cases h
theorem sm_gA_e {o : Option Value} {κ : Value → smR} {r : Option Value × smH} (h : sm_gA o κ = some r) : ∃ v, o = some v ∧ sm_isA v = true ∧ κ v = some r := by
  unfold sm_gA at h; split at h
  · exact ⟨_, rfl, rfl, h⟩
  · exact ⟨_, rfl, rfl, h⟩
  · exact ⟨_, rfl, rfl, h⟩
  · cases h
theorem sm_ite_e {c : Prop} [Decidable c] {a b : smR} {r : Option Value × smH} (h : (if c then a else b) = some r) : (c ∧ a = some r) ∨ (¬ c ∧ b = some r) := by
  by_cases hc : c
  · rw [if_pos hc] at h; exact Or.inl ⟨hc, h⟩
  · rw [if_neg hc] at h; exact Or.inr ⟨hc, h⟩
theorem sm_bif_e {c : Bool} {a : smR} {r : Option Value × smH} (h : (bif c then a else none) = some r) : c = true ∧ a = some r := by
  cases c
  · cases h
  · exact ⟨rfl, h⟩
theorem sm_cR_e {o : smR} {κ : Option Value → smH → smR} {r : Option Value × smH} (h : sm_cR o κ = some r) : ∃ v h', o = some (v, h') ∧ κ v h' = some r := by
  unfold sm_cR at h; split at h
  · exact ⟨_, _, rfl, h⟩
  · cases h
theorem sm_lg_mem {k : Nat} {v : Value} : ∀ {ls : smL}, sm_lg k ls = some v → (k, v) ∈ ls
  | [], h => by cases h
  | (j, w) :: l, h => by
    unfold sm_lg at h
    cases hb : Nat.beq j k with
    | true =>
      simp only [hb, cond_true] at h
      cases h
      rw [Nat.eq_of_beq_eq_true hb]
      exact List.mem_cons_self
    | false =>
      simp only [hb, cond_false] at h
      exact List.mem_cons_of_mem _ (sm_lg_mem h)
theorem sm_at_la {Y : smY} {la : Array Slot} {nL k : Nat} {v : Value} {ls : smL} (hL : lv_has la nL (sm_ml Y ls)) (h : sm_lg k ls = some v) : la[k]? = some (.val (sm_v Y v)) :=
  hL.2.2 (k, sm_v Y v) (List.mem_map.mpr ⟨(k, v), sm_lg_mem h, rfl⟩)
theorem sm_in_mem {i : Nat} {v : Value} {q : Nat × Value} : ∀ {l : smL}, q ∈ sm_in i v l → q = (i, v) ∨ q ∈ l
  | [], h => by
    rcases List.mem_cons.mp h with h | h
    · exact Or.inl h
    · cases h
  | p :: l, h => by
    unfold sm_in at h
    cases hb : Nat.blt p.1 i with
    | true =>
      simp only [hb, cond_true] at h
      rcases List.mem_cons.mp h with h | h
      · exact Or.inr (by rw [h]; exact List.mem_cons_self)
      · rcases sm_in_mem h with h | h
        · exact Or.inl h
        · exact Or.inr (List.mem_cons_of_mem _ h)
    | false =>
      simp only [hb, cond_false] at h
      rcases List.mem_cons.mp h with h | h
      · exact Or.inl h
      · exact Or.inr h
theorem sm_v_cat {Y : smY} (hY : ∀ t, Y.2.2 t = .null ∨ ∃ a, Y.2.2 t = .ref a) (v : Value) : (sm_v Y v).category = v.category := by
  cases v <;> try rfl
  rename_i t
  show (Y.2.2 t).category = 1
  rcases hY t with h | ⟨a, h⟩ <;> rw [h] <;> rfl
theorem sm_l1_has {Y : smY} (hY : ∀ t, Y.2.2 t = .null ∨ ∃ a, Y.2.2 t = .ref a) {la : Array Slot} {nL i : Nat} {v w : Value} {ls : smL} (hw : sm_v Y v = w) (h : lv_has la nL ((i, w) :: (sm_ml Y ls).filter (fun q => !(q.1 == i) && !(q.1 + 1 == i && q.2.category == 2)))) : lv_has la nL (sm_ml Y (sm_l1 i v ls)) := by
  refine ⟨h.1, h.2.1, fun q hq => ?_⟩
  obtain ⟨q0, h0, rfl⟩ := List.mem_map.mp hq
  rcases sm_in_mem h0 with rfl | h1
  · exact h.2.2 (i, sm_v Y v) (by rw [hw]; exact List.mem_cons_self)
  · obtain ⟨a, b⟩ := List.mem_filter.mp h1
    refine h.2.2 _ (List.mem_cons_of_mem _ (List.mem_filter.mpr ⟨List.mem_map.mpr ⟨q0, a, rfl⟩, ?_⟩))
    rw [← b]
    simp only [sm_v_cat hY]
theorem sm_l2_has {Y : smY} (hY : ∀ t, Y.2.2 t = .null ∨ ∃ a, Y.2.2 t = .ref a) {la : Array Slot} {nL i : Nat} {v w : Value} {ls : smL} (hw : sm_v Y v = w) (h : lv_has la nL ((i, w) :: (sm_ml Y ls).filter (fun q => !(q.1 == i) && (!(q.1 == i + 1) && !(q.1 + 1 == i && q.2.category == 2))))) : lv_has la nL (sm_ml Y (sm_l2 i v ls)) := by
  refine ⟨h.1, h.2.1, fun q hq => ?_⟩
  obtain ⟨q0, h0, rfl⟩ := List.mem_map.mp hq
  rcases sm_in_mem h0 with rfl | h1
  · exact h.2.2 (i, sm_v Y v) (by rw [hw]; exact List.mem_cons_self)
  · obtain ⟨a, b⟩ := List.mem_filter.mp h1
    refine h.2.2 _ (List.mem_cons_of_mem _ (List.mem_filter.mpr ⟨List.mem_map.mpr ⟨q0, a, rfl⟩, ?_⟩))
    rw [← b]
    simp only [sm_v_cat hY]
theorem sm_tg_e {pc : Nat} {o : Int} (h : 0 ≤ (pc : Int) + o) : (pc : Int) + o = (sm_tg pc o : Int) := by
  unfold sm_tg
  rw [Int.toNat_of_nonneg h]
