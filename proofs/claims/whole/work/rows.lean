section
/-! THE SMALL MACHINE: a pure interpreter of the bytecode over a typed heap. Everything about the class and the reference is proved of it (parts 10 and on); one theorem (part 02) carries an answer of the small machine over to the machine itself. -/
abbrev smC : Type := (FieldType × vp_A) ⊕ (Nat × List Value)
/-- the heap: the cells by address; the next address; the slots made so far -/
abbrev smH : Type := (Nat → Option smC) × Nat × Nat
abbrev smL : Type := List (Nat × Value)
abbrev smR : Type := Option (Option Value × smH)
abbrev smK : Type := Nat → smL → List Value → smH → smR
/-- an instruction, its length, what its entry of the pool comes to -/
abbrev smI : Type := Instr × Nat × Nat × Nat × Nat
/-- the script: its length, its ints -/
abbrev smX : Type := Nat × (Nat → Int32)
/-- a program: code in chunks of 16 bytes; types of fields; fields of a new object; types of classes; string constants; at which places which locals are still read -/
abbrev smP : Type := (Nat → List (List (Nat × smI))) × (Nat → Nat → FieldType) × (Nat → List Value) × (Nat → FieldType) × (List (List Int32)) × (Nat → List (Nat × List Nat))
def sm_at : List (Nat × smI) → Nat → Option smI
  | [], _ => none
  | q :: l, pc => bif Nat.beq q.1 pc then some q.2 else sm_at l pc
def sm_code (P : smP) (m pc : Nat) : Option smI := sm_at ((P.1 m).getD (pc / 16) []) pc
def sm_tl : List (Nat × List Nat) → Nat → Option (List Nat)
  | [], _ => none
  | q :: l, pc => bif Nat.beq q.1 pc then some q.2 else sm_tl l pc
/-- the locals with which a place is come to: those that are still read there -/
def sm_tr (P : smP) (m pc : Nat) (ls : smL) : smL := match sm_tl (P.2.2.2.2.2 m) pc with
  | some lv => ls.filter (fun q => lv.contains q.1)
  | none => ls
/-- a constant: x, or -x -/
def sm_k (x y : Nat) : Int32 := bif Nat.beq y 0 then Int32.ofNat x else -Int32.ofNat x
def sm_lg (k : Nat) : smL → Option Value
  | [] => none
  | q :: l => bif Nat.beq q.1 k then some q.2 else sm_lg k l
def sm_in (i : Nat) (v : Value) : smL → smL
  | [] => [(i, v)]
  | q :: l => bif Nat.blt q.1 i then q :: sm_in i v l else (i, v) :: q :: l
def sm_l1 (i : Nat) (v : Value) (l : smL) : smL := sm_in i v (l.filter (fun q => !(q.1 == i) && !(q.1 + 1 == i && q.2.category == 2)))
def sm_l2 (i : Nat) (v : Value) (l : smL) : smL := sm_in i v (l.filter (fun q => !(q.1 == i) && (!(q.1 == i + 1) && !(q.1 + 1 == i && q.2.category == 2))))
def sm_w (h : smH) (a : Nat) (e : smC) : smH := (fun b => if b = a then some e else h.1 b, h.2)
def sm_n (h : smH) (e : smC) (k : Nat) : smH := (fun b => if b = h.2.1 then some e else h.1 b, h.2.1 + 1, h.2.2 + k)
/-- new int[n][k] -/
def sm_mn (h : smH) (n k : Nat) : smH := (fun b => if b = h.2.1 then some (.inl (.array .int, n, .inr (.inr (.inr (.inr (fun i => if i < n then some (h.2.1 + 1 + i) else none)))))) else if h.2.1 < b ∧ b ≤ h.2.1 + n then some (.inl (.int, k, .inl (fun _ => 0))) else h.1 b, h.2.1 + 1 + n, h.2.2 + (n + n * k))
/-- arrays that are no cells of the heap: the script (tag 40), the bytes of string constant t (tag 16 + t) -/
def sm_oA (P : smP) (X : smX) (t : Nat) : Option (FieldType × vp_A) :=
  bif Nat.beq t 40 then some (.int, X.1, .inl X.2)
  else bif Nat.blt t 40 && Nat.blt 15 t then (match P.2.2.2.2.1[t - 16]? with
    | some l => some (.byte, l.length, .inl (fun j => l.getD j 0))
    | none => none)
  else none
def sm_ar (P : smP) (X : smX) (h : smH) (v : Value) : Option (FieldType × vp_A) := match v with
  | .ref a => (match h.1 a with
    | some (.inl x) => some x
    | _ => none)
  | .retAddr t => sm_oA P X t
  | _ => none
def sm_pI (st : List Value) (κ : Int32 → List Value → smR) : smR := match st with
  | .int x :: r => κ x r
  | _ => none
def sm_pJ (st : List Value) (κ : Int64 → List Value → smR) : smR := match st with
  | .long x :: r => κ x r
  | _ => none
def sm_pR (st : List Value) (κ : Nat → List Value → smR) : smR := match st with
  | .ref x :: r => κ x r
  | _ => none
def sm_pT (st : List Value) (κ : Nat → List Value → smR) : smR := match st with
  | .retAddr x :: r => κ x r
  | _ => none
def sm_pV (st : List Value) (κ : Value → List Value → smR) : smR := match st with
  | x :: r => κ x r
  | _ => none
def sm_gI (o : Option Value) (κ : Int32 → smR) : smR := match o with
  | some (.int x) => κ x
  | _ => none
def sm_gJ (o : Option Value) (κ : Int64 → smR) : smR := match o with
  | some (.long x) => κ x
  | _ => none
/-- a reference, null or a tag -/
def sm_isA (v : Value) : Bool := match v with
  | .ref _ => true
  | .null => true
  | .retAddr _ => true
  | _ => false
def sm_gA (o : Option Value) (κ : Value → smR) : smR := match o with
  | some (.ref a) => κ (.ref a)
  | some .null => κ .null
  | some (.retAddr t) => κ (.retAddr t)
  | _ => none
/-- field k of the object at a, of class number ci -/
def sm_f (h : smH) (a ci k : Nat) : Option Value := match h.1 a with
  | some (.inr (c, fs)) => bif Nat.beq c ci then fs[k]? else none
  | _ => none
def sm_gR (o : Option Value) (κ : Nat → smR) : smR := match o with
  | some (.ref a) => κ a
  | _ => none
def sm_fP (h : smH) (a ci k : Nat) (v : Value) (κ : smH → smR) : smR := match h.1 a with
  | some (.inr (c, fs)) => bif Nat.beq c ci && Nat.blt k fs.length then κ (sm_w h a (.inr (ci, fs.set k v))) else none
  | _ => none
def sm_ld (o : Option (FieldType × vp_A)) (ty : FieldType) (i : Int32) (κ : Int32 → smR) : smR := match o with
  | some (t, n, .inl f) => if t = ty then (if i < 0 ∨ n ≤ i.toNatClampNeg then none else κ (f i.toNatClampNeg)) else none
  | _ => none
def sm_ldR (o : Option (FieldType × vp_A)) (i : Int32) (κ : Nat → smR) : smR := match o with
  | some (t, n, .inr (.inr (.inr (.inr f)))) => bif t.isReference then (if i < 0 ∨ n ≤ i.toNatClampNeg then none else (match f i.toNatClampNeg with
    | some b => κ b
    | none => none)) else none
  | _ => none
def sm_st (h : smH) (a : Nat) (ty : FieldType) (i x : Int32) (κ : smH → smR) : smR := match h.1 a with
  | some (.inl (t, n, .inl f)) => if t = ty then (if i < 0 ∨ n ≤ i.toNatClampNeg then none else κ (sm_w h a (.inl (ty, n, .inl (upd f i.toNatClampNeg x))))) else none
  | _ => none
def sm_stR (P : smP) (h : smH) (a : Nat) (i : Int32) (v : Nat) (κ : smH → smR) : smR := match h.1 a with
  | some (.inl (t, n, .inr (.inr (.inr (.inr f))))) => (match h.1 v with
    | some (.inr (c, _)) => if t = P.2.2.2.1 c then (if i < 0 ∨ n ≤ i.toNatClampNeg then none else κ (sm_w h a (.inl (t, n, .inr (.inr (.inr (.inr (va_up f i.toNatClampNeg (some v))))))))) else none
    | _ => none)
  | _ => none
def sm_al (o : Option (FieldType × vp_A)) (κ : Nat → smR) : smR := match o with
  | some (_, n, _) => κ n
  | none => none
/-- the object at a is of class number c -/
def sm_vc (h : smH) (a c : Nat) (r : smR) : smR := match h.1 a with
  | some (.inr (d, _)) => bif Nat.beq d c then r else none
  | _ => none
def sm_sw (o : Option Int) (κ : Int → smR) : smR := match o with
  | some i => κ i
  | none => none
def sm_cR (o : smR) (κ : Option Value → smH → smR) : smR := match o with
  | some (v, h) => κ v h
  | none => none
def sm_cat1 (v : Value) : Bool := match v with
  | .long _ => false
  | .double _ => false
  | _ => true
/-- n arguments off the stack -/
def sm_pN (n : Nat) (st : List Value) (κ : List Value → List Value → smR) : smR := bif Nat.ble n st.length && (st.take n).all sm_cat1 && Nat.ble ((st.drop n).map (fun v => v.category)).sum 8 then κ (st.take n).reverse (st.drop n) else none
def sm_nk (z : Nat) : FieldType := match z with
  | 1 => .boolean
  | 2 => .char
  | 3 => .byte
  | _ => .short
def sm_dfI (ty : FieldType) : Bool := match ty with
  | .int => true
  | .boolean => true
  | .char => true
  | _ => false
def sm_tg (pc : Nat) (off : Int) : Nat := ((pc : Int) + off).toNat

section SMSTEP
variable (P : smP) (X : smX) (C : Nat → List Value → smH → smR) (K : smK)
def sm_s6 (i : Instr) (x y z pc : Nat) (ls : smL) (st : List Value) (h : smH) : smR := match i with
  | .invokestatic _ => (match z with
    | 0 => sm_pN y st fun as r => sm_cR (C x as h) fun v h => K (pc + 3) ls (v.toList ++ r) h
    | 1 => sm_pI st fun b r => sm_pI r fun a r => bif Nat.ble (r.map (fun v => v.category)).sum 8 then K (pc + 3) ls (.int (if a < b then b else a) :: r) h else none
    | _ => sm_pI st fun b r => sm_pI r fun a r => bif Nat.ble (r.map (fun v => v.category)).sum 8 then K (pc + 3) ls (.int (if b < a then b else a) :: r) h else none)
  | .invokevirtual _ => (match z with
    | 0 => sm_pN y st fun as r => sm_pT r fun t r => bif Nat.blt t P.2.2.2.2.1.length then sm_cR (C x (.retAddr t :: as) h) fun v h => K (pc + 3) ls (v.toList ++ r) h else none
    | z + 1 => sm_pN y st fun as r => sm_pR r fun a r => sm_vc h a z (sm_cR (C x (.ref a :: as) h) fun v h => K (pc + 3) ls (v.toList ++ r) h))
  | .invokespecial _ => (match z with
    | 0 => sm_pR st fun _ r => bif Nat.ble (r.map (fun v => v.category)).sum 8 then K (pc + 3) ls r h else none
    | _ + 1 => sm_pN y st fun as r => sm_pR r fun a r => sm_cR (C x (.ref a :: as) h) fun v h => K (pc + 3) ls (v.toList ++ r) h)
  | .getstatic _ => (match z with
    | 0 => K (pc + 3) ls (.int (Int32.ofNat x) :: st) h
    | _ + 1 => K (pc + 3) ls (.retAddr x :: st) h)
  | .ireturn => sm_pI st fun v r => (match r with
    | [] => (match z with
      | 0 => some (some (.int v), h)
      | z + 1 => if narrow (sm_nk (z + 1)) (.int v) = .int v then some (some (.int v), h) else none)
    | _ => none)
  | .lreturn => sm_pJ st fun v r => (match r with
    | [] => some (some (.long v), h)
    | _ => none)
  | .areturn => sm_gA st.head? fun v => (match st with
    | [_] => some (some v, h)
    | _ => none)
  | .return_ => (match st with
    | [] => some (none, h)
    | _ => none)
  | _ => none
def sm_s5 (i : Instr) (x y z pc : Nat) (ls : smL) (st : List Value) (h : smH) : smR := match i with
  | .new _ => K (pc + 3) ls (.ref h.2.1 :: st) (sm_n h (.inr (x, P.2.2.1 x)) (P.2.2.1 x).length)
  | .newarray t => sm_pI st fun n r => if n < 0 ∨ 1000000 < n.toNatClampNeg then none else (bif sm_dfI (newarray.typeOf t) then K (pc + 2) ls (.ref h.2.1 :: r) (sm_n h (.inl (newarray.typeOf t, n.toNatClampNeg, .inl (fun _ => 0))) n.toNatClampNeg) else none)
  | .anewarray _ => sm_pI st fun n r => if n < 0 ∨ 1000000 < n.toNatClampNeg then none else K (pc + 3) ls (.ref h.2.1 :: r) (sm_n h (.inl (P.2.2.2.1 x, n.toNatClampNeg, .inr (.inr (.inr (.inr (fun _ => none)))))) n.toNatClampNeg)
  | .multianewarray _ _ => sm_pI st fun k r => sm_pI r fun n r => if (n < 0 ∨ 1000000 < n.toNatClampNeg) ∨ (k < 0 ∨ 1000000 < k.toNatClampNeg) then none else K (pc + 4) ls (.ref h.2.1 :: r) (sm_mn h n.toNatClampNeg k.toNatClampNeg)
  | .ldc _ => (match z with
    | 0 => K (pc + 2) ls (.int (Int32.ofNat x) :: st) h
    | _ + 1 => K (pc + 2) ls (.retAddr x :: st) h)
  | .ldc2_w _ => K (pc + 3) ls (.long (Int64.ofNat x) :: st) h
  | .i2c => sm_pI st fun a r => K (pc + 1) ls (.int (a.toUInt32 % 65536).toInt32 :: r) h
  | .l2i => sm_pJ st fun a r => K (pc + 1) ls (.int a.toInt32 :: r) h
  | .lconst n => K (pc + 1) ls (.long (Int64.ofNat (n : Nat)) :: st) h
  | .ldiv => sm_pJ st fun b r => sm_pJ r fun a r => if b = 0 then none else K (pc + 1) ls (.long (a / b) :: r) h
  | .lrem => sm_pJ st fun b r => sm_pJ r fun a r => if b = 0 then none else K (pc + 1) ls (.long (a - a / b * b) :: r) h
  | .lcmp => sm_pJ st fun b r => sm_pJ r fun a r => K (pc + 1) ls (.int (lg_cmp a b) :: r) h
  | .tableswitch d lo hi offs => sm_pI st fun a r => if a.toInt < lo ∨ hi < a.toInt then K (sm_tg pc d) ls r h else sm_sw offs[(a.toInt - lo).toNat]? fun o => K (sm_tg pc o) ls r h
  | i => sm_s6 P C K i x y z pc ls st h
def sm_s4 (i : Instr) (x y z pc : Nat) (ls : smL) (st : List Value) (h : smH) : smR := match i with
  | .goto o => K (sm_tg pc o) ls st h
  | .ifCond c o => sm_pI st fun a r => (match c with
    | .eq => if a = 0 then K (sm_tg pc o) ls r h else K (pc + 3) ls r h
    | .ne => if a = 0 then K (pc + 3) ls r h else K (sm_tg pc o) ls r h
    | .lt => if a < 0 then K (sm_tg pc o) ls r h else K (pc + 3) ls r h
    | .ge => if 0 ≤ a then K (sm_tg pc o) ls r h else K (pc + 3) ls r h
    | .gt => if 0 < a then K (sm_tg pc o) ls r h else K (pc + 3) ls r h
    | .le => if a ≤ 0 then K (sm_tg pc o) ls r h else K (pc + 3) ls r h)
  | .if_icmp c o => sm_pI st fun b r => sm_pI r fun a r => (match c with
    | .eq => if a = b then K (sm_tg pc o) ls r h else K (pc + 3) ls r h
    | .ne => if a = b then K (pc + 3) ls r h else K (sm_tg pc o) ls r h
    | .lt => if a < b then K (sm_tg pc o) ls r h else K (pc + 3) ls r h
    | .ge => if b ≤ a then K (sm_tg pc o) ls r h else K (pc + 3) ls r h
    | .gt => if b < a then K (sm_tg pc o) ls r h else K (pc + 3) ls r h
    | .le => if a ≤ b then K (sm_tg pc o) ls r h else K (pc + 3) ls r h)
  | .ifnull o => (match st with
    | .ref _ :: r => K (pc + 3) ls r h
    | .null :: r => K (sm_tg pc o) ls r h
    | _ => none)
  | .ifnonnull o => (match st with
    | .ref _ :: r => K (sm_tg pc o) ls r h
    | .null :: r => K (pc + 3) ls r h
    | _ => none)
  | .iinc k _ => sm_gI (sm_lg k ls) fun v => K (pc + 3) (sm_l1 k (.int (v + sm_k x y)) ls) st h
  | i => sm_s5 P C K i x y z pc ls st h
def sm_s3 (i : Instr) (x y z pc : Nat) (ls : smL) (st : List Value) (h : smH) : smR := match i with
  | .getfield _ => (match z with
    | 0 => sm_pR st fun a r => sm_gI (sm_f h a x y) fun v => K (pc + 3) ls (.int v :: r) h
    | 1 => sm_pR st fun a r => sm_gR (sm_f h a x y) fun v => K (pc + 3) ls (.ref v :: r) h
    | 2 => sm_pT st fun t r => bif Nat.blt t P.2.2.2.2.1.length then K (pc + 3) ls (.retAddr (t + 16) :: r) h else none
    | _ => sm_pT st fun t r => bif Nat.blt t P.2.2.2.2.1.length then K (pc + 3) ls (.int 0 :: r) h else none)
  | .putfield _ => (match z with
    | 0 => sm_pI st fun v r => sm_pR r fun a r => sm_fP h a x y (.int v) fun h => K (pc + 3) ls r h
    | 1 => sm_pR st fun v r => sm_pR r fun a r => sm_fP h a x y (.ref v) fun h => K (pc + 3) ls r h
    | _ => sm_pI st fun v r => sm_pR r fun a r => if narrow (P.2.1 x y) (.int v) = .int v ∧ fits (P.2.1 x y) (.int v) = true then sm_fP h a x y (.int v) fun h => K (pc + 3) ls r h else none)
  | .iaload => sm_pI st fun i r => sm_pV r fun a r => sm_ld (sm_ar P X h a) .int i fun v => K (pc + 1) ls (.int v :: r) h
  | .caload => sm_pI st fun i r => sm_pV r fun a r => sm_ld (sm_ar P X h a) .char i fun v => K (pc + 1) ls (.int v :: r) h
  | .baload => (match z with
    | 0 => sm_pI st fun i r => sm_pV r fun a r => sm_ld (sm_ar P X h a) .boolean i fun v => K (pc + 1) ls (.int v :: r) h
    | _ => sm_pI st fun i r => sm_pV r fun a r => sm_ld (sm_ar P X h a) .byte i fun v => K (pc + 1) ls (.int v :: r) h)
  | .aaload => sm_pI st fun i r => sm_pR r fun a r => sm_ldR (sm_ar P X h (.ref a)) i fun b => K (pc + 1) ls (.ref b :: r) h
  | .iastore => sm_pI st fun v r => sm_pI r fun i r => sm_pR r fun a r => sm_st h a .int i v fun h => K (pc + 1) ls r h
  | .castore => sm_pI st fun v r => sm_pI r fun i r => sm_pR r fun a r => sm_st h a .char i (vp_nar .char v) fun h => K (pc + 1) ls r h
  | .bastore => sm_pI st fun v r => sm_pI r fun i r => sm_pR r fun a r => sm_st h a .boolean i (vp_nar .boolean v) fun h => K (pc + 1) ls r h
  | .aastore => sm_pR st fun v r => sm_pI r fun i r => sm_pR r fun a r => sm_stR P h a i v fun h => K (pc + 1) ls r h
  | .arraylength => sm_pV st fun a r => sm_al (sm_ar P X h a) fun n => K (pc + 1) ls (.int (Int32.ofNat n) :: r) h
  | i => sm_s4 P C K i x y z pc ls st h
def sm_s2 (i : Instr) (x y z pc : Nat) (ls : smL) (st : List Value) (h : smH) : smR := match i with
  | .iadd => sm_pI st fun b r => sm_pI r fun a r => K (pc + 1) ls (.int (a + b) :: r) h
  | .isub => sm_pI st fun b r => sm_pI r fun a r => K (pc + 1) ls (.int (a - b) :: r) h
  | .imul => sm_pI st fun b r => sm_pI r fun a r => K (pc + 1) ls (.int (a * b) :: r) h
  | .iand => sm_pI st fun b r => sm_pI r fun a r => K (pc + 1) ls (.int (a &&& b) :: r) h
  | .ishr => sm_pI st fun b r => sm_pI r fun a r => K (pc + 1) ls (.int (a >>> (b &&& 31)) :: r) h
  | .idiv => sm_pI st fun b r => sm_pI r fun a r => if b = 0 then none else K (pc + 1) ls (.int (a / b) :: r) h
  | .irem => sm_pI st fun b r => sm_pI r fun a r => if b = 0 then none else K (pc + 1) ls (.int (a - a / b * b) :: r) h
  | .dup => sm_pV st fun a r => bif sm_cat1 a then K (pc + 1) ls (a :: a :: r) h else none
  | .pop => sm_pV st fun a r => bif sm_cat1 a then K (pc + 1) ls r h else none
  | .dup2 => sm_pV st fun a r => sm_pV r fun b r => bif sm_cat1 a && sm_cat1 b then K (pc + 1) ls (a :: b :: a :: b :: r) h else none
  | i => sm_s3 P X C K i x y z pc ls st h
def sm_s1 (i : Instr) (x y z pc : Nat) (ls : smL) (st : List Value) (h : smH) : smR := match i with
  | .iload_n k => sm_gI (sm_lg k.val ls) fun v => K (pc + 1) ls (.int v :: st) h
  | .iload k => sm_gI (sm_lg k ls) fun v => K (pc + 2) ls (.int v :: st) h
  | .aload_n k => sm_gA (sm_lg k.val ls) fun v => K (pc + 1) ls (v :: st) h
  | .aload k => sm_gA (sm_lg k ls) fun v => K (pc + 2) ls (v :: st) h
  | .lload_n k => sm_gJ (sm_lg k.val ls) fun v => K (pc + 1) ls (.long v :: st) h
  | .istore_n k => sm_pI st fun v r => K (pc + 1) (sm_l1 k.val (.int v) ls) r h
  | .istore k => sm_pI st fun v r => K (pc + 2) (sm_l1 k (.int v) ls) r h
  | .astore_n k => sm_gA st.head? fun v => K (pc + 1) (sm_l1 k.val v ls) st.tail h
  | .astore k => sm_gA st.head? fun v => K (pc + 2) (sm_l1 k v ls) st.tail h
  | .lstore_n k => sm_pJ st fun v r => K (pc + 1) (sm_l2 k.val (.long v) ls) r h
  | .iconst _ => K (pc + 1) ls (.int (sm_k x y) :: st) h
  | .bipush _ => K (pc + 2) ls (.int (sm_k x y) :: st) h
  | .sipush _ => K (pc + 3) ls (.int (sm_k x y) :: st) h
  | .aconst_null => K (pc + 1) ls (.null :: st) h
  | i => sm_s2 P X C K i x y z pc ls st h
/-- one instruction of method m -/
def sm_step (m pc : Nat) (ls : smL) (st : List Value) (h : smH) : smR := match sm_code P m pc with
  | some (i, _, x, y, z) => sm_s1 P X C (fun pc ls st h => K pc (sm_tr P m pc ls) st h) i x y z pc ls st h
  | none => none
end SMSTEP
def sm_X (P : smP) (X : smX) : Nat → Nat → smK
  | 0, _ => fun _ _ _ _ => none
  | n + 1, m => sm_step P X (fun m' as h => sm_X P X n m' 0 (lv_args 0 as) [] h) (sm_X P X n m) m

/-! what one instruction uses: nothing, the rest once, or a call and the rest once -/
def sm_le (h h' : smH) : Prop := h.2.1 ≤ h'.2.1 ∧ h.2.2 ≤ h'.2.2
theorem sm_le.rf {h : smH} : sm_le h h := ⟨Nat.le_refl _, Nat.le_refl _⟩
theorem sm_le.tr {a b c : smH} (h1 : sm_le a b) (h2 : sm_le b c) : sm_le a c := ⟨Nat.le_trans h1.1 h2.1, Nat.le_trans h1.2 h2.2⟩
theorem sm_le.w {h : smH} {a : Nat} {e : smC} : sm_le h (sm_w h a e) := ⟨Nat.le_refl _, Nat.le_refl _⟩
theorem sm_le.n {h : smH} {e : smC} {k : Nat} : sm_le h (sm_n h e k) := ⟨Nat.le_succ _, Nat.le_add_right _ _⟩
theorem sm_le.mn {h : smH} {n k : Nat} : sm_le h (sm_mn h n k) := ⟨by show h.2.1 ≤ h.2.1 + 1 + n; omega, by show h.2.2 ≤ h.2.2 + _; omega⟩
abbrev smCT : Type := Nat → List Value → smH → smR
def sm_Us (h0 : smH) (F : smCT → smK → smR) : Prop := ∀ (C : smCT) (K : smK) (r : Option Value × smH), F C K = some r →
  (sm_le h0 r.2 ∧ ∀ C' K', F C' K' = some r) ∨
  (∃ pc ls st h, sm_le h0 h ∧ K pc ls st h = some r ∧ ∀ (C' : smCT) (K' : smK), K' pc ls st h = some r → F C' K' = some r) ∨
  (∃ m as h1 v h2 pc ls st, sm_le h0 h1 ∧ C m as h1 = some (v, h2) ∧ K pc ls st h2 = some r ∧ ∀ (C' : smCT) (K' : smK), C' m as h1 = some (v, h2) → K' pc ls st h2 = some r → F C' K' = some r)
theorem sm_Us.non {h0 : smH} : sm_Us h0 (fun _ _ => none) := fun _ _ _ h => by cases h
theorem sm_Us.som {h0 : smH} {r : Option Value × smH} (hl : sm_le h0 r.2) : sm_Us h0 (fun _ _ => some r) := fun _ _ _ h => by cases h; exact Or.inl ⟨hl, fun _ _ => rfl⟩
theorem sm_Us.kk {h0 : smH} {pc : Nat} {ls : smL} {st : List Value} {h : smH} (hl : sm_le h0 h) : sm_Us h0 (fun _ K => K pc ls st h) := fun _ _ _ e => Or.inr (Or.inl ⟨pc, ls, st, h, hl, e, fun _ _ z => z⟩)
theorem sm_Us.call {h0 : smH} {m pc : Nat} {as r : List Value} {ls : smL} {h : smH} (hl : sm_le h0 h) : sm_Us h0 (fun C K => sm_cR (C m as h) fun v h => K pc ls (v.toList ++ r) h) := fun C K q e => by
  cases hc : C m as h with
  | none => simp [hc, sm_cR] at e
  | some p =>
    obtain ⟨v, h2⟩ := p
    simp only [hc, sm_cR] at e
    exact Or.inr (Or.inr ⟨m, as, h, v, h2, pc, ls, v.toList ++ r, hl, hc, e, fun C' K' z1 z2 => by simp only [z1, sm_cR]; exact z2⟩)
theorem sm_Us.ite {h0 : smH} {c : Prop} [Decidable c] {F G : smCT → smK → smR} (hF : sm_Us h0 F) (hG : sm_Us h0 G) : sm_Us h0 (fun C K => if c then F C K else G C K) := by
  by_cases h : c
  · simp only [h, if_true]; exact hF
  · simp only [h, if_false]; exact hG
theorem sm_Us.bif {h0 : smH} {c : Bool} {F G : smCT → smK → smR} (hF : sm_Us h0 F) (hG : sm_Us h0 G) : sm_Us h0 (fun C K => bif c then F C K else G C K) := by
  cases c
  · exact hG
  · exact hF
theorem sm_Us.pI {h0 : smH} {st : List Value} {F : Int32 → List Value → smCT → smK → smR} (hF : ∀ x r, sm_Us h0 (F x r)) : sm_Us h0 (fun C K => sm_pI st fun x r => F x r C K) := by
  unfold sm_pI; split
  · exact hF _ _
  · exact sm_Us.non
theorem sm_Us.pJ {h0 : smH} {st : List Value} {F : Int64 → List Value → smCT → smK → smR} (hF : ∀ x r, sm_Us h0 (F x r)) : sm_Us h0 (fun C K => sm_pJ st fun x r => F x r C K) := by
  unfold sm_pJ; split
  · exact hF _ _
  · exact sm_Us.non
theorem sm_Us.pR {h0 : smH} {st : List Value} {F : Nat → List Value → smCT → smK → smR} (hF : ∀ x r, sm_Us h0 (F x r)) : sm_Us h0 (fun C K => sm_pR st fun x r => F x r C K) := by
  unfold sm_pR; split
  · exact hF _ _
  · exact sm_Us.non
theorem sm_Us.pT {h0 : smH} {st : List Value} {F : Nat → List Value → smCT → smK → smR} (hF : ∀ x r, sm_Us h0 (F x r)) : sm_Us h0 (fun C K => sm_pT st fun x r => F x r C K) := by
  unfold sm_pT; split
  · exact hF _ _
  · exact sm_Us.non
theorem sm_Us.pV {h0 : smH} {st : List Value} {F : Value → List Value → smCT → smK → smR} (hF : ∀ x r, sm_Us h0 (F x r)) : sm_Us h0 (fun C K => sm_pV st fun x r => F x r C K) := by
  unfold sm_pV; split
  · exact hF _ _
  · exact sm_Us.non
theorem sm_Us.gI {h0 : smH} {o : Option Value} {F : Int32 → smCT → smK → smR} (hF : ∀ x, sm_Us h0 (F x)) : sm_Us h0 (fun C K => sm_gI o fun x => F x C K) := by
  unfold sm_gI; split
  · exact hF _
  · exact sm_Us.non
theorem sm_Us.gJ {h0 : smH} {o : Option Value} {F : Int64 → smCT → smK → smR} (hF : ∀ x, sm_Us h0 (F x)) : sm_Us h0 (fun C K => sm_gJ o fun x => F x C K) := by
  unfold sm_gJ; split
  · exact hF _
  · exact sm_Us.non
theorem sm_Us.gR {h0 : smH} {o : Option Value} {F : Nat → smCT → smK → smR} (hF : ∀ x, sm_Us h0 (F x)) : sm_Us h0 (fun C K => sm_gR o fun x => F x C K) := by
  unfold sm_gR; split
  · exact hF _
  · exact sm_Us.non
theorem sm_Us.gA {h0 : smH} {o : Option Value} {F : Value → smCT → smK → smR} (hF : ∀ x, sm_Us h0 (F x)) : sm_Us h0 (fun C K => sm_gA o fun x => F x C K) := by
  unfold sm_gA; split
  · exact hF _
  · exact hF _
  · exact hF _
  · exact sm_Us.non
theorem sm_Us.fP {h0 h : smH} {a ci k : Nat} {v : Value} {F : smH → smCT → smK → smR} (hl : sm_le h0 h) (hF : ∀ h', sm_le h0 h' → sm_Us h0 (F h')) : sm_Us h0 (fun C K => sm_fP h a ci k v fun x => F x C K) := by
  unfold sm_fP; split
  · exact sm_Us.bif (hF _ (hl.tr sm_le.w)) sm_Us.non
  · exact sm_Us.non
theorem sm_Us.ld {h0 : smH} {o : Option (FieldType × vp_A)} {ty : FieldType} {i : Int32} {F : Int32 → smCT → smK → smR} (hF : ∀ x, sm_Us h0 (F x)) : sm_Us h0 (fun C K => sm_ld o ty i fun x => F x C K) := by
  unfold sm_ld; split
  · exact sm_Us.ite (sm_Us.ite sm_Us.non (hF _)) sm_Us.non
  · exact sm_Us.non
theorem sm_Us.ldR {h0 : smH} {o : Option (FieldType × vp_A)} {i : Int32} {F : Nat → smCT → smK → smR} (hF : ∀ x, sm_Us h0 (F x)) : sm_Us h0 (fun C K => sm_ldR o i fun x => F x C K) := by
  unfold sm_ldR; split
  · refine sm_Us.bif (sm_Us.ite sm_Us.non ?_) sm_Us.non
    split
    · exact hF _
    · exact sm_Us.non
  · exact sm_Us.non
theorem sm_Us.sst {h0 h : smH} {a : Nat} {ty : FieldType} {i x : Int32} {F : smH → smCT → smK → smR} (hl : sm_le h0 h) (hF : ∀ h', sm_le h0 h' → sm_Us h0 (F h')) : sm_Us h0 (fun C K => sm_st h a ty i x fun x => F x C K) := by
  unfold sm_st; split
  · exact sm_Us.ite (sm_Us.ite sm_Us.non (hF _ (hl.tr sm_le.w))) sm_Us.non
  · exact sm_Us.non
theorem sm_Us.stR {P : smP} {h0 h : smH} {a : Nat} {i : Int32} {x : Nat} {F : smH → smCT → smK → smR} (hl : sm_le h0 h) (hF : ∀ h', sm_le h0 h' → sm_Us h0 (F h')) : sm_Us h0 (fun C K => sm_stR P h a i x fun x => F x C K) := by
  unfold sm_stR; split
  · split
    · exact sm_Us.ite (sm_Us.ite sm_Us.non (hF _ (hl.tr sm_le.w))) sm_Us.non
    · exact sm_Us.non
  · exact sm_Us.non
theorem sm_Us.al {h0 : smH} {o : Option (FieldType × vp_A)} {F : Nat → smCT → smK → smR} (hF : ∀ x, sm_Us h0 (F x)) : sm_Us h0 (fun C K => sm_al o fun x => F x C K) := by
  unfold sm_al; split
  · exact hF _
  · exact sm_Us.non
theorem sm_Us.sw {h0 : smH} {o : Option Int} {F : Int → smCT → smK → smR} (hF : ∀ x, sm_Us h0 (F x)) : sm_Us h0 (fun C K => sm_sw o fun x => F x C K) := by
  unfold sm_sw; split
  · exact hF _
  · exact sm_Us.non
theorem sm_Us.vc {h0 h : smH} {a c : Nat} {F : smCT → smK → smR} (hF : sm_Us h0 F) : sm_Us h0 (fun C K => sm_vc h a c (F C K)) := by
  unfold sm_vc; split
  · exact sm_Us.bif hF sm_Us.non
  · exact sm_Us.non
theorem sm_Us.comp {h0 : smH} {F : smCT → smK → smR} (g : Nat → smL → smL) (hF : sm_Us h0 F) : sm_Us h0 (fun C K => F C (fun pc ls st h => K pc (g pc ls) st h)) := by
  intro C K r e
  rcases hF C _ r e with ⟨l1, u⟩ | ⟨pc, ls, st, h, l1, k, u⟩ | ⟨m, as, h1, v, h2, pc, ls, st, l1, c, k, u⟩
  · exact Or.inl ⟨l1, fun _ _ => u _ _⟩
  · exact Or.inr (Or.inl ⟨pc, g pc ls, st, h, l1, k, fun _ _ z => u _ _ z⟩)
  · exact Or.inr (Or.inr ⟨m, as, h1, v, h2, pc, g pc ls, st, l1, c, k, fun _ _ z1 z2 => u _ _ z1 z2⟩)
theorem sm_Us.pN {h0 : smH} {n : Nat} {st : List Value} {F : List Value → List Value → smCT → smK → smR} (hF : ∀ x r, sm_Us h0 (F x r)) : sm_Us h0 (fun C K => sm_pN n st fun x r => F x r C K) := by
  unfold sm_pN
  exact sm_Us.bif (hF _ _) sm_Us.non
set_option maxHeartbeats 4000000 in
theorem sm_Us.s6 (P : smP) (X : smX) (i : Instr) (x y z pc : Nat) (ls : smL) (st : List Value) (h : smH) : sm_Us h (fun C K => sm_s6 P C K i x y z pc ls st h) := by
  unfold sm_s6
  repeat' first
    | exact sm_Us.non
    | exact sm_Us.som (by assumption)
    | exact sm_Us.som sm_le.rf
    | exact sm_Us.call (by assumption)
    | exact sm_Us.call sm_le.rf
    | exact sm_Us.kk (by assumption)
    | exact sm_Us.kk sm_le.rf
    | exact sm_Us.kk sm_le.n
    | exact sm_Us.kk sm_le.mn
    | refine sm_Us.pI fun _ _ => ?_
    | refine sm_Us.pJ fun _ _ => ?_
    | refine sm_Us.pR fun _ _ => ?_
    | refine sm_Us.pT fun _ _ => ?_
    | refine sm_Us.pV fun _ _ => ?_
    | refine sm_Us.pN fun _ _ => ?_
    | refine sm_Us.gI fun _ => ?_
    | refine sm_Us.gJ fun _ => ?_
    | refine sm_Us.gR fun _ => ?_
    | refine sm_Us.gA fun _ => ?_
    | refine sm_Us.ld fun _ => ?_
    | refine sm_Us.al fun _ => ?_
    | refine sm_Us.sw fun _ => ?_
    | refine sm_Us.vc ?_
    | refine sm_Us.ldR fun _ => ?_
    | refine sm_Us.fP sm_le.rf fun _ _ => ?_
    | refine sm_Us.sst sm_le.rf fun _ _ => ?_
    | refine sm_Us.stR sm_le.rf fun _ _ => ?_
    | refine sm_Us.ite ?_ ?_
    | refine sm_Us.bif ?_ ?_
    | split
set_option maxHeartbeats 4000000 in
theorem sm_Us.s5 (P : smP) (X : smX) (i : Instr) (x y z pc : Nat) (ls : smL) (st : List Value) (h : smH) : sm_Us h (fun C K => sm_s5 P C K i x y z pc ls st h) := by
  unfold sm_s5
  repeat' first
    | exact sm_Us.non
    | exact sm_Us.som (by assumption)
    | exact sm_Us.som sm_le.rf
    | exact sm_Us.call (by assumption)
    | exact sm_Us.call sm_le.rf
    | exact sm_Us.kk (by assumption)
    | exact sm_Us.kk sm_le.rf
    | exact sm_Us.kk sm_le.n
    | exact sm_Us.kk sm_le.mn
    | refine sm_Us.pI fun _ _ => ?_
    | refine sm_Us.pJ fun _ _ => ?_
    | refine sm_Us.pR fun _ _ => ?_
    | refine sm_Us.pT fun _ _ => ?_
    | refine sm_Us.pV fun _ _ => ?_
    | refine sm_Us.pN fun _ _ => ?_
    | refine sm_Us.gI fun _ => ?_
    | refine sm_Us.gJ fun _ => ?_
    | refine sm_Us.gR fun _ => ?_
    | refine sm_Us.gA fun _ => ?_
    | refine sm_Us.ld fun _ => ?_
    | refine sm_Us.al fun _ => ?_
    | refine sm_Us.sw fun _ => ?_
    | refine sm_Us.vc ?_
    | refine sm_Us.ldR fun _ => ?_
    | refine sm_Us.fP sm_le.rf fun _ _ => ?_
    | refine sm_Us.sst sm_le.rf fun _ _ => ?_
    | refine sm_Us.stR sm_le.rf fun _ _ => ?_
    | refine sm_Us.ite ?_ ?_
    | refine sm_Us.bif ?_ ?_
    | exact sm_Us.s6 P X _ x y z pc ls st h
    | split
set_option maxHeartbeats 4000000 in
theorem sm_Us.s4 (P : smP) (X : smX) (i : Instr) (x y z pc : Nat) (ls : smL) (st : List Value) (h : smH) : sm_Us h (fun C K => sm_s4 P C K i x y z pc ls st h) := by
  unfold sm_s4
  repeat' first
    | exact sm_Us.non
    | exact sm_Us.som (by assumption)
    | exact sm_Us.som sm_le.rf
    | exact sm_Us.call (by assumption)
    | exact sm_Us.call sm_le.rf
    | exact sm_Us.kk (by assumption)
    | exact sm_Us.kk sm_le.rf
    | exact sm_Us.kk sm_le.n
    | exact sm_Us.kk sm_le.mn
    | refine sm_Us.pI fun _ _ => ?_
    | refine sm_Us.pJ fun _ _ => ?_
    | refine sm_Us.pR fun _ _ => ?_
    | refine sm_Us.pT fun _ _ => ?_
    | refine sm_Us.pV fun _ _ => ?_
    | refine sm_Us.pN fun _ _ => ?_
    | refine sm_Us.gI fun _ => ?_
    | refine sm_Us.gJ fun _ => ?_
    | refine sm_Us.gR fun _ => ?_
    | refine sm_Us.gA fun _ => ?_
    | refine sm_Us.ld fun _ => ?_
    | refine sm_Us.al fun _ => ?_
    | refine sm_Us.sw fun _ => ?_
    | refine sm_Us.vc ?_
    | refine sm_Us.ldR fun _ => ?_
    | refine sm_Us.fP sm_le.rf fun _ _ => ?_
    | refine sm_Us.sst sm_le.rf fun _ _ => ?_
    | refine sm_Us.stR sm_le.rf fun _ _ => ?_
    | refine sm_Us.ite ?_ ?_
    | refine sm_Us.bif ?_ ?_
    | exact sm_Us.s5 P X _ x y z pc ls st h
    | split
set_option maxHeartbeats 4000000 in
theorem sm_Us.s3 (P : smP) (X : smX) (i : Instr) (x y z pc : Nat) (ls : smL) (st : List Value) (h : smH) : sm_Us h (fun C K => sm_s3 P X C K i x y z pc ls st h) := by
  unfold sm_s3
  repeat' first
    | exact sm_Us.non
    | exact sm_Us.som (by assumption)
    | exact sm_Us.som sm_le.rf
    | exact sm_Us.call (by assumption)
    | exact sm_Us.call sm_le.rf
    | exact sm_Us.kk (by assumption)
    | exact sm_Us.kk sm_le.rf
    | exact sm_Us.kk sm_le.n
    | exact sm_Us.kk sm_le.mn
    | refine sm_Us.pI fun _ _ => ?_
    | refine sm_Us.pJ fun _ _ => ?_
    | refine sm_Us.pR fun _ _ => ?_
    | refine sm_Us.pT fun _ _ => ?_
    | refine sm_Us.pV fun _ _ => ?_
    | refine sm_Us.pN fun _ _ => ?_
    | refine sm_Us.gI fun _ => ?_
    | refine sm_Us.gJ fun _ => ?_
    | refine sm_Us.gR fun _ => ?_
    | refine sm_Us.gA fun _ => ?_
    | refine sm_Us.ld fun _ => ?_
    | refine sm_Us.al fun _ => ?_
    | refine sm_Us.sw fun _ => ?_
    | refine sm_Us.vc ?_
    | refine sm_Us.ldR fun _ => ?_
    | refine sm_Us.fP sm_le.rf fun _ _ => ?_
    | refine sm_Us.sst sm_le.rf fun _ _ => ?_
    | refine sm_Us.stR sm_le.rf fun _ _ => ?_
    | refine sm_Us.ite ?_ ?_
    | refine sm_Us.bif ?_ ?_
    | exact sm_Us.s4 P X _ x y z pc ls st h
    | split
set_option maxHeartbeats 4000000 in
theorem sm_Us.s2 (P : smP) (X : smX) (i : Instr) (x y z pc : Nat) (ls : smL) (st : List Value) (h : smH) : sm_Us h (fun C K => sm_s2 P X C K i x y z pc ls st h) := by
  unfold sm_s2
  repeat' first
    | exact sm_Us.non
    | exact sm_Us.som (by assumption)
    | exact sm_Us.som sm_le.rf
    | exact sm_Us.call (by assumption)
    | exact sm_Us.call sm_le.rf
    | exact sm_Us.kk (by assumption)
    | exact sm_Us.kk sm_le.rf
    | exact sm_Us.kk sm_le.n
    | exact sm_Us.kk sm_le.mn
    | refine sm_Us.pI fun _ _ => ?_
    | refine sm_Us.pJ fun _ _ => ?_
    | refine sm_Us.pR fun _ _ => ?_
    | refine sm_Us.pT fun _ _ => ?_
    | refine sm_Us.pV fun _ _ => ?_
    | refine sm_Us.pN fun _ _ => ?_
    | refine sm_Us.gI fun _ => ?_
    | refine sm_Us.gJ fun _ => ?_
    | refine sm_Us.gR fun _ => ?_
    | refine sm_Us.gA fun _ => ?_
    | refine sm_Us.ld fun _ => ?_
    | refine sm_Us.al fun _ => ?_
    | refine sm_Us.sw fun _ => ?_
    | refine sm_Us.vc ?_
    | refine sm_Us.ldR fun _ => ?_
    | refine sm_Us.fP sm_le.rf fun _ _ => ?_
    | refine sm_Us.sst sm_le.rf fun _ _ => ?_
    | refine sm_Us.stR sm_le.rf fun _ _ => ?_
    | refine sm_Us.ite ?_ ?_
    | refine sm_Us.bif ?_ ?_
    | exact sm_Us.s3 P X _ x y z pc ls st h
    | split
set_option maxHeartbeats 4000000 in
theorem sm_Us.s1 (P : smP) (X : smX) (i : Instr) (x y z pc : Nat) (ls : smL) (st : List Value) (h : smH) : sm_Us h (fun C K => sm_s1 P X C K i x y z pc ls st h) := by
  unfold sm_s1
  repeat' first
    | exact sm_Us.non
    | exact sm_Us.som (by assumption)
    | exact sm_Us.som sm_le.rf
    | exact sm_Us.call (by assumption)
    | exact sm_Us.call sm_le.rf
    | exact sm_Us.kk (by assumption)
    | exact sm_Us.kk sm_le.rf
    | exact sm_Us.kk sm_le.n
    | exact sm_Us.kk sm_le.mn
    | refine sm_Us.pI fun _ _ => ?_
    | refine sm_Us.pJ fun _ _ => ?_
    | refine sm_Us.pR fun _ _ => ?_
    | refine sm_Us.pT fun _ _ => ?_
    | refine sm_Us.pV fun _ _ => ?_
    | refine sm_Us.pN fun _ _ => ?_
    | refine sm_Us.gI fun _ => ?_
    | refine sm_Us.gJ fun _ => ?_
    | refine sm_Us.gR fun _ => ?_
    | refine sm_Us.gA fun _ => ?_
    | refine sm_Us.ld fun _ => ?_
    | refine sm_Us.al fun _ => ?_
    | refine sm_Us.sw fun _ => ?_
    | refine sm_Us.vc ?_
    | refine sm_Us.ldR fun _ => ?_
    | refine sm_Us.fP sm_le.rf fun _ _ => ?_
    | refine sm_Us.sst sm_le.rf fun _ _ => ?_
    | refine sm_Us.stR sm_le.rf fun _ _ => ?_
    | refine sm_Us.ite ?_ ?_
    | refine sm_Us.bif ?_ ?_
    | exact sm_Us.s2 P X _ x y z pc ls st h
    | split

theorem sm_Us.step (P : smP) (X : smX) (m pc : Nat) (ls : smL) (st : List Value) (h : smH) : sm_Us h (fun C K => sm_step P X C K m pc ls st h) := by
  unfold sm_step
  split
  · exact sm_Us.comp (sm_tr P m) (sm_Us.s1 P X _ _ _ _ _ _ _ _)
  · exact sm_Us.non
end
section
/-! runs: more fuel changes no answer; the answer of all fuels together -/
theorem sm_X_up (P : smP) (X : smX) : ∀ (n m pc : Nat) (ls : smL) (st : List Value) (h : smH) (r : Option Value × smH), sm_X P X n m pc ls st h = some r → sm_X P X (n + 1) m pc ls st h = some r
  | 0, _, _, _, _, _, _, e => by cases e
  | n + 1, m, pc, ls, st, h, r, e => by
    have ih := sm_X_up P X n
    show sm_step P X (fun m' as h => sm_X P X (n + 1) m' 0 (lv_args 0 as) [] h) (sm_X P X (n + 1) m) m pc ls st h = some r
    have e' : sm_step P X (fun m' as h => sm_X P X n m' 0 (lv_args 0 as) [] h) (sm_X P X n m) m pc ls st h = some r := e
    rcases sm_Us.step P X m pc ls st h _ _ r e' with ⟨-, u⟩ | ⟨pc', ls', st', h', -, k, u⟩ | ⟨m', as, h1, v, h2, pc', ls', st', -, c, k, u⟩
    · exact u _ _
    · exact u _ _ (ih m pc' ls' st' h' r k)
    · exact u _ _ (ih m' 0 (lv_args 0 as) [] h1 (v, h2) c) (ih m pc' ls' st' h2 r k)
theorem sm_X_le (P : smP) (X : smX) {n k m pc : Nat} {ls : smL} {st : List Value} {h : smH} {r : Option Value × smH} (hk : n ≤ k) (e : sm_X P X n m pc ls st h = some r) : sm_X P X k m pc ls st h = some r := by
  induction hk with
  | refl => exact e
  | step _ ih => exact sm_X_up P X _ _ _ _ _ _ _ ih
theorem sm_X_grow (P : smP) (X : smX) : ∀ (n m pc : Nat) (ls : smL) (st : List Value) (h : smH) (r : Option Value × smH), sm_X P X n m pc ls st h = some r → sm_le h r.2
  | 0, _, _, _, _, _, _, e => by cases e
  | n + 1, m, pc, ls, st, h, r, e => by
    have ih := sm_X_grow P X n
    have e' : sm_step P X (fun m' as h => sm_X P X n m' 0 (lv_args 0 as) [] h) (sm_X P X n m) m pc ls st h = some r := e
    rcases sm_Us.step P X m pc ls st h _ _ r e' with ⟨l1, -⟩ | ⟨pc', ls', st', h', l1, k, -⟩ | ⟨m', as, h1, v, h2, pc', ls', st', l1, c, k, -⟩
    · exact l1
    · exact l1.tr (ih m pc' ls' st' h' r k)
    · exact l1.tr ((ih m' 0 (lv_args 0 as) [] h1 (v, h2) c).tr (ih m pc' ls' st' h2 r k))
noncomputable def sm_E (P : smP) (X : smX) (m : Nat) : smK := fun pc ls st h =>
  @dite smR (∃ r n, sm_X P X n m pc ls st h = some r) (Classical.propDecidable _) (fun hx => some (Classical.choose hx)) (fun _ => none)
theorem sm_E_iff (P : smP) (X : smX) (m pc : Nat) (ls : smL) (st : List Value) (h : smH) (r : Option Value × smH) : sm_E P X m pc ls st h = some r ↔ ∃ n, sm_X P X n m pc ls st h = some r := by
  unfold sm_E
  by_cases hx : ∃ r n, sm_X P X n m pc ls st h = some r
  · rw [dif_pos hx]
    obtain ⟨n1, h1⟩ := Classical.choose_spec hx
    constructor
    · intro e
      cases e
      exact ⟨n1, h1⟩
    · rintro ⟨n2, h2⟩
      have a1 := sm_X_le P X (Nat.le_max_left n1 n2) h1
      have a2 := sm_X_le P X (Nat.le_max_right n1 n2) h2
      rw [← a1, a2]
  · rw [dif_neg hx]
    exact ⟨fun e => (by cases e), fun ⟨n, e⟩ => absurd ⟨r, n, e⟩ hx⟩
noncomputable def sm_C (P : smP) (X : smX) : smCT := fun m' as h => sm_E P X m' 0 (lv_args 0 as) [] h
theorem sm_E_eq (P : smP) (X : smX) (m : Nat) : sm_E P X m = sm_step P X (sm_C P X) (sm_E P X m) m := by
  funext pc ls st h
  apply Option.ext
  intro r
  constructor
  · intro e
    obtain ⟨n, e⟩ := (sm_E_iff P X m pc ls st h r).mp e
    cases n with
    | zero => cases e
    | succ n =>
      have e' : sm_step P X (fun m' as h => sm_X P X n m' 0 (lv_args 0 as) [] h) (sm_X P X n m) m pc ls st h = some r := e
      rcases sm_Us.step P X m pc ls st h _ _ r e' with ⟨-, u⟩ | ⟨pc', ls', st', h', -, k, u⟩ | ⟨m', as, h1, v, h2, pc', ls', st', -, c, k, u⟩
      · exact u _ _
      · exact u _ _ ((sm_E_iff P X m pc' ls' st' h' r).mpr ⟨n, k⟩)
      · exact u _ _ ((sm_E_iff P X m' 0 (lv_args 0 as) [] h1 (v, h2)).mpr ⟨n, c⟩) ((sm_E_iff P X m pc' ls' st' h2 r).mpr ⟨n, k⟩)
  · intro e
    rcases sm_Us.step P X m pc ls st h _ _ r e with ⟨-, u⟩ | ⟨pc', ls', st', h', -, k, u⟩ | ⟨m', as, h1, v, h2, pc', ls', st', -, c, k, u⟩
    · exact (sm_E_iff P X m pc ls st h r).mpr ⟨1, u _ _⟩
    · obtain ⟨n, k⟩ := (sm_E_iff P X m pc' ls' st' h' r).mp k
      exact (sm_E_iff P X m pc ls st h r).mpr ⟨n + 1, u _ _ k⟩
    · obtain ⟨n1, c⟩ := (sm_E_iff P X m' 0 (lv_args 0 as) [] h1 (v, h2)).mp c
      obtain ⟨n2, k⟩ := (sm_E_iff P X m pc' ls' st' h2 r).mp k
      exact (sm_E_iff P X m pc ls st h r).mpr ⟨max n1 n2 + 1, u _ _ (sm_X_le P X (Nat.le_max_left n1 n2) c) (sm_X_le P X (Nat.le_max_right n1 n2) k)⟩
/-- j instructions at most, up to the places of the list -/
def sm_it (P : smP) (X : smX) (C : smCT) (m : Nat) (cut : List Nat) (K : smK) : Nat → smK
  | 0 => K
  | j + 1 => fun pc ls st h => bif cut.contains pc then K pc ls st h else sm_step P X C (sm_it P X C m cut K j) m pc ls st h
theorem sm_it_E (P : smP) (X : smX) (m : Nat) (cut : List Nat) : ∀ j, sm_it P X (sm_C P X) m cut (sm_E P X m) j = sm_E P X m
  | 0 => rfl
  | j + 1 => by
    funext pc ls st h
    show (bif cut.contains pc then sm_E P X m pc ls st h else sm_step P X (sm_C P X) (sm_it P X (sm_C P X) m cut (sm_E P X m) j) m pc ls st h) = _
    rw [sm_it_E P X m cut j, ← sm_E_eq]
    cases cut.contains pc <;> rfl
theorem sm_blk (P : smP) (X : smX) (m : Nat) (cut : List Nat) (j : Nat) (pc : Nat) (ls : smL) (st : List Value) (h : smH) : sm_E P X m pc ls st h = sm_step P X (sm_C P X) (sm_it P X (sm_C P X) m cut (sm_E P X m) j) m pc ls st h := by
  rw [sm_it_E, ← sm_E_eq]
end
section
/-! THE SMALL MACHINE AND THE MACHINE: what the tables must say of each instruction; what the heap of one is in the other -/
/-- the program's tables: words; words of nest mates and arrays; classes; per method: name, bytes, locals, answer's type, class, room of frames and locals; statics; string constants; how many methods -/
abbrev smZ : Type := List Cond × List Cond × List vw_C × (Nat → MethodName) × (Nat → ByteArray) × (Nat → Nat) × (Nat → Option FieldType) × (Nat → String) × (Nat → Nat) × (Nat → Nat) × List (String × String × String × Value) × List (String × Nat × String × Nat) × Nat
def zTB (Z : smZ) : List Cond := Z.1
def zNW (Z : smZ) : List Cond := Z.2.1
def zcl (Z : smZ) : List vw_C := Z.2.2.1
def znm (Z : smZ) : Nat → MethodName := Z.2.2.2.1
def zby (Z : smZ) : Nat → ByteArray := Z.2.2.2.2.1
def zmL (Z : smZ) : Nat → Nat := Z.2.2.2.2.2.1
def zrt (Z : smZ) : Nat → Option FieldType := Z.2.2.2.2.2.2.1
def zow (Z : smZ) : Nat → String := Z.2.2.2.2.2.2.2.1
def zfr (Z : smZ) : Nat → Nat := Z.2.2.2.2.2.2.2.2.1
def zlo (Z : smZ) : Nat → Nat := Z.2.2.2.2.2.2.2.2.2.1
def zST (Z : smZ) : List (String × String × String × Value) := Z.2.2.2.2.2.2.2.2.2.2.1
def zSC (Z : smZ) : List (String × Nat × String × Nat) := Z.2.2.2.2.2.2.2.2.2.2.2.1
def znM (Z : smZ) : Nat := Z.2.2.2.2.2.2.2.2.2.2.2.2
/-- numbers of classes and slots; which cells are the program's; what the tags stand for -/
abbrev smY : Type := va_G × (Nat → Prop) × (Nat → Value)
def sm_v (Y : smY) (v : Value) : Value := match v with
  | .retAddr t => Y.2.2 t
  | v => v
def sm_ml (Y : smY) (ls : smL) : smL := ls.map (fun q => (q.1, sm_v Y q.2))
def sm_cell (Z : smZ) (Y : smY) (U : State) (a : Nat) (e : smC) (H : Heap) : Prop := match e with
  | .inl x => ∃ cA : ClassId, (ArrOfT U cA x.1 ∧ va_RA U cA x.1) ∧ H[a]? = some (vp_cell cA x.2)
  | .inr o => va_at Y.1 (zcl Z) (a, .inr o) H
def sm_Rel (Z : smZ) (Y : smY) (U : State) (h : smH) (H : Heap) : Prop := h.2.1 = H.size ∧ ∀ (a : Nat) (e : smC), h.1 a = some e → Y.2.1 a ∧ sm_cell Z Y U a e H
/-- what the tables of a state say -/
def sm_VC (Z : smZ) (Y : smY) (U : State) : Prop :=
  (∀ (k : Nat) (q : vw_C), (zcl Z)[k]? = some q → u_Kn U q.1 q.2.1 q.2.2 (Y.1.1 k) (Y.1.2 k)) ∧ (∀ w ∈ zNW Z, va_Nw w U) ∧ (∀ q ∈ zSC Z, ∃ a, Y.2.2 q.2.2.2 = .ref a ∧ vk_R q.1 q.2.1 q.2.2.1 a U)
/-- what its old cells hold -/
def sm_HC (Z : smZ) (P : smP) (X : smX) (Y : smY) (U : State) (H : Heap) : Prop :=
  (∀ q ∈ zST Z, va_Z q.1 q.2.1 q.2.2.1 (sm_v Y q.2.2.2) Y.2.1 U H) ∧
  (∀ t, t < P.2.2.2.2.1.length → ∃ a b : Nat, Y.2.2 t = .ref a ∧ Y.2.2 (t + 16) = .ref b ∧ va_O "java/lang/String" a Y.2.1 U H ∧ va_OF "java/lang/String" "coder" "B" (.int 0) a Y.2.1 U H ∧ va_OF "java/lang/String" "value" "[B" (.ref b) a Y.2.1 U H) ∧
  (∀ t ty n f, sm_oA P X t = some (ty, n, .inl f) → ∃ b : Nat, Y.2.2 t = .ref b ∧ va_T ty b n (fun j => .int (f j)) Y.2.1 U H) ∧
  (∀ t, Y.2.2 t = .null ∨ ∃ a, Y.2.2 t = .ref a)
def sm_okA (mL pc len : Nat) (i : Instr) (x y : Nat) : Bool := match i with
  | .iload_n _ => len == 1 | .aload_n _ => len == 1 | .lload_n _ => len == 1 | .iconst n => len == 1 && decide (Int32.ofInt n = sm_k x y) | .aconst_null => len == 1
  | .iadd => len == 1 | .isub => len == 1 | .imul => len == 1 | .iand => len == 1 | .ishr => len == 1 | .idiv => len == 1 | .irem => len == 1
  | .dup => len == 1 | .pop => len == 1 | .dup2 => len == 1
  | .iaload => len == 1 | .caload => len == 1 | .baload => len == 1 | .aaload => len == 1 | .iastore => len == 1 | .castore => len == 1 | .bastore => len == 1 | .aastore => len == 1 | .arraylength => len == 1
  | .i2c => len == 1 | .l2i => len == 1 | .lconst _ => len == 1 | .ldiv => len == 1 | .lrem => len == 1 | .lcmp => len == 1
  | .ireturn => len == 1 | .lreturn => len == 1 | .areturn => len == 1 | .return_ => len == 1
  | .istore_n k => len == 1 && decide (k.val < mL) | .astore_n k => len == 1 && decide (k.val < mL) | .lstore_n k => len == 1 && decide (k.val + 1 < mL)
  | .iload _ => len == 2 | .aload _ => len == 2 | .bipush n => len == 2 && decide ((Int8.ofInt n).toInt32 = sm_k x y) | .newarray _ => len == 2 | .ldc _ => len == 2
  | .istore k => len == 2 && decide (k < mL) | .astore k => len == 2 && decide (k < mL)
  | .sipush n => len == 3 && decide ((Int16.ofInt n).toInt32 = sm_k x y) | .getfield _ => len == 3 | .putfield _ => len == 3 | .invokestatic _ => len == 3 | .invokevirtual _ => len == 3 | .invokespecial _ => len == 3 | .getstatic _ => len == 3 | .new _ => len == 3 | .anewarray _ => len == 3 | .ldc2_w _ => len == 3
  | .iinc k n => len == 3 && decide (k < mL) && decide (Int32.ofInt n = sm_k x y)
  | .goto o => len == 3 && decide (0 ≤ (pc : Int) + o) | .ifCond _ o => len == 3 && decide (0 ≤ (pc : Int) + o) | .if_icmp _ o => len == 3 && decide (0 ≤ (pc : Int) + o) | .ifnull o => len == 3 && decide (0 ≤ (pc : Int) + o) | .ifnonnull o => len == 3 && decide (0 ≤ (pc : Int) + o)
  | .multianewarray _ d => len == 4 && d == 2
  | .tableswitch d _ _ offs => decide (0 ≤ (pc : Int) + d) && offs.toList.all (fun o => decide (0 ≤ (pc : Int) + o))
  | _ => false
def sm_okG (Z : smZ) (own : String) (idx x y : Nat) : Prop := ∃ q : vw_C, (zcl Z)[x]? = some q ∧ y < q.2.2 ∧ (Cond.fieldLink own idx (q.2.1 y).1 (q.2.1 y).2.1 (q.2.1 y).2.2.1 ∈ zTB Z ∨ ∃ host, Cond.fieldLinkNest own idx (q.2.1 y).1 (q.2.1 y).2.1 (q.2.1 y).2.2.1 host ∈ zNW Z)
def sm_okF (Z : smZ) (own : String) (idx x y z : Nat) : Prop := match z with
  | 0 => sm_okG Z own idx x y
  | 1 => sm_okG Z own idx x y
  | 2 => Cond.fieldLink own idx "java/lang/String" "value" "[B" ∈ zTB Z
  | _ => Cond.fieldLink own idx "java/lang/String" "coder" "B" ∈ zTB Z
def sm_pTy (P : smP) (x y z : Nat) (ty : FieldType) : Prop := match z with
  | 0 => ty = .int
  | 1 => (∃ n, ty = .object n) ∨ ∃ t, ty = .array t
  | _ => ty = P.2.1 x y
theorem sm_okF3 {Z : smZ} {own : String} {idx x y z : Nat} (h0 : ¬ z = 0) (h1 : ¬ z = 1) (h2 : ¬ z = 2) (h : sm_okF Z own idx x y z) : Cond.fieldLink own idx "java/lang/String" "coder" "B" ∈ zTB Z := by
  match z, h0, h1, h2, h with
  | 0, h0, _, _, _ => exact absurd rfl h0
  | 1, _, h1, _, _ => exact absurd rfl h1
  | 2, _, _, h2, _ => exact absurd rfl h2
  | _ + 3, _, _, _, h => exact h
theorem sm_pTy2 {P : smP} {x y z : Nat} {ty : FieldType} (h0 : ¬ z = 0) (h1 : ¬ z = 1) (h : sm_pTy P x y z ty) : ty = P.2.1 x y := by
  match z, h0, h1, h with
  | 0, h0, _, _ => exact absurd rfl h0
  | 1, _, h1, _ => exact absurd rfl h1
  | _ + 2, _, _, h => exact h
def sm_okP (Z : smZ) (P : smP) (own nm : String) (idx x y z : Nat) : Prop := ∃ q : vw_C, (zcl Z)[x]? = some q ∧ y < q.2.2 ∧ (∃ ty, parseFieldDescriptor (q.2.1 y).2.2.1 = some ty ∧ sm_pTy P x y z ty) ∧
  (((q.2.1 y).2.2.2 = false ∧ (Cond.fieldLink own idx (q.2.1 y).1 (q.2.1 y).2.1 (q.2.1 y).2.2.1 ∈ zTB Z ∨ ∃ host, Cond.fieldLinkNest own idx (q.2.1 y).1 (q.2.1 y).2.1 (q.2.1 y).2.2.1 host ∈ zNW Z)) ∨
   ((q.2.1 y).2.2.2 = true ∧ nm = "<init>" ∧ (q.2.1 y).1 = own ∧ Cond.fieldLink own idx (q.2.1 y).1 (q.2.1 y).2.1 (q.2.1 y).2.2.1 ∈ zTB Z))
/-- a call of method x with y arguments -/
def sm_okM (Z : smZ) (m idx x y : Nat) : Prop := x < znM Z ∧ ((znm Z x).cls ≠ "java/lang/invoke/MethodHandle" ∧ (znm Z x).cls ≠ "java/lang/invoke/VarHandle" ∧ (parseMethodDescriptor (znm Z x).desc).map (fun d => d.parameters.length) = some y) ∧ Cond.code (znm Z x) (zby Z x) (zmL Z x) (zrt Z x) ∈ zTB Z ∧ Cond.initialized (znm Z x).cls ∈ zTB Z ∧ zfr Z x + 1 ≤ zfr Z m ∧ 8 + (zmL Z x + 11) + zlo Z x ≤ zlo Z m ∧ (Cond.methodLink (zow Z m) idx (znm Z x) ∈ zTB Z ∨ ∃ host, Cond.methodLinkNest (zow Z m) idx (znm Z x) host ∈ zNW Z)
def sm_okB (Z : smZ) (m idx : Nat) (y : MethodName) (b : ByteArray) : Prop := Cond.methodLink (zow Z m) idx y ∈ zTB Z ∧ Cond.static y ∈ zTB Z ∧ Cond.initialized "java/lang/Math" ∈ zTB Z ∧ Cond.code y b 2 (some .int) ∈ zTB Z ∧ 1 ≤ zfr Z m ∧ 21 ≤ zlo Z m
def sm_okS (Z : smZ) (m idx x y z : Nat) : Prop := match z with
  | 0 => sm_okM Z m idx x y ∧ y ≤ zmL Z x ∧ Cond.static (znm Z x) ∈ zTB Z
  | 1 => sm_okB Z m idx Lib.Math.max.name Lib.Math.max.code
  | _ => sm_okB Z m idx Lib.Math.min.name Lib.Math.min.code
theorem sm_okS2 {Z : smZ} {m idx x y z : Nat} (h0 : ¬ z = 0) (h1 : ¬ z = 1) (h : sm_okS Z m idx x y z) : sm_okB Z m idx Lib.Math.min.name Lib.Math.min.code := by
  match z, h0, h1, h with
  | 0, h0, _, _ => exact absurd rfl h0
  | 1, _, h1, _ => exact absurd rfl h1
  | _ + 2, _, _, h => exact h
def sm_okL (Z : smZ) (P : smP) (m : Nat) (i : Instr) (x y z : Nat) : Prop := match i with
  | .getfield idx => sm_okF Z (zow Z m) idx x y z
  | .putfield idx => sm_okP Z P (zow Z m) (znm Z m).name idx x y z
  | .invokestatic idx => sm_okS Z m idx x y z
  | .invokevirtual idx => sm_okM Z m idx x y ∧ y + 1 ≤ zmL Z x ∧ Cond.instanceMethod (znm Z x) ∈ zTB Z ∧ Cond.selects (znm Z x).cls (znm Z x) (znm Z x) ∈ zTB Z ∧ (match z with
    | 0 => (znm Z x).cls = "java/lang/String"
    | z + 1 => ∃ q : vw_C, (zcl Z)[z]? = some q ∧ q.1 = (znm Z x).cls)
  | .invokespecial idx => (match z with
    | 0 => Cond.methodLink (zow Z m) idx objectInit ∈ zTB Z ∧ Cond.instanceMethod objectInit ∈ zTB Z ∧ Cond.code objectInit ⟨#[0xb1]⟩ 1 none ∈ zTB Z ∧ 1 ≤ zfr Z m ∧ 20 ≤ zlo Z m
    | _ + 1 => sm_okM Z m idx x y ∧ y + 1 ≤ zmL Z x ∧ Cond.instanceMethod (znm Z x) ∈ zTB Z ∧ (znm Z x).name = "<init>" ∧ zrt Z x = none)
  | .getstatic idx => ∃ C n d : String, Cond.fieldLink (zow Z m) idx C n d ∈ zTB Z ∧ (match z with
    | 0 => (C, n, d, Value.int (Int32.ofNat x)) ∈ zST Z
    | _ + 1 => (C, n, d, Value.retAddr x) ∈ zST Z)
  | .new idx => ∃ q : vw_C, (zcl Z)[x]? = some q ∧ Cond.classLink (zow Z m) idx q.1 ∈ zTB Z ∧ Cond.instantiable q.1 q.2.2 ∈ zTB Z ∧ Cond.initialized q.1 ∈ zTB Z
  | .newarray t => Cond.arrayClass (newarray.typeOf t) ∈ zTB Z
  | .anewarray idx => ∃ C : String, P.2.2.2.1 x = .object C ∧ Cond.classLink (zow Z m) idx C ∈ zTB Z ∧ Cond.arrayOver (.object C) ∈ zNW Z
  | .multianewarray idx _ => Cond.classLink (zow Z m) idx "[[I" ∈ zTB Z ∧ Cond.arrayOver (.array .int) ∈ zNW Z ∧ Cond.arrayClass .int ∈ zTB Z
  | .ldc idx => (match z with
    | 0 => Cond.constant (zow Z m) idx (Int32.ofNat x) ∈ zTB Z
    | _ + 1 => ∃ tx, (zow Z m, idx, tx, x) ∈ zSC Z)
  | .ldc2_w idx => Cond.constantLong (zow Z m) idx (Int64.ofNat x) ∈ zTB Z
  | .ireturn => (match z with
    | 0 => zrt Z m = some .int
    | z + 1 => zrt Z m = some (sm_nk (z + 1)))
  | .lreturn => zrt Z m = some .long
  | .areturn => ∃ rt, zrt Z m = some rt ∧ ((∃ n, rt = .object n) ∨ ∃ t, rt = .array t)
  | .return_ => zrt Z m = none
  | _ => True
def sm_okI (Z : smZ) (P : smP) (m pc : Nat) (i : Instr) (len x y z : Nat) : Prop := decode (zby Z m) pc = .ok (i, len) ∧ sm_okA (zmL Z m) pc len i x y = true ∧ sm_okL Z P m i x y z
/-- of the classes and of the words themselves -/
def sm_okC (Z : smZ) (P : smP) : Prop := (∀ (k : Nat) (q : vw_C), (zcl Z)[k]? = some q → (∀ w ∈ u_ws q.1 q.2.1 q.2.2, w ∈ zTB Z) ∧ (∃ ty : Nat → FieldType, (∀ j, j < q.2.2 → parseFieldDescriptor (q.2.1 j).2.2.1 = some (ty j)) ∧ ∀ j, j < q.2.2 → defaultValue (ty j) = vp_V (P.2.2.1 k) j) ∧ (P.2.2.1 k).length = q.2.2 ∧ (∀ a, a < q.2.2 → ∀ b, b < q.2.2 → a ≠ b → (q.2.1 a).2.1 ≠ (q.2.1 b).2.1) ∧ P.2.2.2.1 k = .object q.1) ∧
  (∀ w ∈ zTB Z, goodWord w = true) ∧
  (∀ w ∈ zNW Z, (∀ s U : State, s.WarmedH U.vm → va_Nw w s → va_Nw w U) ∧ (∀ u U : State, u.vm = U.vm → va_Nw w u → va_Nw w U) ∧ ∀ (A : Array Value) (U : State), va_Nw w U → w.before A U = true)
/-- a frame of method m: what a walk of it may use -/
def sm_Fx (Z : smZ) (P : smP) (X : smX) (Y : smY) (p : Program) (R : Room) (s : State) (mid : MethodId) (args : Array Value) (meth : Method) (c : Code) (m : Nat) : Prop :=
  p.tables.exec = Jvm.exec ∧ c.code = zby Z m ∧ c.maxLocals = zmL Z m ∧ s.vm.findClass (zow Z m) = some mid.cls ∧ (∀ w ∈ zTB Z, w.before args s = true) ∧ sm_VC Z Y s ∧ sm_HC Z P X Y s s.heap ∧ meth.name = (znm Z m).name ∧ (∀ a, s.heap.size ≤ a → Y.2.1 a) ∧ sm_okC Z P ∧ R.frames = zfr Z m ∧ R.locals = zlo Z m
def sm_G (Z : smZ) (Y : smY) (p : Program) (l : Launch) (e : Env) (R : Room) (s : State) (mid : MethodId) (args : Array Value) (below : List Frame) (meth : Method) (c : Code) (Q : State → Prop) (m : Nat) (hf : smH) (Cf Sf : Nat) (pc : Nat) (ls : smL) (st : List Value) (h : smH) : Prop :=
  ∀ (H : Heap) (locs : List Loc) (cells slots : Nat) (la : Array Slot), sm_Rel Z Y s h H → va_S Y.2.1 s.heap H locs → lv_has la (zmL Z m) (sm_ml Y ls) → cells + hf.2.1 = Cf + h.2.1 → slots + hf.2.2 = Sf + h.2.2 → W p l e R s mid args below meth c H locs cells slots Q (F0 mid pc la (st.map (sm_v Y)))
/-! what a helper's answer says -/
theorem sm_pI_e {st : List Value} {κ : Int32 → List Value → smR} {r : Option Value × smH} (h : sm_pI st κ = some r) : ∃ x t, st = .int x :: t ∧ κ x t = some r := by
  unfold sm_pI at h; split at h
  · exact ⟨_, _, rfl, h⟩
  · cases h
theorem sm_pJ_e {st : List Value} {κ : Int64 → List Value → smR} {r : Option Value × smH} (h : sm_pJ st κ = some r) : ∃ x t, st = .long x :: t ∧ κ x t = some r := by
  unfold sm_pJ at h; split at h
  · exact ⟨_, _, rfl, h⟩
  · cases h
theorem sm_pR_e {st : List Value} {κ : Nat → List Value → smR} {r : Option Value × smH} (h : sm_pR st κ = some r) : ∃ x t, st = .ref x :: t ∧ κ x t = some r := by
  unfold sm_pR at h; split at h
  · exact ⟨_, _, rfl, h⟩
  · cases h
theorem sm_pT_e {st : List Value} {κ : Nat → List Value → smR} {r : Option Value × smH} (h : sm_pT st κ = some r) : ∃ x t, st = .retAddr x :: t ∧ κ x t = some r := by
  unfold sm_pT at h; split at h
  · exact ⟨_, _, rfl, h⟩
  · cases h
theorem sm_pV_e {st : List Value} {κ : Value → List Value → smR} {r : Option Value × smH} (h : sm_pV st κ = some r) : ∃ x t, st = x :: t ∧ κ x t = some r := by
  unfold sm_pV at h; split at h
  · exact ⟨_, _, rfl, h⟩
  · cases h
theorem sm_gI_e {o : Option Value} {κ : Int32 → smR} {r : Option Value × smH} (h : sm_gI o κ = some r) : ∃ x, o = some (.int x) ∧ κ x = some r := by
  unfold sm_gI at h; split at h
  · exact ⟨_, rfl, h⟩
  · cases h
theorem sm_gJ_e {o : Option Value} {κ : Int64 → smR} {r : Option Value × smH} (h : sm_gJ o κ = some r) : ∃ x, o = some (.long x) ∧ κ x = some r := by
  unfold sm_gJ at h; split at h
  · exact ⟨_, rfl, h⟩
  · cases h
theorem sm_gR_e {o : Option Value} {κ : Nat → smR} {r : Option Value × smH} (h : sm_gR o κ = some r) : ∃ x, o = some (.ref x) ∧ κ x = some r := by
  unfold sm_gR at h; split at h
  · exact ⟨_, rfl, h⟩
  · cases h
theorem sm_gA_e {o : Option Value} {κ : Value → smR} {r : Option Value × smH} (h : sm_gA o κ = some r) : ∃ v, o = some v ∧ sm_isA v = true ∧ κ v = some r := by
  unfold sm_gA at h; split at h
  · exact ⟨_, rfl, rfl, h⟩
  · exact ⟨_, rfl, rfl, h⟩
  · exact ⟨_, rfl, rfl, h⟩
  · cases h
theorem sm_ite_e {c : Prop} [Decidable c] {a b : smR} {r : Option Value × smH} (h : (if c then a else b) = some r) : (c ∧ a = some r) ∨ (¬ c ∧ b = some r) := by
  by_cases hc : c
  · rw [if_pos hc] at h; exact Or.inl ⟨hc, h⟩
  · rw [if_neg hc] at h; exact Or.inr ⟨hc, h⟩
theorem sm_bif_e {c : Bool} {a : smR} {r : Option Value × smH} (h : (bif c then a else none) = some r) : c = true ∧ a = some r := by
  cases c
  · cases h
  · exact ⟨rfl, h⟩
theorem sm_cR_e {o : smR} {κ : Option Value → smH → smR} {r : Option Value × smH} (h : sm_cR o κ = some r) : ∃ v h', o = some (v, h') ∧ κ v h' = some r := by
  unfold sm_cR at h; split at h
  · exact ⟨_, _, rfl, h⟩
  · cases h
theorem sm_lg_mem {k : Nat} {v : Value} : ∀ {ls : smL}, sm_lg k ls = some v → (k, v) ∈ ls
  | [], h => by cases h
  | (j, w) :: l, h => by
    unfold sm_lg at h
    cases hb : Nat.beq j k with
    | true =>
      simp only [hb, cond_true] at h
      cases h
      rw [Nat.eq_of_beq_eq_true hb]
      exact List.mem_cons_self
    | false =>
      simp only [hb, cond_false] at h
      exact List.mem_cons_of_mem _ (sm_lg_mem h)
theorem sm_at_la {Y : smY} {la : Array Slot} {nL k : Nat} {v : Value} {ls : smL} (hL : lv_has la nL (sm_ml Y ls)) (h : sm_lg k ls = some v) : la[k]? = some (.val (sm_v Y v)) :=
  hL.2.2 (k, sm_v Y v) (List.mem_map.mpr ⟨(k, v), sm_lg_mem h, rfl⟩)
theorem sm_in_mem {i : Nat} {v : Value} {q : Nat × Value} : ∀ {l : smL}, q ∈ sm_in i v l → q = (i, v) ∨ q ∈ l
  | [], h => by
    rcases List.mem_cons.mp h with h | h
    · exact Or.inl h
    · cases h
  | p :: l, h => by
    unfold sm_in at h
    cases hb : Nat.blt p.1 i with
    | true =>
      simp only [hb, cond_true] at h
      rcases List.mem_cons.mp h with h | h
      · exact Or.inr (by rw [h]; exact List.mem_cons_self)
      · rcases sm_in_mem h with h | h
        · exact Or.inl h
        · exact Or.inr (List.mem_cons_of_mem _ h)
    | false =>
      simp only [hb, cond_false] at h
      rcases List.mem_cons.mp h with h | h
      · exact Or.inl h
      · exact Or.inr h
theorem sm_v_cat {Y : smY} (hY : ∀ t, Y.2.2 t = .null ∨ ∃ a, Y.2.2 t = .ref a) (v : Value) : (sm_v Y v).category = v.category := by
  cases v <;> try rfl
  rename_i t
  show (Y.2.2 t).category = 1
  rcases hY t with h | ⟨a, h⟩ <;> rw [h] <;> rfl
theorem sm_l1_has {Y : smY} (hY : ∀ t, Y.2.2 t = .null ∨ ∃ a, Y.2.2 t = .ref a) {la : Array Slot} {nL i : Nat} {v w : Value} {ls : smL} (hw : sm_v Y v = w) (h : lv_has la nL ((i, w) :: (sm_ml Y ls).filter (fun q => !(q.1 == i) && !(q.1 + 1 == i && q.2.category == 2)))) : lv_has la nL (sm_ml Y (sm_l1 i v ls)) := by
  refine ⟨h.1, h.2.1, fun q hq => ?_⟩
  obtain ⟨q0, h0, rfl⟩ := List.mem_map.mp hq
  rcases sm_in_mem h0 with rfl | h1
  · exact h.2.2 (i, sm_v Y v) (by rw [hw]; exact List.mem_cons_self)
  · obtain ⟨a, b⟩ := List.mem_filter.mp h1
    refine h.2.2 _ (List.mem_cons_of_mem _ (List.mem_filter.mpr ⟨List.mem_map.mpr ⟨q0, a, rfl⟩, ?_⟩))
    rw [← b]
    simp only [sm_v_cat hY]
theorem sm_l2_has {Y : smY} (hY : ∀ t, Y.2.2 t = .null ∨ ∃ a, Y.2.2 t = .ref a) {la : Array Slot} {nL i : Nat} {v w : Value} {ls : smL} (hw : sm_v Y v = w) (h : lv_has la nL ((i, w) :: (sm_ml Y ls).filter (fun q => !(q.1 == i) && (!(q.1 == i + 1) && !(q.1 + 1 == i && q.2.category == 2))))) : lv_has la nL (sm_ml Y (sm_l2 i v ls)) := by
  refine ⟨h.1, h.2.1, fun q hq => ?_⟩
  obtain ⟨q0, h0, rfl⟩ := List.mem_map.mp hq
  rcases sm_in_mem h0 with rfl | h1
  · exact h.2.2 (i, sm_v Y v) (by rw [hw]; exact List.mem_cons_self)
  · obtain ⟨a, b⟩ := List.mem_filter.mp h1
    refine h.2.2 _ (List.mem_cons_of_mem _ (List.mem_filter.mpr ⟨List.mem_map.mpr ⟨q0, a, rfl⟩, ?_⟩))
    rw [← b]
    simp only [sm_v_cat hY]
theorem sm_tg_e {pc : Nat} {o : Int} (h : 0 ≤ (pc : Int) + o) : (pc : Int) + o = (sm_tg pc o : Int) := by
  unfold sm_tg
  rw [Int.toNat_of_nonneg h]
end
section
theorem sm_cat1_v {Y : smY} (hY : ∀ t, Y.2.2 t = .null ∨ ∃ a, Y.2.2 t = .ref a) {v : Value} (h : sm_cat1 v = true) : (sm_v Y v).category = 1 := by
  rw [sm_v_cat hY]
  cases v <;> first | rfl | cases h
theorem sm_isA_v {Y : smY} (hY : ∀ t, Y.2.2 t = .null ∨ ∃ a, Y.2.2 t = .ref a) {v : Value} (h : sm_isA v = true) : sm_v Y v = .null ∨ ∃ a, sm_v Y v = .ref a := by
  cases v with
  | ref a => exact Or.inr ⟨a, rfl⟩
  | null => exact Or.inl rfl
  | retAddr t => exact hY t
  | _ => cases h
/-! the two heaps -/
theorem sm_cell.kept {Z : smZ} {Y : smY} {U : State} {a : Nat} {e : smC} {H H1 : Heap} (h : sm_cell Z Y U a e H) (hq : H1[a]? = H[a]?) : sm_cell Z Y U a e H1 := by
  cases e with
  | inl x =>
    obtain ⟨cA, h1, h2⟩ := h
    exact ⟨cA, h1, hq.trans h2⟩
  | inr o => exact va_at.kept (q := (a, .inr o)) h hq
theorem sm_cell.lt {Z : smZ} {Y : smY} {U : State} {a : Nat} {e : smC} {H : Heap} (h : sm_cell Z Y U a e H) : a < H.size := by
  cases e with
  | inl x =>
    obtain ⟨cA, h1, h2⟩ := h
    exact (Array.getElem?_eq_some_iff.mp h2).1
  | inr o => exact va_at.lt (q := (a, .inr o)) h
theorem sm_cell.moved {Z : smZ} {Y : smY} {u U : State} {a : Nat} {e : smC} {H : Heap} (hvm : u.vm.Alike U.vm) (h : sm_cell Z Y u a e H) : sm_cell Z Y U a e H := by
  cases e with
  | inl x =>
    obtain ⟨cA, ⟨h1, h2⟩, h3⟩ := h
    exact ⟨cA, ⟨arrOfT_moved hvm h1, h2.moved hvm⟩, h3⟩
  | inr o => exact h
theorem sm_Rel.moved {Z : smZ} {Y : smY} {u U : State} {h : smH} {H : Heap} (hvm : u.vm.Alike U.vm) (hR : sm_Rel Z Y u h H) : sm_Rel Z Y U h H := ⟨hR.1, fun a e he => ⟨(hR.2 a e he).1, (hR.2 a e he).2.moved hvm⟩⟩
theorem sm_Rel.w {Z : smZ} {Y : smY} {U : State} {h : smH} {H H1 : Heap} {a : Nat} {e : smC} (hR : sm_Rel Z Y U h H) (z : H1.size = H.size) (oq : ∀ q : Nat, q ≠ a → H1[q]? = H[q]?) (ha : Y.2.1 a) (hc : sm_cell Z Y U a e H1) : sm_Rel Z Y U (sm_w h a e) H1 := by
  refine ⟨by rw [z]; exact hR.1, fun b e' he => ?_⟩
  have he' : (if b = a then some e else h.1 b) = some e' := he
  by_cases hb : b = a
  · rw [if_pos hb] at he'
    cases he'
    rw [hb]
    exact ⟨ha, hc⟩
  · rw [if_neg hb] at he'
    exact ⟨(hR.2 b e' he').1, (hR.2 b e' he').2.kept (oq b hb)⟩
theorem sm_Rel.n {Z : smZ} {Y : smY} {U : State} {h : smH} {H H1 : Heap} {e : smC} {k : Nat} (hR : sm_Rel Z Y U h H) (z : H1.size = h.2.1 + 1) (oq : ∀ q : Nat, q < h.2.1 → H1[q]? = H[q]?) (ha : Y.2.1 h.2.1) (hc : sm_cell Z Y U h.2.1 e H1) : sm_Rel Z Y U (sm_n h e k) H1 := by
  refine ⟨z.symm, fun b e' he => ?_⟩
  have he' : (if b = h.2.1 then some e else h.1 b) = some e' := he
  by_cases hb : b = h.2.1
  · rw [if_pos hb] at he'
    cases he'
    rw [hb]
    exact ⟨ha, hc⟩
  · rw [if_neg hb] at he'
    have h2 := hR.2 b e' he'
    exact ⟨h2.1, h2.2.kept (oq b (by rw [hR.1]; exact h2.2.lt))⟩
theorem sm_one {D : va_G} {cl : List vw_C} {q : Nat × va_E} {H : Heap} (h : va_at D cl q H) : va_P D cl [q] H := by
  intro k x hk
  have h0 : k < 1 := (List.getElem?_eq_some_iff.mp hk).1
  rw [show k = 0 by omega] at hk
  cases hk
  exact h
theorem sm_K0 {Z : smZ} {Y : smY} {s : State} (h : sm_VC Z Y s) : va_K Y.1 (zcl Z) [] s := ⟨h.1, fun k q h => by simp at h⟩
theorem sm_K1 {Z : smZ} {Y : smY} {s : State} (h : sm_VC Z Y s) {cA : ClassId} {ty : FieldType} (h1 : ArrOfT s cA ty ∧ va_RA s cA ty) : va_K Y.1 (zcl Z) [(cA, ty)] s := ⟨h.1, fun k q hk => by
  have h0 : k < 1 := (List.getElem?_eq_some_iff.mp hk).1
  rw [show k = 0 by omega] at hk
  cases hk
  exact h1⟩
theorem sm_f_e {h : smH} {a ci k : Nat} {v : Value} (e : sm_f h a ci k = some v) : ∃ fs, h.1 a = some (.inr (ci, fs)) ∧ fs[k]? = some v := by
  unfold sm_f at e; split at e
  · rename_i c fs hh
    cases hb : Nat.beq c ci with
    | true =>
      simp only [hb, cond_true] at e
      exact ⟨fs, by rw [hh, Nat.eq_of_beq_eq_true hb], e⟩
    | false => simp only [hb, cond_false] at e; cases e
  · cases e
theorem sm_fP_e {h : smH} {a ci k : Nat} {v : Value} {κ : smH → smR} {r : Option Value × smH} (e : sm_fP h a ci k v κ = some r) : ∃ fs, h.1 a = some (.inr (ci, fs)) ∧ k < fs.length ∧ κ (sm_w h a (.inr (ci, fs.set k v))) = some r := by
  unfold sm_fP at e; split at e
  · rename_i c fs hh
    obtain ⟨h1, h2⟩ := sm_bif_e e
    rw [Bool.and_eq_true] at h1
    obtain rfl : c = ci := Nat.eq_of_beq_eq_true h1.1
    exact ⟨fs, hh, by have h3 := h1.2; unfold Nat.blt at h3; exact Nat.le_of_ble_eq_true h3, h2⟩
  · cases e
theorem sm_ld_e {o : Option (FieldType × vp_A)} {ty : FieldType} {i : Int32} {κ : Int32 → smR} {r : Option Value × smH} (e : sm_ld o ty i κ = some r) : ∃ n f, o = some (ty, n, .inl f) ∧ vp_in i n ∧ κ (f i.toNatClampNeg) = some r := by
  unfold sm_ld at e; split at e
  · rename_i t n f
    rcases sm_ite_e e with ⟨h1, e1⟩ | ⟨-, e1⟩
    · rcases sm_ite_e e1 with ⟨-, e2⟩ | ⟨h2, e2⟩
      · cases e2
      · exact ⟨n, f, by rw [h1], h2, e2⟩
    · cases e1
  · cases e
theorem sm_ldR_e {o : Option (FieldType × vp_A)} {i : Int32} {κ : Nat → smR} {r : Option Value × smH} (e : sm_ldR o i κ = some r) : ∃ t n f b, o = some (t, n, .inr (.inr (.inr (.inr f)))) ∧ t.isReference = true ∧ vp_in i n ∧ f i.toNatClampNeg = some b ∧ κ b = some r := by
  unfold sm_ldR at e; split at e
  · rename_i t n f
    obtain ⟨h1, e1⟩ := sm_bif_e e
    rcases sm_ite_e e1 with ⟨-, e2⟩ | ⟨h2, e2⟩
    · cases e2
    · split at e2
      · rename_i b hb
        exact ⟨t, n, f, b, rfl, h1, h2, hb, e2⟩
      · cases e2
  · cases e
theorem sm_st_e {h : smH} {a : Nat} {ty : FieldType} {i x : Int32} {κ : smH → smR} {r : Option Value × smH} (e : sm_st h a ty i x κ = some r) : ∃ n f, h.1 a = some (.inl (ty, n, .inl f)) ∧ vp_in i n ∧ κ (sm_w h a (.inl (ty, n, .inl (upd f i.toNatClampNeg x)))) = some r := by
  unfold sm_st at e; split at e
  · rename_i t n f hh
    rcases sm_ite_e e with ⟨h1, e1⟩ | ⟨-, e1⟩
    · rcases sm_ite_e e1 with ⟨-, e2⟩ | ⟨h2, e2⟩
      · cases e2
      · exact ⟨n, f, by rw [hh, h1], h2, e2⟩
    · cases e1
  · cases e
theorem sm_stR_e {P : smP} {h : smH} {a : Nat} {i : Int32} {v : Nat} {κ : smH → smR} {r : Option Value × smH} (e : sm_stR P h a i v κ = some r) : ∃ t n f ci vs, h.1 a = some (.inl (t, n, .inr (.inr (.inr (.inr f))))) ∧ h.1 v = some (.inr (ci, vs)) ∧ t = P.2.2.2.1 ci ∧ vp_in i n ∧ κ (sm_w h a (.inl (t, n, .inr (.inr (.inr (.inr (va_up f i.toNatClampNeg (some v)))))))) = some r := by
  unfold sm_stR at e; split at e
  · rename_i t n f hh
    split at e
    · rename_i ci vs hv
      rcases sm_ite_e e with ⟨h1, e1⟩ | ⟨-, e1⟩
      · rcases sm_ite_e e1 with ⟨-, e2⟩ | ⟨h2, e2⟩
        · cases e2
        · exact ⟨t, n, f, ci, vs, hh, hv, h1, h2, e2⟩
      · cases e1
    · cases e
  · cases e
theorem sm_ar_ref {P : smP} {X : smX} {h : smH} {a : Nat} {x : FieldType × vp_A} (e : sm_ar P X h (.ref a) = some x) : h.1 a = some (.inl x) := by
  have e' : (match h.1 a with | some (.inl x) => some x | _ => none) = some x := e
  split at e'
  · rename_i y hh
    cases e'
    exact hh
  · cases e'
theorem sm_ar_e {P : smP} {X : smX} {h : smH} {v : Value} {x : FieldType × vp_A} (e : sm_ar P X h v = some x) : (∃ a, v = .ref a ∧ h.1 a = some (.inl x)) ∨ (∃ t, v = .retAddr t ∧ sm_oA P X t = some x) := by
  cases v with
  | ref a => exact Or.inl ⟨a, rfl, sm_ar_ref e⟩
  | retAddr t => exact Or.inr ⟨t, rfl, e⟩
  | _ => cases e
theorem sm_oA_i {P : smP} {X : smX} {t : Nat} {x : FieldType × vp_A} (e : sm_oA P X t = some x) : ∃ ty n f, x = (ty, n, .inl f) := by
  unfold sm_oA at e
  cases h1 : Nat.beq t 40 with
  | true => simp only [h1, cond_true] at e; cases e; exact ⟨_, _, _, rfl⟩
  | false =>
    simp only [h1, cond_false] at e
    obtain ⟨-, e⟩ : _ ∧ _ = some x := by
      cases h2 : (Nat.blt t 40 && Nat.blt 15 t) with
      | true => simp only [h2, cond_true] at e; exact ⟨trivial, e⟩
      | false => simp only [h2, cond_false] at e; cases e
    split at e
    · cases e; exact ⟨_, _, _, rfl⟩
    · cases e
end
section
/-! calls: a method's contract in the small machine's words; what its caller gets -/
def sm_Pc (Z : smZ) (P : smP) (X : smX) (Y : smY) (as : List Value) (h : smH) : Array Value → State → Prop := fun a U => a = (as.map (sm_v Y)).toArray ∧ sm_VC Z Y U ∧ sm_HC Z P X Y U U.heap ∧ sm_Rel Z Y U h U.heap ∧ ∀ a, U.heap.size ≤ a → Y.2.1 a
def sm_Qc (Z : smZ) (Y : smY) (v : Option Value) (h : smH) : Array Value → State → Outcome → State → Prop := fun _ st o t => (o = .returned (v.map (sm_v Y)) ∧ sm_Rel Z Y t h t.heap) ∧ va_F Y.2.1 st t
def sm_ws (Z : smZ) (m : Nat) : List Cond := Cond.code (znm Z m) (zby Z m) (zmL Z m) (zrt Z m) :: zTB Z
def sm_rm (Z : smZ) (m : Nat) (h h' : smH) : Room := { frames := zfr Z m, cells := h'.2.1 - h.2.1, slots := h'.2.2 - h.2.2, locals := zlo Z m }
def sm_CC (Z : smZ) (P : smP) (X : smX) (Y : smY) (l : Launch) (C : smCT) : Prop := ∀ (m : Nat) (as : List Value) (h : smH) (v : Option Value) (h' : smH), m < znM Z → as.length ≤ zmL Z m → as.all sm_cat1 = true → C m as h = some (v, h') →
  sm_le h h' ∧ Met l (znm Z m) (sm_ws Z m) (sm_rm Z m h h') (sm_Pc Z P X Y as h) (sm_Qc Z Y v h') (h'.2.1 - h.2.1) (h'.2.2 - h.2.2) Y.2.1
theorem sm_VC.warm {Z : smZ} {P : smP} {Y : smY} {s U : State} (hZ : sm_okC Z P) (hW : s.WarmedH U.vm) (h : sm_VC Z Y s) : sm_VC Z Y U :=
  ⟨fun k q hq => u_Kn_moved hW.alike (h.1 k q hq), fun w hw => (hZ.2.2 w hw).1 s U hW (h.2.1 w hw), fun q hq => by
    obtain ⟨a, h1, h2⟩ := h.2.2 q hq
    exact ⟨a, h1, h2.warm hW⟩⟩
theorem sm_VC.same {Z : smZ} {P : smP} {Y : smY} {s U : State} (hZ : sm_okC Z P) (hv : U.vm = s.vm) (h : sm_VC Z Y s) : sm_VC Z Y U :=
  ⟨fun k q hq => u_Kn_moved (by rw [hv]; exact Vm.Alike.refl s.vm) (h.1 k q hq), fun w hw => (hZ.2.2 w hw).2.1 s U hv.symm (h.2.1 w hw), fun q hq => by
    obtain ⟨a, h1, h2⟩ := h.2.2 q hq
    exact ⟨a, h1, h2.same hv⟩⟩
theorem sm_HC.to {Z : smZ} {P : smP} {X : smX} {Y : smY} {s U : State} {H H1 : Heap} (hvm : s.vm.Alike U.vm) (hq : ∀ a : Nat, a < H.size → ¬ Y.2.1 a → H1[a]? = H[a]?) (h : sm_HC Z P X Y s H) : sm_HC Z P X Y U H1 := by
  refine ⟨fun q hq' => va_Z.moved hvm ((h.1 q hq').kept hq), fun t ht => ?_, fun t ty n f e => ?_, h.2.2.2⟩
  · obtain ⟨a, b, h1, h2, h3, h4, h5⟩ := h.2.1 t ht
    exact ⟨a, b, h1, h2, va_O.moved hvm (h3.kept hq), va_OF.moved hvm (h4.kept hq), va_OF.moved hvm (h5.kept hq)⟩
  · obtain ⟨b, h1, h2⟩ := h.2.2.1 t ty n f e
    exact ⟨b, h1, va_T.moved hvm (h2.kept hq)⟩
theorem sm_Pc.blind {Z : smZ} {P : smP} {X : smX} {Y : smY} {as : List Value} {h : smH} (hZ : sm_okC Z P) : FrameBlind (sm_Pc Z P X Y as h) := by
  intro a U g mk q
  obtain ⟨q0, q1, q2, q3, q4⟩ := q
  exact ⟨q0, sm_VC.same (s := U) (U := U.calling g mk a) hZ rfl q1, sm_HC.to (U := U.calling g mk a) (Vm.Alike.refl U.vm) (fun _ _ _ => rfl) q2, sm_Rel.moved (U := U.calling g mk a) (Vm.Alike.refl U.vm) q3, q4⟩
section SMCALL
variable {Z : smZ} {P : smP} {X : smX} {Y : smY} {p : Program} {l : Launch} {e : Env} {R : Room} {s : State} {mid : MethodId} {args : Array Value} {below : List Frame} {meth : Method} {c : Code} {Q : State → Prop} {m : Nat}
theorem sm_PcU {H : Heap} {as : List Value} {h : smH} {locs : List Loc} (hZ : sm_okC Z P) (hVC : sm_VC Z Y s) (hHC : sm_HC Z P X Y s s.heap) (hA : ∀ a, s.heap.size ≤ a → Y.2.1 a) (hRel : sm_Rel Z Y s h H) (hS : va_S Y.2.1 s.heap H locs) {U : State} (hU : U.heap = H) (hW : s.WarmedH U.vm) : sm_Pc Z P X Y as h (as.map (sm_v Y)).toArray U := by
  subst hU
  exact ⟨rfl, hVC.warm hZ hW, hHC.to hW.alike (fun a h1 h2 => hS.2.1 a h1 h2), hRel.moved hW.alike, fun a ha => hA a (Nat.le_trans hS.1 ha)⟩
theorem sm_call {pc : Nat} {la : Array Slot} {st0 rest : List Value} {H : Heap} {locs : List Loc} {cells slots mc ms : Nat} {v : Option Value} {h' : smH} {a : Array Value} (hr : va_Run p l e R s mid args below meth c H locs cells slots mc ms (F0 mid pc la st0) rest (sm_Qc Z Y v h' a) Y.2.1) (hS : va_S Y.2.1 s.heap H locs)
    (kk : ∀ (H1 : Heap) (locs1 : List Loc), sm_Rel Z Y s h' H1 → va_S Y.2.1 s.heap H1 locs1 → W p l e R s mid args below meth c H1 locs1 (cells + mc) (slots + ms) Q (F0 mid (pc + 3) la ((v.map (sm_v Y)).toList ++ rest))) : W p l e R s mid args below meth c H locs cells slots Q (F0 mid pc la st0) := by
  intro T hT Xs
  obtain ⟨v0, st₀, t, T', L, h0, X', hL, e1, e2, ⟨⟨hv, hrel⟩, hz, hk⟩, st⟩ := hr T hT Xs
  cases hv
  rw [h0] at hz hk
  have hrel1 : sm_Rel Z Y s h' T'.heap := by
    rw [e1]
    refine hrel.moved ?_
    rw [← e2]
    exact X'.warmed.alike.symm
  have hS1 : va_S Y.2.1 s.heap T'.heap (locs ++ L) := ⟨Nat.le_trans hS.1 (by rw [e1]; exact hz), fun q h1 h2 => by rw [e1, hk q (Nat.lt_of_lt_of_le h1 hS.1) h2]; exact hS.2.1 q h1 h2, fun q hq => by
    rcases List.mem_append.mp hq with h | h
    · exact hS.2.2 q h
    · exact hL q h⟩
  obtain ⟨t2, a1, b1⟩ := kk T'.heap (locs ++ L) hrel1 hS1 T' rfl X'
  exact ⟨t2, st t2 a1, b1⟩
end SMCALL
theorem sm_pN_e {n : Nat} {st : List Value} {κ : List Value → List Value → smR} {r : Option Value × smH} (h : sm_pN n st κ = some r) : ∃ as t, st = as.reverse ++ t ∧ as.length = n ∧ as.all sm_cat1 = true ∧ (t.map (fun v => v.category)).sum ≤ 8 ∧ κ as t = some r := by
  unfold sm_pN at h
  obtain ⟨h1, h2⟩ := sm_bif_e h
  rw [Bool.and_eq_true, Bool.and_eq_true] at h1
  obtain ⟨⟨h3, h4⟩, h5⟩ := h1
  have h3 := Nat.le_of_ble_eq_true h3
  refine ⟨(st.take n).reverse, st.drop n, ?_, ?_, ?_, Nat.le_of_ble_eq_true h5, h2⟩
  · rw [List.reverse_reverse, List.take_append_drop]
  · rw [List.length_reverse, List.length_take]; omega
  · rw [List.all_reverse]; exact h4
theorem sm_cats {Y : smY} (hY : ∀ t, Y.2.2 t = .null ∨ ∃ a, Y.2.2 t = .ref a) (t : List Value) : ((t.map (sm_v Y)).map (fun v => v.category)) = t.map (fun v => v.category) := by
  rw [List.map_map]
  apply List.map_congr_left
  intro v _
  exact sm_v_cat hY v
theorem sm_vc_e {h : smH} {a c : Nat} {o : smR} {r : Option Value × smH} (e : sm_vc h a c o = some r) : ∃ fs, h.1 a = some (.inr (c, fs)) ∧ o = some r := by
  unfold sm_vc at e; split at e
  · rename_i d fs hh
    obtain ⟨h1, h2⟩ := sm_bif_e e
    exact ⟨fs, by rw [hh, Nat.eq_of_beq_eq_true h1], h2⟩
  · cases e
theorem sm_al_e {o : Option (FieldType × vp_A)} {κ : Nat → smR} {r : Option Value × smH} (e : sm_al o κ = some r) : ∃ t n g, o = some (t, n, g) ∧ κ n = some r := by
  unfold sm_al at e; split at e
  · exact ⟨_, _, _, rfl, e⟩
  · cases e
theorem sm_sw_e {o : Option Int} {κ : Int → smR} {r : Option Value × smH} (e : sm_sw o κ = some r) : ∃ i, o = some i ∧ κ i = some r := by
  unfold sm_sw at e; split at e
  · exact ⟨_, rfl, e⟩
  · cases e
def sm_isR (i : Instr) : Bool := match i with
  | .ireturn => true
  | .lreturn => true
  | .areturn => true
  | .return_ => true
  | _ => false
theorem sm_good {Z : smZ} {P : smP} (hZ : sm_okC Z P) {ws : List Cond} (h : ∀ w ∈ ws, w ∈ zTB Z) : GoodIn (zTB Z) ws := fun w hw => ⟨h w hw, good_of_word (hZ.2.1 w (h w hw))⟩
section SM6
variable {Z : smZ} {P : smP} {X : smX} {Y : smY} {p : Program} {l : Launch} {e : Env} {R : Room} {s : State} {mid : MethodId} {args : Array Value} {below : List Frame} {meth : Method} {c : Code} {Q : State → Prop} {m : Nat} {r : Option Value × smH} {Cf Sf : Nat} {C : smCT} {K : smK}
/-- what a walk is given: the frame, the rest's walks, the callees' contracts, its own end, room enough -/
def sm_Gv (Z : smZ) (P : smP) (X : smX) (Y : smY) (p : Program) (l : Launch) (e : Env) (R : Room) (s : State) (mid : MethodId) (args : Array Value) (below : List Frame) (meth : Method) (c : Code) (Q : State → Prop) (m : Nat) (r : Option Value × smH) (Cf Sf : Nat) (C : smCT) (K : smK) : Prop :=
  sm_Fx Z P X Y p R s mid args meth c m ∧ (∀ pc ls st h, K pc ls st h = some r → sm_le h r.2 ∧ sm_G Z Y p l e R s mid args below meth c Q m r.2 Cf Sf pc ls st h) ∧ sm_CC Z P X Y l C ∧
  (∀ (i : Instr) (len x y z pc : Nat) (ls : smL) (st : List Value) (h : smH), sm_okI Z P m pc i len x y z → sm_isR i = true → sm_s6 P C K i x y z pc ls st h = some r → sm_G Z Y p l e R s mid args below meth c Q m r.2 Cf Sf pc ls st h) ∧ Cf ≤ R.cells ∧ Sf ≤ R.slots
theorem sm_room {h h1 hf : smH} {cells slots : Nat} (hl1 : sm_le h h1) (hl2 : sm_le h1 hf) (h1c : cells + hf.2.1 = Cf + h.2.1) (h2c : slots + hf.2.2 = Sf + h.2.2) (hC : Cf ≤ R.cells) (hS : Sf ≤ R.slots) : (cells + (h1.2.1 - h.2.1) ≤ R.cells ∧ slots + (h1.2.2 - h.2.2) ≤ R.slots) ∧ cells + (h1.2.1 - h.2.1) + hf.2.1 = Cf + h1.2.1 ∧ slots + (h1.2.2 - h.2.2) + hf.2.2 = Sf + h1.2.2 := by
  obtain ⟨a1, a2⟩ := hl1
  obtain ⟨b1, b2⟩ := hl2
  omega
theorem sm_kk {h1 : smH} {cells slots pc : Nat} {la : Array Slot} {ls : smL} {t : List Value} {v : Option Value} (hg : sm_G Z Y p l e R s mid args below meth c Q m r.2 Cf Sf (pc + 3) ls (v.toList ++ t) h1) (hL : lv_has la (zmL Z m) (sm_ml Y ls)) (g3 : cells + r.2.2.1 = Cf + h1.2.1) (g4 : slots + r.2.2.2 = Sf + h1.2.2) : ∀ (H1 : Heap) (locs1 : List Loc), sm_Rel Z Y s h1 H1 → va_S Y.2.1 s.heap H1 locs1 → W p l e R s mid args below meth c H1 locs1 cells slots Q (F0 mid (pc + 3) la ((v.map (sm_v Y)).toList ++ t.map (sm_v Y))) := fun H1 locs1 hR1 hS1 => by
  have hg1 := hg H1 locs1 _ _ la hR1 hS1 hL g3 g4
  rw [List.map_append] at hg1
  cases v <;> exact hg1
theorem sm_wsin {x : Nat} (hcode : Cond.code (znm Z x) (zby Z x) (zmL Z x) (zrt Z x) ∈ zTB Z) : ∀ w ∈ sm_ws Z x, w ∈ zTB Z := fun w hw => by
  rcases List.mem_cons.mp hw with h | h
  · rw [h]; exact hcode
  · exact h
set_option maxHeartbeats 4000000 in
/-- a virtual call, of the method of the receiver's class -/
theorem sm_gV (V : sm_Gv Z P X Y p l e R s mid args below meth c Q m r Cf Sf C K) {idx x y pc : Nat} {ls : smL} {as t : List Value} {h h1 : smH} {rv : Value} {v : Option Value} {b : Nat} (hb0 : sm_v Y rv = .ref b) (hc1 : sm_cat1 rv = true) (hd : decode (zby Z m) pc = .ok (.invokevirtual idx, 3)) (hok : sm_okM Z m idx x y) (hmL : y + 1 ≤ zmL Z x) (hin : Cond.instanceMethod (znm Z x) ∈ zTB Z) (hsel : Cond.selects (znm Z x).cls (znm Z x) (znm Z x) ∈ zTB Z)
    (hn : as.length = y) (hall : as.all sm_cat1 = true) (hcat : (t.map (fun v => v.category)).sum ≤ 8) (hc : C x (rv :: as) h = some (v, h1)) (hs2 : K (pc + 3) ls (v.toList ++ t) h1 = some r)
    {H : Heap} {locs : List Loc} {cells slots : Nat} {la : Array Slot} (hcell : ∃ cell : Cell, H[b]? = some cell ∧ cell.vm.isStatics = false ∧ s.vm.findClass (znm Z x).cls = some cell.cls) (hRel : sm_Rel Z Y s h H) (hS : va_S Y.2.1 s.heap H locs) (hL : lv_has la (zmL Z m) (sm_ml Y ls)) (g1 : cells + r.2.2.1 = Cf + h.2.1) (g2 : slots + r.2.2.2 = Sf + h.2.2) :
    W p l e R s mid args below meth c H locs cells slots Q (F0 mid pc la ((as.reverse ++ rv :: t).map (sm_v Y))) := by
  obtain ⟨F, hK, hC, hret, hCc, hCs⟩ := id V
  obtain ⟨hx, hb, hml, hown, hts, hVC, hHC, hnm, hA, hZ, hRf, hRl⟩ := id F
  obtain ⟨hxM, hdd, hcode, hini, hfr, hlo, hlink⟩ := hok
  obtain ⟨hle1, hM⟩ := hC x (rv :: as) h v h1 hxM (by rw [List.length_cons]; omega) (by rw [List.all_cons, hall, hc1]; rfl) hc
  obtain ⟨hle2, hg⟩ := hK _ _ _ _ hs2
  obtain ⟨hf, g3, g4⟩ := sm_room (R := R) hle1 hle2 g1 g2 hCc hCs
  have hstk : ((as.reverse ++ rv :: t).map (sm_v Y)) = (as.map (sm_v Y)).reverse ++ .ref b :: t.map (sm_v Y) := by rw [List.map_append, List.map_reverse, List.map_cons, hb0]
  have hroom : 2 * (F0 mid pc la ((as.reverse ++ rv :: t).map (sm_v Y))).monitorRoom + ((t.map (sm_v Y)).map fun v => v.category).sum ≤ 8 := lv_room (by rw [sm_cats hHC.2.2.2]; exact hcat)
  have hR2 : (sm_rm Z x h h1).frames + 1 ≤ R.frames ∧ 8 + (zmL Z x + 11) + (sm_rm Z x h h1).locals ≤ R.locals := by rw [hRf, hRl]; exact ⟨hfr, hlo⟩
  have hargs : Value.ref b :: as.map (sm_v Y) = (rv :: as).map (sm_v Y) := by rw [List.map_cons, hb0]
  have hpre : PreV s H (znm Z x).cls b (sm_Pc Z P X Y (rv :: as) h) (as.map (sm_v Y)) := ⟨sm_Pc.blind hZ, hcell, fun U hU hW => by rw [hargs]; exact sm_PcU hZ hVC hHC hA hRel hS hU hW⟩
  have hwsin := sm_wsin hcode
  rcases hlink with hlink | ⟨host, hlink⟩
  · exact sm_call (va_runV (C := (znm Z x).cls) (As := as.map (sm_v Y)) (rest := t.map (sm_v Y)) ⟨hx, hb, hml, hown, hts⟩ hM (cwV y hts (sm_good hZ (fun w hw => by
      rcases List.mem_append.mp hw with h | h
      · simp only [List.mem_cons, List.not_mem_nil, or_false] at h
        rcases h with rfl | rfl | rfl | rfl
        · exact hlink
        · exact hin
        · exact hsel
        · exact hini
      · exact hwsin w h)) rfl rfl rfl ⟨rfl, hdd⟩ hR2) hpre rfl (by rw [List.length_map]; exact hn) hL.1 hstk hroom hd hf) hS (sm_kk hg hL g3 g4)
  · exact sm_call (va_runVN (C := (znm Z x).cls) (As := as.map (sm_v Y)) (rest := t.map (sm_v Y)) ⟨hx, hb, hml, hown, hts⟩ hM ⟨va_cnB y hts (sm_good hZ hwsin) rfl rfl rfl (hVC.2.1 _ hlink) (hts _ hini) hdd hR2, hts _ hin, hts _ hsel⟩ hpre rfl (by rw [List.length_map]; exact hn) hL.1 hstk hroom hd hf) hS (sm_kk hg hL g3 g4)
set_option maxHeartbeats 4000000 in
theorem sm_g6 (V : sm_Gv Z P X Y p l e R s mid args below meth c Q m r Cf Sf C K) {i : Instr} {len x y z pc : Nat} {ls : smL} {st : List Value} {h : smH} (hok : sm_okI Z P m pc i len x y z) (hs : sm_s6 P C K i x y z pc ls st h = some r) : sm_G Z Y p l e R s mid args below meth c Q m r.2 Cf Sf pc ls st h := by
  obtain ⟨F, hK, hC, hret, hCc, hCs⟩ := id V
  obtain ⟨hx, hb, hml, hown, hts, hVC, hHC, hnm, hA, hZ, hRf, hRl⟩ := id F
  obtain ⟨hd, ha, hl⟩ := id hok
  have hs0 := hs
  unfold sm_s6 at hs
  split at hs
  · -- invokestatic
    rename_i idx
    split at hs
    · obtain ⟨as, t, rfl, hn, hall, hcat, hs1⟩ := sm_pN_e hs
      obtain ⟨v, h1, hc, hs2⟩ := sm_cR_e hs1
      obtain rfl : len = 3 := by simpa [sm_okA] using ha
      obtain ⟨⟨hxM, hdd, hcode, hini, hfr, hlo, hlink⟩, hmL, hst⟩ := hl
      obtain ⟨hle1, hM⟩ := hC x as h v h1 hxM (by omega) hall hc
      obtain ⟨hle2, hg⟩ := hK _ _ _ _ hs2
      intro H locs cells slots la hRel hS hL g1 g2
      obtain ⟨hf, g3, g4⟩ := sm_room (R := R) hle1 hle2 g1 g2 hCc hCs
      have hstk : ((as.reverse ++ t).map (sm_v Y)) = (as.map (sm_v Y)).reverse ++ t.map (sm_v Y) := by rw [List.map_append, List.map_reverse]
      have hroom : 2 * (F0 mid pc la ((as.reverse ++ t).map (sm_v Y))).monitorRoom + ((t.map (sm_v Y)).map fun v => v.category).sum ≤ 8 := lv_room (by rw [sm_cats hHC.2.2.2]; exact hcat)
      have hR2 : (sm_rm Z x h h1).frames + 1 ≤ R.frames ∧ 8 + (zmL Z x + 11) + (sm_rm Z x h h1).locals ≤ R.locals := by rw [hRf, hRl]; exact ⟨hfr, hlo⟩
      have hwsin := sm_wsin hcode
      have hpre : PreS s H (sm_Pc Z P X Y as h) (as.map (sm_v Y)) := ⟨sm_Pc.blind hZ, fun U hU hW => sm_PcU hZ hVC hHC hA hRel hS hU hW⟩
      rcases hlink with hlink | ⟨host, hlink⟩
      · exact sm_call (va_runS (As := as.map (sm_v Y)) (rest := t.map (sm_v Y)) ⟨hx, hb, hml, hown, hts⟩ hM (va_cwS y hts (sm_good hZ (fun w hw => by
          rcases List.mem_append.mp hw with h | h
          · simp only [List.mem_cons, List.not_mem_nil, or_false] at h
            rcases h with rfl | rfl | rfl
            · exact hlink
            · exact hst
            · exact hini
          · exact hwsin w h)) rfl rfl rfl hdd hR2) hpre rfl (by rw [List.length_map]; exact hn) hL.1 hstk hroom hd hf) hS (sm_kk hg hL g3 g4)
      · exact sm_call (va_runSN (As := as.map (sm_v Y)) (rest := t.map (sm_v Y)) ⟨hx, hb, hml, hown, hts⟩ hM ⟨va_cnB y hts (sm_good hZ hwsin) rfl rfl rfl (hVC.2.1 _ hlink) (hts _ hini) hdd hR2, hts _ hst, trivial⟩ hpre rfl (by rw [List.length_map]; exact hn) hL.1 hstk hroom hd hf) hS (sm_kk hg hL g3 g4)
    · obtain ⟨b, t1, rfl, hs1⟩ := sm_pI_e hs
      obtain ⟨a, t, rfl, hs2⟩ := sm_pI_e hs1
      obtain ⟨hcat, hs3⟩ := sm_bif_e hs2
      obtain rfl : len = 3 := by simpa [sm_okA] using ha
      obtain ⟨q1, q2, q3, q4, q5, q6⟩ := hl
      obtain ⟨hle2, hg⟩ := hK _ _ _ _ hs3
      intro H locs cells slots la hRel hS hL g1 g2
      have hc : cells ≤ R.cells ∧ slots ≤ R.slots := by
        obtain ⟨b1, b2⟩ := hle2
        omega
      refine va_mmax hx hb (hml.trans hL.1.symm) hown (hts _ q1) (hts _ q2) (hts _ q3) (hts _ q4) (by rw [hRf]; exact q5) ?_ hc.1 hc.2 (rest := t.map (sm_v Y)) hd (hg H locs cells slots la hRel hS hL g1 g2)
      have h8 : (t.map (fun v => v.category)).sum ≤ 8 := Nat.le_of_ble_eq_true hcat
      rw [sm_cats hHC.2.2.2, hRl]
      omega
    · rename_i hz0 hz1
      obtain ⟨b, t1, rfl, hs1⟩ := sm_pI_e hs
      obtain ⟨a, t, rfl, hs2⟩ := sm_pI_e hs1
      obtain ⟨hcat, hs3⟩ := sm_bif_e hs2
      obtain rfl : len = 3 := by simpa [sm_okA] using ha
      obtain ⟨q1, q2, q3, q4, q5, q6⟩ := (sm_okS2 hz0 hz1 hl)
      obtain ⟨hle2, hg⟩ := hK _ _ _ _ hs3
      intro H locs cells slots la hRel hS hL g1 g2
      have hc : cells ≤ R.cells ∧ slots ≤ R.slots := by
        obtain ⟨b1, b2⟩ := hle2
        omega
      refine va_mmin hx hb (hml.trans hL.1.symm) hown (hts _ q1) (hts _ q2) (hts _ q3) (hts _ q4) (by rw [hRf]; exact q5) ?_ hc.1 hc.2 (rest := t.map (sm_v Y)) hd (hg H locs cells slots la hRel hS hL g1 g2)
      have h8 : (t.map (fun v => v.category)).sum ≤ 8 := Nat.le_of_ble_eq_true hcat
      rw [sm_cats hHC.2.2.2, hRl]
      omega
  · -- invokevirtual
    rename_i idx
    split at hs
    · -- on a tag
      obtain ⟨as, t0, rfl, hn, hall, hcat, hs1⟩ := sm_pN_e hs
      obtain ⟨tg, t, rfl, hs3⟩ := sm_pT_e hs1
      obtain ⟨hlt, hs4⟩ := sm_bif_e hs3
      obtain ⟨v, h1, hc, hs2⟩ := sm_cR_e hs4
      obtain rfl : len = 3 := by simpa [sm_okA] using ha
      obtain ⟨hM, hmL, hin, hsel, hcls⟩ := hl
      obtain ⟨a0, b0, q1, q2, q3, -⟩ := hHC.2.1 tg (by unfold Nat.blt at hlt; exact Nat.le_of_ble_eq_true hlt)
      intro H locs cells slots la hRel hS hL g1 g2
      refine sm_gV V (rv := .retAddr tg) (b := a0) (show sm_v Y (.retAddr tg) = .ref a0 from q1) rfl hd hM hmL hin hsel hn hall (by rw [List.map_cons, List.sum_cons] at hcat; omega) hc hs2 ?_ hRel hS hL g1 g2
      rw [show (znm Z x).cls = "java/lang/String" from hcls]
      exact va_Orecv q3 hS
    · -- on an object
      rename_i z'
      obtain ⟨as, t0, rfl, hn, hall, hcat, hs1⟩ := sm_pN_e hs
      obtain ⟨a, t, rfl, hs3⟩ := sm_pR_e hs1
      obtain ⟨fs, hh, hs4⟩ := sm_vc_e hs3
      obtain ⟨v, h1, hc, hs2⟩ := sm_cR_e hs4
      obtain rfl : len = 3 := by simpa [sm_okA] using ha
      obtain ⟨hM, hmL, hin, hsel, q, hq, hqc⟩ := hl
      intro H locs cells slots la hRel hS hL g1 g2
      refine sm_gV V (b := a) rfl rfl hd hM hmL hin hsel hn hall (by rw [List.map_cons, List.sum_cons] at hcat; omega) hc hs2 ?_ hRel hS hL g1 g2
      rw [← hqc]
      exact va_recv (tys := []) (ws := [(a, .inr (z', fs))]) (q0 := 0) (sm_K0 hVC) (sm_one (hRel.2 a _ hh).2) hq rfl
  · -- invokespecial
    rename_i idx
    split at hs
    · obtain ⟨a, t, rfl, hs1⟩ := sm_pR_e hs
      obtain ⟨hcat, hs2⟩ := sm_bif_e hs1
      obtain rfl : len = 3 := by simpa [sm_okA] using ha
      obtain ⟨q1, q2, q3, q4, q5⟩ := hl
      obtain ⟨-, hg⟩ := hK _ _ _ _ hs2
      intro H locs cells slots la hRel hS hL g1 g2
      refine W.objInit hx hb hown (hts _ q1) (hts _ q2) (hts _ q3) rfl (by rw [hml]; exact hL.1) (rest := t.map (sm_v Y)) rfl hd (by rw [hRf]; exact q4) ?_ (hg H locs cells slots la hRel hS hL g1 g2)
      have h8 : 2 * (F0 mid pc la ((.ref a :: t).map (sm_v Y))).monitorRoom + ((t.map (sm_v Y)).map fun v => v.category).sum ≤ 8 := lv_room (by rw [sm_cats hHC.2.2.2]; exact Nat.le_of_ble_eq_true hcat)
      rw [hRl]
      omega
    · obtain ⟨as, t0, rfl, hn, hall, hcat, hs1⟩ := sm_pN_e hs
      obtain ⟨a, t, rfl, hs3⟩ := sm_pR_e hs1
      obtain ⟨v, h1, hc, hs2⟩ := sm_cR_e hs3
      obtain rfl : len = 3 := by simpa [sm_okA] using ha
      obtain ⟨⟨hxM, hdd, hcode, hini, hfr, hlo, hlink⟩, hmL, hin, hname, hrt⟩ := hl
      obtain ⟨hle1, hM⟩ := hC x (.ref a :: as) h v h1 hxM (by rw [List.length_cons]; omega) (by rw [List.all_cons, hall]; rfl) hc
      obtain ⟨hle2, hg⟩ := hK _ _ _ _ hs2
      intro H locs cells slots la hRel hS hL g1 g2
      obtain ⟨hf, g3, g4⟩ := sm_room (R := R) hle1 hle2 g1 g2 hCc hCs
      have hcat2 : (t.map (fun v => v.category)).sum ≤ 8 := by rw [List.map_cons, List.sum_cons] at hcat; omega
      have hstk : ((as.reverse ++ .ref a :: t).map (sm_v Y)) = (as.map (sm_v Y)).reverse ++ .ref a :: t.map (sm_v Y) := by rw [List.map_append, List.map_reverse, List.map_cons]; rfl
      have hroom : 2 * (F0 mid pc la ((as.reverse ++ .ref a :: t).map (sm_v Y))).monitorRoom + ((t.map (sm_v Y)).map fun v => v.category).sum ≤ 8 := lv_room (by rw [sm_cats hHC.2.2.2]; exact hcat2)
      have hR2 : (sm_rm Z x h h1).frames + 1 ≤ R.frames ∧ 8 + (zmL Z x + 11) + (sm_rm Z x h h1).locals ≤ R.locals := by rw [hRf, hRl]; exact ⟨hfr, hlo⟩
      have hwsin := sm_wsin hcode
      have hpre : PreS s H (sm_Pc Z P X Y (.ref a :: as) h) (.ref a :: as.map (sm_v Y)) := ⟨sm_Pc.blind hZ, fun U hU hW => sm_PcU (as := .ref a :: as) hZ hVC hHC hA hRel hS hU hW⟩
      have hw : sm_ws Z x = Cond.code (znm Z x) (zby Z x) (zmL Z x) none :: zTB Z := by unfold sm_ws; rw [hrt]
      rcases hlink with hlink | ⟨host, hlink⟩
      · exact sm_call (va_runI (As := as.map (sm_v Y)) (rest := t.map (sm_v Y)) ⟨hx, hb, hml, hown, hts⟩ hM (cwI y hts (sm_good hZ hwsin) hw rfl rfl (hts _ hini) (hts _ hlink) (hts _ hin) hname hdd hR2) hpre rfl (by rw [List.length_map]; exact hn) hL.1 hstk hroom hd hf) hS (sm_kk hg hL g3 g4)
      · exact sm_call (va_runIN (As := as.map (sm_v Y)) (rest := t.map (sm_v Y)) ⟨hx, hb, hml, hown, hts⟩ hM ⟨va_cnB y hts (sm_good hZ hwsin) hw rfl rfl (hVC.2.1 _ hlink) (hts _ hini) hdd hR2, hname, hts _ hin⟩ hpre rfl (by rw [List.length_map]; exact hn) hL.1 hstk hroom hd hf) hS (sm_kk hg hL g3 g4)
  · -- getstatic
    rename_i idx
    obtain rfl : len = 3 := by simpa [sm_okA] using ha
    obtain ⟨C0, n0, d0, hlink, hst⟩ := hl
    split at hs
    · intro H locs cells slots la hRel hS hL g1 g2
      exact va_gets hx hb (hHC.1 _ hst) hS hown (hts _ hlink) (fun _ h9 => h9) hd ((hK _ _ _ _ hs).2 H locs cells slots la hRel hS hL g1 g2)
    · intro H locs cells slots la hRel hS hL g1 g2
      exact va_gets hx hb (hHC.1 _ hst) hS hown (hts _ hlink) (fun _ h9 => h9) hd ((hK _ _ _ _ hs).2 H locs cells slots la hRel hS hL g1 g2)
  · exact hret _ len x y z _ _ _ _ hok rfl hs0
  · exact hret _ len x y z _ _ _ _ hok rfl hs0
  · exact hret _ len x y z _ _ _ _ hok rfl hs0
  · exact hret _ len x y z _ _ _ _ hok rfl hs0
  · cases hs
end SM6
end
section
theorem vr_outer (c : ClassId) (N h0 : Nat) : ∀ i : Nat, Jvm.Free.Multi.outerC c N h0 i = arrV c N (fun j => va_rf (if j < i then some (h0 + 1 + j) else none))
  | 0 => by
    show ({ cls := c, slots := Array.replicate N .null, vm := .none } : Cell) = _
    rw [arrV_new]
    refine congrArg (arrV c N) (funext fun j => ?_)
    simp [va_rf]
  | i + 1 => by
    show (Jvm.Free.Multi.outerC c N h0 i).setSlot i (.ref (h0 + 1 + i)) = _
    rw [vr_outer c N h0 i, arrV_store]
    refine congrArg (arrV c N) (funext fun j => ?_)
    by_cases e : j = i
    · subst e
      simp [updV, va_rf]
    · by_cases h : j < i
      · simp [updV, e, h, Nat.lt_succ_of_lt h]
      · simp [updV, e, h, show ¬ j < i + 1 by omega]
section SMG
variable {Z : smZ} {P : smP} {X : smX} {Y : smY} {p : Program} {l : Launch} {e : Env} {R : Room} {s : State} {mid : MethodId} {args : Array Value} {below : List Frame} {meth : Method} {c : Code} {Q : State → Prop} {m : Nat} {r : Option Value × smH} {Cf Sf : Nat} {C : smCT} {K : smK}
theorem sm_new_S {H0 H H1 : Heap} {A : Nat → Prop} {locs : List Loc} {n : Nat} (hS : va_S A H0 H locs) (hn : n = H.size) (z : n ≤ H1.size) (oq : ∀ q : Nat, q < n → H1[q]? = H[q]?) : va_S A H0 H1 locs :=
  ⟨Nat.le_trans hS.1 (by omega), fun q h1 h2 => (oq q (by have := hS.1; omega)).trans (hS.2.1 q h1 h2), hS.2.2⟩
theorem sm_bytes {t : ArrayType} {N : Nat} (h : ¬ 1000000 < N) : N * componentBytes (newarray.typeOf t) ≤ 536870912 := by
  have h8 : componentBytes (newarray.typeOf t) ≤ 8 := by cases t <;> decide
  have := Nat.mul_le_mul_left N h8
  omega
set_option maxHeartbeats 4000000 in
theorem sm_g5 (V : sm_Gv Z P X Y p l e R s mid args below meth c Q m r Cf Sf C K) {i : Instr} {len x y z pc : Nat} {ls : smL} {st : List Value} {h : smH} (hok : sm_okI Z P m pc i len x y z) (hs : sm_s5 P C K i x y z pc ls st h = some r) : sm_G Z Y p l e R s mid args below meth c Q m r.2 Cf Sf pc ls st h := by
  obtain ⟨F, hK, hC, hret, hCc, hCs⟩ := id V
  obtain ⟨hx, hb, hml, hown, hts, hVC, hHC, hnm, hA, hZ, hRf, hRl⟩ := id F
  obtain ⟨hd, ha, hl⟩ := id hok
  unfold sm_s5 at hs
  split at hs
  · -- new
    obtain rfl : len = 3 := by simpa [sm_okA] using ha
    obtain ⟨q, hq, q1, q2, q3⟩ := hl
    obtain ⟨z1, ⟨ty, z2, z3⟩, z4, -⟩ := hZ.1 x q hq
    obtain ⟨hle, hg⟩ := hK _ _ _ _ hs
    have hle1 : sm_le h (sm_n h (.inr (x, P.2.2.1 x)) (P.2.2.1 x).length) := sm_le.n
    intro H locs cells slots la hRel hS hL g1 g2
    obtain ⟨hf, g3, g4⟩ := sm_room (R := R) hle1 hle g1 g2 hCc hCs
    have e1 : (sm_n h (.inr (x, P.2.2.1 x)) (P.2.2.1 x).length).2.1 - h.2.1 = 1 := by show h.2.1 + 1 - h.2.1 = 1; omega
    have e2 : (sm_n h (.inr (x, P.2.2.1 x)) (P.2.2.1 x).length).2.2 - h.2.2 = q.2.2 := by show h.2.2 + (P.2.2.1 x).length - h.2.2 = _; rw [z4]; omega
    rw [e1, e2] at hf
    rw [e1] at g3
    rw [e2] at g4
    have hKn := hVC.1 x q hq
    refine W.newcK hx hb hown (hts _ q1) (hts _ q2) (hts _ q3) rfl hd hf.1 hf.2 hKn.2.1 hRel.1.symm fun H1 kC hkC e1 z1' o1 => ?_
    exact hg H1 locs _ _ la (hRel.n z1' o1 (hA _ (by rw [hRel.1]; exact hS.1)) ⟨q, hq, (u_born ty hts z1 hKn hkC e1 z2).to z3⟩) (sm_new_S hS hRel.1 (by omega) o1) hL g3 g4
  · -- newarray
    rename_i t
    obtain ⟨n, t0, rfl, hs1⟩ := sm_pI_e hs
    rcases sm_ite_e hs1 with ⟨-, hs2⟩ | ⟨hn, hs2⟩
    · cases hs2
    obtain ⟨hdf, hs3⟩ := sm_bif_e hs2
    obtain rfl : len = 2 := by simpa [sm_okA] using ha
    have hn1 : ¬ n < 0 := fun q => hn (Or.inl q)
    have hn2 : ¬ 1000000 < n.toNatClampNeg := fun q => hn (Or.inr q)
    obtain ⟨hle, hg⟩ := hK _ _ _ _ hs3
    generalize hce : (Sum.inl (newarray.typeOf t, n.toNatClampNeg, Sum.inl (fun _ => 0)) : smC) = ce at hs3 hle hg
    have hle1 : sm_le h (sm_n h ce n.toNatClampNeg) := sm_le.n
    intro H locs cells slots la hRel hS hL g1 g2
    obtain ⟨hf, g3, g4⟩ := sm_room (R := R) hle1 hle g1 g2 hCc hCs
    have e1 : (sm_n h ce n.toNatClampNeg).2.1 - h.2.1 = 1 := by show h.2.1 + 1 - h.2.1 = 1; omega
    have e2 : (sm_n h ce n.toNatClampNeg).2.2 - h.2.2 = n.toNatClampNeg := by show h.2.2 + n.toNatClampNeg - h.2.2 = _; omega
    rw [e1, e2] at hf
    rw [e1] at g3
    rw [e2] at g4
    refine va_newaK hx hb (hts _ hl) rfl hd rfl hn1 rfl (sm_bytes hn2) hf.1 hf.2 hRel.1.symm fun H1 cA e1 z1 o1 hAr hNm => ?_
    refine hg H1 locs _ _ la (hRel.n z1 o1 (hA _ (by rw [hRel.1]; exact hS.1)) ?_) (sm_new_S hS hRel.1 (by omega) o1) hL g3 g4
    rw [← hce]
    refine ⟨cA, ⟨hAr, by cases t <;> exact hNm⟩, ?_⟩
    rw [e1, vp_cell_i]
    cases t <;> first | rfl | cases hdf
  · -- anewarray
    rename_i idx
    obtain ⟨n, t0, rfl, hs1⟩ := sm_pI_e hs
    rcases sm_ite_e hs1 with ⟨-, hs3⟩ | ⟨hn, hs3⟩
    · cases hs3
    obtain rfl : len = 3 := by simpa [sm_okA] using ha
    obtain ⟨C0, q0, q1, q2⟩ := hl
    have hn1 : ¬ n < 0 := fun q => hn (Or.inl q)
    have hn2 : ¬ 1000000 < n.toNatClampNeg := fun q => hn (Or.inr q)
    obtain ⟨hle, hg⟩ := hK _ _ _ _ hs3
    rw [q0] at hg hle
    generalize hce : (Sum.inl (FieldType.object C0, n.toNatClampNeg, Sum.inr (Sum.inr (Sum.inr (Sum.inr (fun _ => none))))) : smC) = ce at hle hg
    have hle1 : sm_le h (sm_n h ce n.toNatClampNeg) := sm_le.n
    intro H locs cells slots la hRel hS hL g1 g2
    obtain ⟨hf, g3, g4⟩ := sm_room (R := R) hle1 hle g1 g2 hCc hCs
    have e1 : (sm_n h ce n.toNatClampNeg).2.1 - h.2.1 = 1 := by show h.2.1 + 1 - h.2.1 = 1; omega
    have e2 : (sm_n h ce n.toNatClampNeg).2.2 - h.2.2 = n.toNatClampNeg := by show h.2.2 + n.toNatClampNeg - h.2.2 = _; omega
    rw [e1, e2] at hf
    rw [e1] at g3
    rw [e2] at g4
    refine W.anew hx hb hown (hts _ q1) ((hZ.2.2 _ q2).2.2 args s (hVC.2.1 _ q2)) rfl hd rfl hn1 (by omega) hf.1 hf.2 fun cA kA comp f1 f2 f3 f4 => ?_
    generalize hH1 : H.push ({ cls := cA, slots := Array.replicate n.toNatClampNeg .null, vm := .none } : Cell) = H1
    have z1 : H1.size = h.2.1 + 1 := by rw [← hH1, Array.size_push, hRel.1]
    have e1 : H1[h.2.1]? = some (arrV cA n.toNatClampNeg (fun _ => .null)) := by rw [← hH1, hRel.1, Array.getElem?_push_size, ← arrV_new]
    have o1 : ∀ q : Nat, q < h.2.1 → H1[q]? = H[q]? := fun q hq => by rw [← hH1, Array.getElem?_push, if_neg (by rw [← hRel.1]; exact Nat.ne_of_lt hq)]
    have hfin := hg H1 locs _ _ la (hRel.n z1 o1 (hA _ (by rw [hRel.1]; exact hS.1)) (by
      rw [← hce]
      exact ⟨cA, ⟨fun N z => ⟨(fun k h => by cases h), kA, f2, comp, f3⟩, kA, comp, f2, f3, f4, f1⟩, e1⟩)) (sm_new_S hS hRel.1 (by omega) o1) hL g3 g4
    rw [List.map_cons, show sm_v Y (.ref h.2.1) = .ref H.size from by rw [← hRel.1]; rfl] at hfin
    exact hfin
  · -- multianewarray
    rename_i idx dd
    obtain ⟨k, t0, rfl, hs1⟩ := sm_pI_e hs
    obtain ⟨n, t1, rfl, hs2⟩ := sm_pI_e hs1
    rcases sm_ite_e hs2 with ⟨-, hs3⟩ | ⟨hn, hs3⟩
    · cases hs3
    have ha' : len = 4 ∧ dd = 2 := by simpa [sm_okA] using ha
    obtain ⟨rfl, rfl⟩ := ha'
    obtain ⟨q0, q1, q2⟩ := hl
    obtain ⟨hle, hg⟩ := hK _ _ _ _ hs3
    have hn1 : ¬ n < 0 := fun q => hn (Or.inl (Or.inl q))
    have hn2 : ¬ 1000000 < n.toNatClampNeg := fun q => hn (Or.inl (Or.inr q))
    have hk1 : ¬ k < 0 := fun q => hn (Or.inr (Or.inl q))
    have hk2 : ¬ 1000000 < k.toNatClampNeg := fun q => hn (Or.inr (Or.inr q))
    have hle1 : sm_le h (sm_mn h n.toNatClampNeg k.toNatClampNeg) := sm_le.mn
    intro H locs cells slots la hRel hS hL g1 g2
    obtain ⟨hf, g3, g4⟩ := sm_room (R := R) hle1 hle g1 g2 hCc hCs
    have e1 : (sm_mn h n.toNatClampNeg k.toNatClampNeg).2.1 - h.2.1 = 1 + n.toNatClampNeg := by show h.2.1 + 1 + n.toNatClampNeg - h.2.1 = _; omega
    have e2 : (sm_mn h n.toNatClampNeg k.toNatClampNeg).2.2 - h.2.2 = n.toNatClampNeg + n.toNatClampNeg * k.toNatClampNeg := by show h.2.2 + (n.toNatClampNeg + n.toNatClampNeg * k.toNatClampNeg) - h.2.2 = _; omega
    rw [e1, e2] at hf
    rw [e1] at g3
    rw [e2] at g4
    have hnm : "[" ++ (FieldType.array .int).toString = "[[I" := by decide
    intro T hT Xs
    obtain ⟨vm₁, cA, comp, -, fA, fC, hO, hI, X', step⟩ := Stand.multianewarray2F Xs hx hown (ty := .int) (by rw [hnm]; exact hts _ q0) ((hZ.2.2 _ q1).2.2 args s (hVC.2.1 _ q1)) (hts _ q2) (g := F0 mid pc la (.int k :: .int n :: t1.map (sm_v Y))) rfl (by rw [hb]; exact hd) rfl hn1 hk1 (by omega) (by show k.toNatClampNeg * 4 ≤ _; omega) (by omega) rfl rfl hf.1 hf.2
    generalize hF : Jvm.Free.Multi.fill (T.setVm vm₁) cA comp n.toNatClampNeg k.toNatClampNeg (defaultValue .int) n.toNatClampNeg = F1 at X' step
    have hTh : (T.setVm vm₁).heap = H := hT
    obtain ⟨f1, f2, -, -⟩ := Jvm.Free.Multi.fill_facts (T.setVm vm₁) cA comp n.toNatClampNeg k.toNatClampNeg (defaultValue .int) n.toNatClampNeg
    rw [hF, hTh] at f1 f2
    have hold : ∀ q : Nat, q < H.size → F1.heap[q]? = H[q]? := fun q hq => by
      have h9 := Jvm.Free.Multi.fill_old (T.setVm vm₁) cA comp n.toNatClampNeg k.toNatClampNeg (defaultValue .int) (a := q) (by rw [hTh]; exact hq) n.toNatClampNeg
      rw [hF, hTh] at h9
      exact h9
    have hrow : ∀ j : Nat, j < n.toNatClampNeg → F1.heap[H.size + 1 + j]? = some (vp_cell comp (k.toNatClampNeg, .inl (fun _ => 0))) := fun j hj => by
      have h9 := Jvm.Free.Multi.fill_inner (T.setVm vm₁) cA comp n.toNatClampNeg k.toNatClampNeg (defaultValue .int) n.toNatClampNeg j hj
      rw [hF, hTh] at h9
      rw [h9, vp_cell_i, ← arrV_new]
      rfl
    rw [vr_outer] at f2
    have hrel1 : sm_Rel Z Y s (sm_mn h n.toNatClampNeg k.toNatClampNeg) F1.heap := by
      refine ⟨by rw [f1, ← hRel.1]; rfl, fun b e' he => ?_⟩
      have he' : (if b = h.2.1 then some (Sum.inl (FieldType.array .int, n.toNatClampNeg, Sum.inr (Sum.inr (Sum.inr (Sum.inr (fun i => if i < n.toNatClampNeg then some (h.2.1 + 1 + i) else none)))))) else if h.2.1 < b ∧ b ≤ h.2.1 + n.toNatClampNeg then some (Sum.inl (FieldType.int, k.toNatClampNeg, Sum.inl (fun _ => 0))) else h.1 b : Option smC) = some e' := he
      by_cases hb1 : b = h.2.1
      · rw [if_pos hb1] at he'
        cases he'
        rw [hb1]
        refine ⟨hA _ (by rw [hRel.1]; exact hS.1), cA, ⟨fun N9 z9 => ?_, fA⟩, ?_⟩
        · obtain ⟨-, k9, hk9, cm9, hkk9⟩ := (hO 0 0 0).1
          exact ⟨(fun q hq => by cases hq), k9, hk9, cm9, hkk9⟩
        · show F1.heap[h.2.1]? = some (vp_cell cA (n.toNatClampNeg, _))
          rw [vp_cell_q, hRel.1]
          exact f2
      · rw [if_neg hb1] at he'
        by_cases hb2 : h.2.1 < b ∧ b ≤ h.2.1 + n.toNatClampNeg
        · rw [if_pos hb2] at he'
          cases he'
          refine ⟨hA _ (by have := hS.1; have := hRel.1; omega), comp, ⟨fun N9 z9 => ?_, fC⟩, ?_⟩
          · obtain ⟨-, k9, hk9, cm9, hkk9⟩ := (hI 0 (.int 0)).1
            exact ⟨(fun q hq => by cases hq), k9, hk9, cm9, hkk9⟩
          · have h9 := hrow (b - h.2.1 - 1) (by omega)
            rw [← hRel.1, show h.2.1 + 1 + (b - h.2.1 - 1) = b by omega] at h9
            exact h9
        · rw [if_neg hb2] at he'
          have h2 := hRel.2 b e' he'
          exact ⟨h2.1, h2.2.kept (hold b h2.2.lt)⟩
    have hS1 : va_S Y.2.1 s.heap F1.heap locs := sm_new_S hS rfl (by rw [f1]; omega) hold
    have hfin := hg F1.heap locs _ _ la hrel1 hS1 hL g3 g4 F1 rfl (by rw [Nat.add_assoc] at X'; rw [Nat.add_assoc] at X'; exact X')
    rw [List.map_cons, show sm_v Y (.ref h.2.1) = .ref H.size from by rw [← hRel.1]; rfl] at hfin
    obtain ⟨t, a1, b1⟩ := hfin
    refine ⟨t, step t ?_, b1⟩
    rw [show T.heap.size = H.size by rw [hT]]
    exact a1
  · -- ldc
    rename_i idx
    obtain rfl : len = 2 := by simpa [sm_okA] using ha
    split at hs
    · intro H locs cells slots la hRel hS hL g1 g2
      exact lv_ldc hx hb hown (hts _ hl) hd ((hK _ _ _ _ hs).2 H locs cells slots la hRel hS hL g1 g2)
    · obtain ⟨tx, hl⟩ := hl
      obtain ⟨a, h1, h2⟩ := hVC.2.2 _ hl
      intro H locs cells slots la hRel hS hL g1 g2
      have hfin := (hK _ _ _ _ hs).2 H locs cells slots la hRel hS hL g1 g2
      rw [List.map_cons, show sm_v Y (.retAddr x) = .ref a from h1] at hfin
      exact va_ldcS hx hb hown h2 hd hfin
  · -- ldc2_w
    obtain rfl : len = 3 := by simpa [sm_okA] using ha
    intro H locs cells slots la hRel hS hL g1 g2
    exact lv_ldc2 hx hb hown (hts _ hl) hd ((hK _ _ _ _ hs).2 H locs cells slots la hRel hS hL g1 g2)
  · obtain ⟨a, r1, rfl, hs1⟩ := sm_pI_e hs
    obtain rfl : len = 1 := by simpa [sm_okA] using ha
    intro H locs cells slots la hRel hS hL g1 g2
    exact lv_i2c hx hb hd rfl ((hK _ _ _ _ hs1).2 H locs cells slots la hRel hS hL g1 g2)
  · obtain ⟨a, r1, rfl, hs1⟩ := sm_pJ_e hs
    obtain rfl : len = 1 := by simpa [sm_okA] using ha
    intro H locs cells slots la hRel hS hL g1 g2
    exact lv_l2i hx hb hd rfl ((hK _ _ _ _ hs1).2 H locs cells slots la hRel hS hL g1 g2)
  · obtain rfl : len = 1 := by simpa [sm_okA] using ha
    intro H locs cells slots la hRel hS hL g1 g2
    exact lv_lconst hx hb hd rfl ((hK _ _ _ _ hs).2 H locs cells slots la hRel hS hL g1 g2)
  · obtain ⟨b, r1, rfl, hs1⟩ := sm_pJ_e hs
    obtain ⟨a, r2, rfl, hs2⟩ := sm_pJ_e hs1
    rcases sm_ite_e hs2 with ⟨-, hs3⟩ | ⟨hne, hs3⟩
    · cases hs3
    obtain rfl : len = 1 := by simpa [sm_okA] using ha
    intro H locs cells slots la hRel hS hL g1 g2
    exact lv_ldiv hx hb hd hne ((hK _ _ _ _ hs3).2 H locs cells slots la hRel hS hL g1 g2)
  · obtain ⟨b, r1, rfl, hs1⟩ := sm_pJ_e hs
    obtain ⟨a, r2, rfl, hs2⟩ := sm_pJ_e hs1
    rcases sm_ite_e hs2 with ⟨-, hs3⟩ | ⟨hne, hs3⟩
    · cases hs3
    obtain rfl : len = 1 := by simpa [sm_okA] using ha
    intro H locs cells slots la hRel hS hL g1 g2
    exact lv_lrem hx hb hd hne ((hK _ _ _ _ hs3).2 H locs cells slots la hRel hS hL g1 g2)
  · obtain ⟨b, r1, rfl, hs1⟩ := sm_pJ_e hs
    obtain ⟨a, r2, rfl, hs2⟩ := sm_pJ_e hs1
    obtain rfl : len = 1 := by simpa [sm_okA] using ha
    intro H locs cells slots la hRel hS hL g1 g2
    exact W.lcmp hx hb hd ((hK _ _ _ _ hs2).2 H locs cells slots la hRel hS hL g1 g2)
  · -- tableswitch
    rename_i d lo hi offs
    obtain ⟨a, r1, rfl, hs1⟩ := sm_pI_e hs
    have ha' : 0 ≤ (pc : Int) + d ∧ ∀ o ∈ offs.toList, 0 ≤ (pc : Int) + o := by
      unfold sm_okA at ha
      rw [Bool.and_eq_true, List.all_eq_true] at ha
      exact ⟨of_decide_eq_true ha.1, fun o ho => of_decide_eq_true (ha.2 o ho)⟩
    intro H locs cells slots la hRel hS hL g1 g2
    rcases sm_ite_e hs1 with ⟨hc, hs2⟩ | ⟨hc, hs2⟩
    · exact lv_tableOut hx hb hd hc (sm_tg_e ha'.1) ((hK _ _ _ _ hs2).2 H locs cells slots la hRel hS hL g1 g2)
    · obtain ⟨o, ho, hs3⟩ := sm_sw_e hs2
      exact lv_tableIn hx hb hd (fun q => hc (Or.inl q)) (fun q => hc (Or.inr q)) ho (sm_tg_e (ha'.2 o (Array.mem_toList_iff.mpr (Array.mem_of_getElem? ho)))) ((hK _ _ _ _ hs3).2 H locs cells slots la hRel hS hL g1 g2)
  · exact sm_g6 V hok hs
end SMG
end
section
section SMG
variable {Z : smZ} {P : smP} {X : smX} {Y : smY} {p : Program} {l : Launch} {e : Env} {R : Room} {s : State} {mid : MethodId} {args : Array Value} {below : List Frame} {meth : Method} {c : Code} {Q : State → Prop} {m : Nat} {r : Option Value × smH} {Cf Sf : Nat} {C : smCT} {K : smK}
set_option maxHeartbeats 4000000 in
theorem sm_g4 (V : sm_Gv Z P X Y p l e R s mid args below meth c Q m r Cf Sf C K) {i : Instr} {len x y z pc : Nat} {ls : smL} {st : List Value} {h : smH} (hok : sm_okI Z P m pc i len x y z) (hs : sm_s4 P C K i x y z pc ls st h = some r) : sm_G Z Y p l e R s mid args below meth c Q m r.2 Cf Sf pc ls st h := by
  obtain ⟨F, hK, hC, hret, hCc, hCs⟩ := id V
  obtain ⟨hx, hb, hml, hown, hts, hVC, hHC, hnm, hA, hZ, hRf, hRl⟩ := id F
  obtain ⟨hd, ha, hl⟩ := id hok
  unfold sm_s4 at hs
  split at hs
  · rename_i o
    have ha' : len = 3 ∧ 0 ≤ (pc : Int) + o := by simpa [sm_okA] using ha
    obtain ⟨rfl, ho⟩ := ha'
    intro H locs cells slots la hRel hS hL h1 h2
    exact lv_goto hx hb hd (sm_tg_e ho) ((hK _ _ _ _ hs).2 H locs cells slots la hRel hS hL h1 h2)
  · rename_i o
    have ha' : len = 3 ∧ 0 ≤ (pc : Int) + o := by simpa [sm_okA] using ha
    obtain ⟨rfl, ho⟩ := ha'
    obtain ⟨b, r1, rfl, hs1⟩ := sm_pI_e hs
    intro H locs cells slots la hRel hS hL h1 h2
    split at hs1
    · exact lv_if_eq hx hb hd (sm_tg_e ho) (fun hc => (hK _ _ _ _ ((if_pos hc).symm.trans hs1)).2 H locs cells slots la hRel hS hL h1 h2) (fun hc => (hK _ _ _ _ ((if_neg hc).symm.trans hs1)).2 H locs cells slots la hRel hS hL h1 h2)
    · exact lv_if_ne hx hb hd (sm_tg_e ho) (fun hc => (hK _ _ _ _ ((if_neg hc).symm.trans hs1)).2 H locs cells slots la hRel hS hL h1 h2) (fun hc => (hK _ _ _ _ ((if_pos hc).symm.trans hs1)).2 H locs cells slots la hRel hS hL h1 h2)
    · exact lv_if_lt hx hb hd (sm_tg_e ho) (fun hc => (hK _ _ _ _ ((if_pos hc).symm.trans hs1)).2 H locs cells slots la hRel hS hL h1 h2) (fun hc => (hK _ _ _ _ ((if_neg hc).symm.trans hs1)).2 H locs cells slots la hRel hS hL h1 h2)
    · exact lv_if_ge hx hb hd (sm_tg_e ho) (fun hc => (hK _ _ _ _ ((if_pos hc).symm.trans hs1)).2 H locs cells slots la hRel hS hL h1 h2) (fun hc => (hK _ _ _ _ ((if_neg hc).symm.trans hs1)).2 H locs cells slots la hRel hS hL h1 h2)
    · exact lv_if_gt hx hb hd (sm_tg_e ho) (fun hc => (hK _ _ _ _ ((if_pos hc).symm.trans hs1)).2 H locs cells slots la hRel hS hL h1 h2) (fun hc => (hK _ _ _ _ ((if_neg hc).symm.trans hs1)).2 H locs cells slots la hRel hS hL h1 h2)
    · exact lv_if_le hx hb hd (sm_tg_e ho) (fun hc => (hK _ _ _ _ ((if_pos hc).symm.trans hs1)).2 H locs cells slots la hRel hS hL h1 h2) (fun hc => (hK _ _ _ _ ((if_neg hc).symm.trans hs1)).2 H locs cells slots la hRel hS hL h1 h2)
  · rename_i o
    have ha' : len = 3 ∧ 0 ≤ (pc : Int) + o := by simpa [sm_okA] using ha
    obtain ⟨rfl, ho⟩ := ha'
    obtain ⟨b, r1, rfl, hs1⟩ := sm_pI_e hs
    obtain ⟨a, r2, rfl, hs2⟩ := sm_pI_e hs1
    intro H locs cells slots la hRel hS hL h1 h2
    split at hs2
    · exact lv_icmp_eq hx hb hd (sm_tg_e ho) (fun hc => (hK _ _ _ _ ((if_pos hc).symm.trans hs2)).2 H locs cells slots la hRel hS hL h1 h2) (fun hc => (hK _ _ _ _ ((if_neg hc).symm.trans hs2)).2 H locs cells slots la hRel hS hL h1 h2)
    · exact lv_icmp_ne hx hb hd (sm_tg_e ho) (fun hc => (hK _ _ _ _ ((if_neg hc).symm.trans hs2)).2 H locs cells slots la hRel hS hL h1 h2) (fun hc => (hK _ _ _ _ ((if_pos hc).symm.trans hs2)).2 H locs cells slots la hRel hS hL h1 h2)
    · exact lv_icmp_lt hx hb hd (sm_tg_e ho) (fun hc => (hK _ _ _ _ ((if_pos hc).symm.trans hs2)).2 H locs cells slots la hRel hS hL h1 h2) (fun hc => (hK _ _ _ _ ((if_neg hc).symm.trans hs2)).2 H locs cells slots la hRel hS hL h1 h2)
    · exact lv_icmp_ge hx hb hd (sm_tg_e ho) (fun hc => (hK _ _ _ _ ((if_pos hc).symm.trans hs2)).2 H locs cells slots la hRel hS hL h1 h2) (fun hc => (hK _ _ _ _ ((if_neg hc).symm.trans hs2)).2 H locs cells slots la hRel hS hL h1 h2)
    · exact lv_icmp_gt hx hb hd (sm_tg_e ho) (fun hc => (hK _ _ _ _ ((if_pos hc).symm.trans hs2)).2 H locs cells slots la hRel hS hL h1 h2) (fun hc => (hK _ _ _ _ ((if_neg hc).symm.trans hs2)).2 H locs cells slots la hRel hS hL h1 h2)
    · exact lv_icmp_le hx hb hd (sm_tg_e ho) (fun hc => (hK _ _ _ _ ((if_pos hc).symm.trans hs2)).2 H locs cells slots la hRel hS hL h1 h2) (fun hc => (hK _ _ _ _ ((if_neg hc).symm.trans hs2)).2 H locs cells slots la hRel hS hL h1 h2)
  · rename_i o
    have ha' : len = 3 ∧ 0 ≤ (pc : Int) + o := by simpa [sm_okA] using ha
    obtain ⟨rfl, ho⟩ := ha'
    intro H locs cells slots la hRel hS hL h1 h2
    split at hs
    · exact lv_ifnull hx hb hd ((hK _ _ _ _ hs).2 H locs cells slots la hRel hS hL h1 h2)
    · exact lv_ifnullN hx hb hd (sm_tg_e ho) ((hK _ _ _ _ hs).2 H locs cells slots la hRel hS hL h1 h2)
    · cases hs
  · rename_i o
    have ha' : len = 3 ∧ 0 ≤ (pc : Int) + o := by simpa [sm_okA] using ha
    obtain ⟨rfl, ho⟩ := ha'
    intro H locs cells slots la hRel hS hL h1 h2
    split at hs
    · exact lv_ifnonnull hx hb hd (sm_tg_e ho) ((hK _ _ _ _ hs).2 H locs cells slots la hRel hS hL h1 h2)
    · exact lv_ifnonnullN hx hb hd ((hK _ _ _ _ hs).2 H locs cells slots la hRel hS hL h1 h2)
    · cases hs
  · rename_i k n
    obtain ⟨v, hv, hs1⟩ := sm_gI_e hs
    have ha' : (len = 3 ∧ k < zmL Z m) ∧ Int32.ofInt n = sm_k x y := by simpa [sm_okA] using ha
    obtain ⟨⟨rfl, hk⟩, hn9⟩ := ha'
    intro H locs cells slots la hRel hS hL h1 h2
    obtain ⟨j, hj⟩ := List.getElem?_of_mem (List.mem_map.mpr ⟨(k, Value.int v), sm_lg_mem hv, rfl⟩ : (k, sm_v Y (.int v)) ∈ sm_ml Y ls)
    exact lv_iinc hx hb hd hL hj (by rw [hn9]) hk rfl (fun la hL => (hK _ _ _ _ hs1).2 H locs cells slots la hRel hS (sm_l1_has hHC.2.2.2 rfl hL) h1 h2)
  · exact sm_g5 V hok hs
end SMG
end
section
section SMG
variable {Z : smZ} {P : smP} {X : smX} {Y : smY} {p : Program} {l : Launch} {e : Env} {R : Room} {s : State} {mid : MethodId} {args : Array Value} {below : List Frame} {meth : Method} {c : Code} {Q : State → Prop} {m : Nat} {r : Option Value × smH} {Cf Sf : Nat} {C : smCT} {K : smK}
theorem sm_getL {q : vw_C} {idx y : Nat} {H : Heap} {locs : List Loc} {cells slots pc x a : Nat} {la : Array Slot} {rest : List Value} {v : Value} {fs : List Value} (F : sm_Fx Z P X Y p R s mid args meth c m) (hq : (zcl Z)[x]? = some q) (hy : y < q.2.2) (hlink : Cond.fieldLink (zow Z m) idx (q.2.1 y).1 (q.2.1 y).2.1 (q.2.1 y).2.2.1 ∈ zTB Z ∨ ∃ host, Cond.fieldLinkNest (zow Z m) idx (q.2.1 y).1 (q.2.1 y).2.1 (q.2.1 y).2.2.1 host ∈ zNW Z)
    (hcell : va_at Y.1 (zcl Z) (a, .inr (x, fs)) H) (hv : fs[y]? = some v) (hd : decode (zby Z m) pc = .ok (.getfield idx, 3)) (kk : W p l e R s mid args below meth c H locs cells slots Q (F0 mid (pc + 3) la (v :: rest))) : W p l e R s mid args below meth c H locs cells slots Q (F0 mid pc la (.ref a :: rest)) := by
  obtain ⟨hx, hb, hml, hown, hts, hVC, hHC, hnm, hA, hZ, hRf, hRl⟩ := id F
  obtain ⟨z1, -⟩ := hZ.1 x q hq
  rcases hlink with hlink | ⟨host, hlink⟩
  · exact va_get (D := Y.1) (C := q.1) (T := q.2.1) (N := q.2.2) (ci := x) hx hb hts z1 hown (sm_K0 hVC) (sm_one hcell) 0 rfl hq y hy (hts _ hlink) (fun _ h9 => h9) hv hd kk
  · exact va_getN (D := Y.1) (C := q.1) (T := q.2.1) (N := q.2.2) (ci := x) hx hb hts z1 hown (sm_K0 hVC) (sm_one hcell) 0 rfl hq y hy ((hZ.2.2 _ hlink).2.2 args s (hVC.2.1 _ hlink)) (fun _ h9 => h9) hv hd kk
/-- a field's store -/
theorem sm_putL {idx x y z : Nat} {H : Heap} {locs : List Loc} {cells slots pc a : Nat} {la : Array Slot} {rest : List Value} {v : Value} {fs : List Value} {h : smH} (F : sm_Fx Z P X Y p R s mid args meth c m) (hok : sm_okP Z P (zow Z m) (znm Z m).name idx x y z)
    (hv : ∀ ty, sm_pTy P x y z ty → narrow ty v = v ∧ fits ty v = true)
    (hRel : sm_Rel Z Y s h H) (hS : va_S Y.2.1 s.heap H locs) (hh : h.1 a = some (.inr (x, fs))) (hlen : y < fs.length) (hd : decode (zby Z m) pc = .ok (.putfield idx, 3))
    (kk : ∀ (H1 : Heap) (locs1 : List Loc), sm_Rel Z Y s (sm_w h a (.inr (x, fs.set y v))) H1 → va_S Y.2.1 s.heap H1 locs1 → W p l e R s mid args below meth c H1 locs1 cells slots Q (F0 mid (pc + 3) la rest)) : W p l e R s mid args below meth c H locs cells slots Q (F0 mid pc la (v :: .ref a :: rest)) := by
  obtain ⟨hx, hb, hml, hown, hts, hVC, hHC, hnm, hA, hZ, hRf, hRl⟩ := id F
  obtain ⟨q, hq, hy, ⟨ty, hty, htyz⟩, hlink⟩ := hok
  obtain ⟨hn, hfit⟩ := hv ty htyz
  obtain ⟨z1, ⟨ty0, z2, -⟩, -, z5, -⟩ := hZ.1 x q hq
  have hap := va_apart (own := zow Z m) (C := q.1) (T := q.2.1) (N := q.2.2) (ci := x) hts z1 ty0 z2 z5 (sm_K0 hVC) hq
  obtain ⟨ha, q', h1, cell, c1, c2, c3, c4⟩ := hRel.2 a _ hh
  obtain rfl : q' = q := Option.some.inj (h1.symm.trans hq)
  obtain ⟨hSl, hfc, kC, hkC, hkind⟩ := hVC.1 x _ hq
  obtain ⟨cf, kf, fi, f, hi, hsl⟩ := hSl y hy
  have hst := (u_facts hfc hkC (u_lays hts z1 hy) hi).1
  have fin : ∀ H1 : Heap, H1[a]? = some (cell.setSlot f.slot v) → H1.size = H.size → (∀ q : Nat, q ≠ a → H1[q]? = H[q]?) → W p l e R s mid args below meth c H1 (locs ++ [⟨a, f.slot⟩]) cells slots Q (F0 mid (pc + 3) la rest) := fun H1 e1 e2 e3 => by
    rw [hsl] at e1 ⊢
    exact kk H1 _ (hRel.w e2 e3 ha ⟨_, hq, t_OB.to (V := updV (vp_V fs) y v) ⟨_, e1, c2, c3, t_set c4 hap hy v⟩ (fun j _ => vp_updV_set hlen v j)⟩) (hS.put e2 e3 ha)
  rcases hlink with ⟨hf0, hlink⟩ | ⟨hf1, hnmI, hdecl, hlink⟩
  · have hlay := hts _ (z1 _ (u_in_lay hy))
    unfold u_lay at hlay
    rw [if_neg (by rw [hf0]; decide)] at hlay
    have h6 := u_store hfc hkC hkind hlay hi hty hn hfit
    rcases hlink with hlink | ⟨host, hlink⟩
    · exact W.putK hx hb (f := f) ⟨hown, hts _ hlink, ⟨_, _, _, hi⟩, hst⟩ (by rw [c2]; exact h6) c1 c3 (by rw [hsl]; exact k2_hasslot (c4 y hy)) rfl rfl hd fin
    · exact va_WputK hx hb (f := f) hown ((hZ.2.2 _ hlink).2.2 args s (hVC.2.1 _ hlink)) hi hst (by rw [c2]; exact h6) c1 c3 (by rw [hsl]; exact k2_hasslot (c4 y hy)) rfl rfl hd fin
  · have hcf : mid.cls = cf := by
      have hlay := hts _ (z1 _ (u_in_lay hy))
      unfold u_lay at hlay
      rw [if_pos hf1] at hlay
      obtain ⟨_, _, c', _, _, _, -, -, hf', -, -, -, hown2, -⟩ := Cond.laysFinal_spec hlay
      have e1 : cf = c' := congrArg (fun z => z.1) (Option.some.inj (hi.symm.trans hf'))
      rw [hdecl] at hown2
      rw [e1]
      exact Option.some.inj (hown.symm.trans hown2)
    exact W.putFinK hx hb hown (hts _ hlink) hi hst hcf (by rw [hnm]; exact hnmI) (by rw [c2]; exact u_fits hfc hkC hkind (u_lays hts z1 hy) hi hty hn hfit) c1 c3 (by rw [hsl]; exact k2_hasslot (c4 y hy)) rfl rfl hd fin
set_option maxHeartbeats 4000000 in
theorem sm_g3 (V : sm_Gv Z P X Y p l e R s mid args below meth c Q m r Cf Sf C K) {i : Instr} {len x y z pc : Nat} {ls : smL} {st : List Value} {h : smH} (hok : sm_okI Z P m pc i len x y z) (hs : sm_s3 P X C K i x y z pc ls st h = some r) : sm_G Z Y p l e R s mid args below meth c Q m r.2 Cf Sf pc ls st h := by
  obtain ⟨F, hK, hC, hret, hCc, hCs⟩ := id V
  obtain ⟨hx, hb, hml, hown, hts, hVC, hHC, hnm, hA, hZ, hRf, hRl⟩ := id F
  obtain ⟨hd, ha, hl⟩ := id hok
  unfold sm_s3 at hs
  split at hs
  · -- getfield
    rename_i idx
    obtain rfl : len = 3 := by simpa [sm_okA] using ha
    split at hs
    · obtain ⟨a, t, rfl, hs1⟩ := sm_pR_e hs
      obtain ⟨v, hv, hs2⟩ := sm_gI_e hs1
      obtain ⟨fs, hh, hf⟩ := sm_f_e hv
      obtain ⟨q, hq, hy, hlink⟩ := hl
      intro H locs cells slots la hRel hS hL g1 g2
      exact sm_getL F hq hy hlink (hRel.2 a _ hh).2 hf hd ((hK _ _ _ _ hs2).2 H locs cells slots la hRel hS hL g1 g2)
    · obtain ⟨a, t, rfl, hs1⟩ := sm_pR_e hs
      obtain ⟨v, hv, hs2⟩ := sm_gR_e hs1
      obtain ⟨fs, hh, hf⟩ := sm_f_e hv
      obtain ⟨q, hq, hy, hlink⟩ := hl
      intro H locs cells slots la hRel hS hL g1 g2
      exact sm_getL F hq hy hlink (hRel.2 a _ hh).2 hf hd ((hK _ _ _ _ hs2).2 H locs cells slots la hRel hS hL g1 g2)
    · obtain ⟨tg, t, rfl, hs1⟩ := sm_pT_e hs
      obtain ⟨hlt, hs2⟩ := sm_bif_e hs1
      obtain ⟨a0, b0, q1, q2, q3, q4, q5⟩ := hHC.2.1 tg (by unfold Nat.blt at hlt; exact Nat.le_of_ble_eq_true hlt)
      intro H locs cells slots la hRel hS hL g1 g2
      have hfin := (hK _ _ _ _ hs2).2 H locs cells slots la hRel hS hL g1 g2
      rw [List.map_cons, show sm_v Y (.retAddr (tg + 16)) = .ref b0 from q2] at hfin
      rw [List.map_cons, show sm_v Y (.retAddr tg) = .ref a0 from q1]
      exact vk_getf hx hb q5 hS hown (hts _ hl) (fun _ h9 => h9) hd hfin
    · rename_i hz0 hz1 hz2
      obtain ⟨tg, t, rfl, hs1⟩ := sm_pT_e hs
      obtain ⟨hlt, hs2⟩ := sm_bif_e hs1
      obtain ⟨a0, b0, q1, q2, q3, q4, q5⟩ := hHC.2.1 tg (by unfold Nat.blt at hlt; exact Nat.le_of_ble_eq_true hlt)
      intro H locs cells slots la hRel hS hL g1 g2
      have hfin := (hK _ _ _ _ hs2).2 H locs cells slots la hRel hS hL g1 g2
      rw [List.map_cons, show sm_v Y (.retAddr tg) = .ref a0 from q1]
      have hl' := sm_okF3 hz0 hz1 hz2 hl
      exact vk_getf hx hb q4 hS hown (hts _ hl') (fun _ h9 => h9) hd hfin
  · -- putfield
    rename_i idx
    obtain rfl : len = 3 := by simpa [sm_okA] using ha
    split at hs
    · obtain ⟨v, t1, rfl, hs1⟩ := sm_pI_e hs
      obtain ⟨a, t, rfl, hs2⟩ := sm_pR_e hs1
      obtain ⟨fs, hh, hlen, hs3⟩ := sm_fP_e hs2
      intro H locs cells slots la hRel hS hL g1 g2
      exact sm_putL (z := 0) F hl (fun ty h9 => by rw [show ty = .int from h9]; exact ⟨rfl, rfl⟩) hRel hS hh hlen hd (fun H1 locs1 hR1 hS1 => (hK _ _ _ _ hs3).2 H1 locs1 cells slots la hR1 hS1 hL g1 g2)
    · obtain ⟨v, t1, rfl, hs1⟩ := sm_pR_e hs
      obtain ⟨a, t, rfl, hs2⟩ := sm_pR_e hs1
      obtain ⟨fs, hh, hlen, hs3⟩ := sm_fP_e hs2
      intro H locs cells slots la hRel hS hL g1 g2
      exact sm_putL (z := 1) F hl (fun ty h9 => by rcases h9 with ⟨n, rfl⟩ | ⟨t, rfl⟩ <;> exact ⟨rfl, rfl⟩) hRel hS hh hlen hd (fun H1 locs1 hR1 hS1 => (hK _ _ _ _ hs3).2 H1 locs1 cells slots la hR1 hS1 hL g1 g2)
    · rename_i hz0 hz1
      obtain ⟨v, t1, rfl, hs1⟩ := sm_pI_e hs
      obtain ⟨a, t, rfl, hs2⟩ := sm_pR_e hs1
      rcases sm_ite_e hs2 with ⟨hc, hs4⟩ | ⟨-, hs4⟩
      · obtain ⟨fs, hh, hlen, hs3⟩ := sm_fP_e hs4
        intro H locs cells slots la hRel hS hL g1 g2
        exact sm_putL F hl (fun ty h9 => by rw [sm_pTy2 hz0 hz1 h9]; exact hc) hRel hS hh hlen hd (fun H1 locs1 hR1 hS1 => (hK _ _ _ _ hs3).2 H1 locs1 cells slots la hR1 hS1 hL g1 g2)
      · cases hs4
  · -- iaload
    obtain rfl : len = 1 := by simpa [sm_okA] using ha
    obtain ⟨i, t1, rfl, hs1⟩ := sm_pI_e hs
    obtain ⟨a, t, rfl, hs2⟩ := sm_pV_e hs1
    obtain ⟨n, f, hh, hin, hs3⟩ := sm_ld_e hs2
    intro H locs cells slots la hRel hS hL g1 g2
    have hfin := (hK _ _ _ _ hs3).2 H locs cells slots la hRel hS hL g1 g2
    rcases sm_ar_e hh with ⟨b, rfl, hh2⟩ | ⟨tg, rfl, hh2⟩
    · obtain ⟨-, cA, hcA, hcell⟩ := hRel.2 b _ hh2
      exact va_iald (D := Y.1) (cl := zcl Z) (tys := [(cA, .int)]) (ws := [(b, .inl (cA, n, .inl f))]) hx hb (sm_K1 hVC hcA) (sm_one hcell) 0 0 rfl rfl hin hd hfin
    · obtain ⟨b, q1, q2⟩ := hHC.2.2.1 tg _ _ _ hh2
      rw [List.map_cons, List.map_cons, show sm_v Y (.retAddr tg) = .ref b from q1]
      exact va_ti hx hb q2 hS hin rfl hd hfin
  · -- caload
    obtain rfl : len = 1 := by simpa [sm_okA] using ha
    obtain ⟨i, t1, rfl, hs1⟩ := sm_pI_e hs
    obtain ⟨a, t, rfl, hs2⟩ := sm_pV_e hs1
    obtain ⟨n, f, hh, hin, hs3⟩ := sm_ld_e hs2
    intro H locs cells slots la hRel hS hL g1 g2
    have hfin := (hK _ _ _ _ hs3).2 H locs cells slots la hRel hS hL g1 g2
    rcases sm_ar_e hh with ⟨b, rfl, hh2⟩ | ⟨tg, rfl, hh2⟩
    · obtain ⟨-, cA, hcA, hcell⟩ := hRel.2 b _ hh2
      exact va_cald (D := Y.1) (cl := zcl Z) (tys := [(cA, .char)]) (ws := [(b, .inl (cA, n, .inl f))]) hx hb (sm_K1 hVC hcA) (sm_one hcell) 0 0 rfl rfl hin hd hfin
    · obtain ⟨b, q1, q2⟩ := hHC.2.2.1 tg _ _ _ hh2
      rw [List.map_cons, List.map_cons, show sm_v Y (.retAddr tg) = .ref b from q1]
      exact va_tc hx hb q2 hS hin rfl hd hfin
  · -- baload
    obtain rfl : len = 1 := by simpa [sm_okA] using ha
    split at hs
    · obtain ⟨i, t1, rfl, hs1⟩ := sm_pI_e hs
      obtain ⟨a, t, rfl, hs2⟩ := sm_pV_e hs1
      obtain ⟨n, f, hh, hin, hs3⟩ := sm_ld_e hs2
      intro H locs cells slots la hRel hS hL g1 g2
      have hfin := (hK _ _ _ _ hs3).2 H locs cells slots la hRel hS hL g1 g2
      rcases sm_ar_e hh with ⟨b, rfl, hh2⟩ | ⟨tg, rfl, hh2⟩
      · obtain ⟨-, cA, hcA, hcell⟩ := hRel.2 b _ hh2
        exact va_zald (D := Y.1) (cl := zcl Z) (tys := [(cA, .boolean)]) (ws := [(b, .inl (cA, n, .inl f))]) hx hb (sm_K1 hVC hcA) (sm_one hcell) 0 0 rfl rfl hin hd hfin
      · obtain ⟨b, q1, q2⟩ := hHC.2.2.1 tg _ _ _ hh2
        rw [List.map_cons, List.map_cons, show sm_v Y (.retAddr tg) = .ref b from q1]
        exact va_tz hx hb q2 hS hin rfl hd hfin
    · obtain ⟨i, t1, rfl, hs1⟩ := sm_pI_e hs
      obtain ⟨a, t, rfl, hs2⟩ := sm_pV_e hs1
      obtain ⟨n, f, hh, hin, hs3⟩ := sm_ld_e hs2
      intro H locs cells slots la hRel hS hL g1 g2
      have hfin := (hK _ _ _ _ hs3).2 H locs cells slots la hRel hS hL g1 g2
      rcases sm_ar_e hh with ⟨b, rfl, hh2⟩ | ⟨tg, rfl, hh2⟩
      · obtain ⟨-, cA, hcA, hcell⟩ := hRel.2 b _ hh2
        exact va_bald (D := Y.1) (cl := zcl Z) (tys := [(cA, .byte)]) (ws := [(b, .inl (cA, n, .inl f))]) hx hb (sm_K1 hVC hcA) (sm_one hcell) 0 0 rfl rfl hin hd hfin
      · obtain ⟨b, q1, q2⟩ := hHC.2.2.1 tg _ _ _ hh2
        rw [List.map_cons, List.map_cons, show sm_v Y (.retAddr tg) = .ref b from q1]
        exact va_tb hx hb q2 hS hin rfl hd hfin
  · -- aaload
    obtain rfl : len = 1 := by simpa [sm_okA] using ha
    obtain ⟨i, t1, rfl, hs1⟩ := sm_pI_e hs
    obtain ⟨a, t, rfl, hs2⟩ := sm_pR_e hs1
    obtain ⟨ty, n, f, b, hh, hty, hin, hf, hs3⟩ := sm_ldR_e hs2
    intro H locs cells slots la hRel hS hL g1 g2
    have hfin := (hK _ _ _ _ hs3).2 H locs cells slots la hRel hS hL g1 g2
    obtain ⟨-, cA, hcA, hcell⟩ := hRel.2 a _ (sm_ar_ref hh)
    have hlt : i.toNatClampNeg < n := Nat.not_le.mp fun q => hin (Or.inr q)
    exact W.aald (v := .ref b) (ty := ty) hx hb hcell (hcA.1 n (fun j => va_rf (f j))) hty (fun q => by cases q) (by show ¬ (i < 0 ∨ (arrV _ _ _).slots.size ≤ _); rw [arrV_size]; exact hin) (by show (arrV _ _ _).slots[_]? = _; rw [arrV_read _ _ hlt, hf]; rfl) rfl rfl hd hfin
  · -- iastore
    obtain rfl : len = 1 := by simpa [sm_okA] using ha
    obtain ⟨v, t2, rfl, hs0⟩ := sm_pI_e hs
    obtain ⟨i, t1, rfl, hs1⟩ := sm_pI_e hs0
    obtain ⟨a, t, rfl, hs2⟩ := sm_pR_e hs1
    obtain ⟨n, f, hh, hin, hs3⟩ := sm_st_e hs2
    intro H locs cells slots la hRel hS hL g1 g2
    obtain ⟨hAa, cA, hcA, hcell⟩ := hRel.2 a _ hh
    refine W.iast hx hb hcell (hcA.1 n (fun j => .int (f j))) (fun q => by cases q) (by show ¬ (i < 0 ∨ (arrV _ _ _).slots.size ≤ _); rw [arrV_size]; exact hin) rfl rfl hd fun H1 e1 z1 o1 => ?_
    refine (hK _ _ _ _ hs3).2 H1 _ cells slots la (hRel.w z1 o1 hAa ⟨cA, hcA, ?_⟩) (hS.put z1 o1 hAa) hL g1 g2
    rw [e1]
    rw [vp_cell_i, vp_cell_i, arrV_store]
    congr 2
    funext q
    by_cases hq : q = i.toNatClampNeg
    · subst hq
      simp [updV, upd]
      try rfl
    · simp [updV, upd, hq]
  · -- castore
    obtain rfl : len = 1 := by simpa [sm_okA] using ha
    obtain ⟨v, t2, rfl, hs0⟩ := sm_pI_e hs
    obtain ⟨i, t1, rfl, hs1⟩ := sm_pI_e hs0
    obtain ⟨a, t, rfl, hs2⟩ := sm_pR_e hs1
    obtain ⟨n, f, hh, hin, hs3⟩ := sm_st_e hs2
    intro H locs cells slots la hRel hS hL g1 g2
    obtain ⟨hAa, cA, hcA, hcell⟩ := hRel.2 a _ hh
    refine W.cast hx hb hcell (hcA.1 n (fun j => .int (f j))) (fun q => by cases q) (by show ¬ (i < 0 ∨ (arrV _ _ _).slots.size ≤ _); rw [arrV_size]; exact hin) rfl rfl hd fun H1 e1 z1 o1 => ?_
    refine (hK _ _ _ _ hs3).2 H1 _ cells slots la (hRel.w z1 o1 hAa ⟨cA, hcA, ?_⟩) (hS.put z1 o1 hAa) hL g1 g2
    rw [e1]
    rw [vp_cell_i, vp_cell_i, arrV_store]
    congr 2
    funext q
    by_cases hq : q = i.toNatClampNeg
    · subst hq
      simp [updV, upd, vp_nar]
      try rfl
    · simp [updV, upd, hq]
  · -- bastore
    obtain rfl : len = 1 := by simpa [sm_okA] using ha
    obtain ⟨v, t2, rfl, hs0⟩ := sm_pI_e hs
    obtain ⟨i, t1, rfl, hs1⟩ := sm_pI_e hs0
    obtain ⟨a, t, rfl, hs2⟩ := sm_pR_e hs1
    obtain ⟨n, f, hh, hin, hs3⟩ := sm_st_e hs2
    intro H locs cells slots la hRel hS hL g1 g2
    obtain ⟨hAa, cA, hcA, hcell⟩ := hRel.2 a _ hh
    refine W.zast hx hb hcell (hcA.1 n (fun j => .int (f j))) (fun q => by cases q) (by show ¬ (i < 0 ∨ (arrV _ _ _).slots.size ≤ _); rw [arrV_size]; exact hin) rfl rfl hd fun H1 e1 z1 o1 => ?_
    refine (hK _ _ _ _ hs3).2 H1 _ cells slots la (hRel.w z1 o1 hAa ⟨cA, hcA, ?_⟩) (hS.put z1 o1 hAa) hL g1 g2
    rw [e1]
    rw [vp_cell_i, vp_cell_i, arrV_store]
    congr 2
    funext q
    by_cases hq : q = i.toNatClampNeg
    · subst hq
      simp [updV, upd, vp_nar]
      try rfl
    · simp [updV, upd, hq]
  · -- aastore
    obtain rfl : len = 1 := by simpa [sm_okA] using ha
    obtain ⟨v, t2, rfl, hs0⟩ := sm_pR_e hs
    obtain ⟨i, t1, rfl, hs1⟩ := sm_pI_e hs0
    obtain ⟨a, t, rfl, hs2⟩ := sm_pR_e hs1
    obtain ⟨ty, n, f, ci, vs, hh, hhv, hty, hin, hs3⟩ := sm_stR_e hs2
    intro H locs cells slots la hRel hS hL g1 g2
    obtain ⟨hAa, cA, hcA, hcell⟩ := hRel.2 a _ hh
    obtain ⟨hAv, q, hq, cellV, c1, c2, c3, -⟩ := hRel.2 v _ hhv
    have hlt : i.toNatClampNeg < n := Nat.not_le.mp fun q => hin (Or.inr q)
    have h0 : ¬ i < 0 := fun q => hin (Or.inl q)
    have hcls := (hVC.1 ci q hq).2
    obtain ⟨-, -, -, -, hro⟩ := hZ.1 ci q hq
    rw [hro] at hty
    subst hty
    obtain ⟨hAr, kA, comp, k1, k2, k3, k4⟩ := hcA
    have hcomp : comp = Y.1.1 ci := Option.some.inj (k3.symm.trans hcls.1)
    subst hcomp
    obtain ⟨kC, hkC, hkk⟩ := id hcls.2
    refine W.aast hx hb hcell (fun q h => by cases h) (fun h => by cases h) k1 k2 rfl hkC ⟨h0, by show _ < (arrV _ _ _).slots.size; rw [arrV_size]; exact hlt⟩ c1 (fun q h => by rw [c3] at h; cases h) (by rw [c2]; exact hkC) (by rw [c2]; exact va_assign hcls) rfl rfl hd fun H1 e1 z1 o1 => ?_
    refine (hK _ _ _ _ hs3).2 H1 _ cells slots la (hRel.w z1 o1 hAa ⟨cA, ⟨hAr, kA, _, k1, k2, k3, k4⟩, ?_⟩) (hS.put z1 o1 hAa) hL g1 g2
    rw [e1]
    rw [vp_cell_q, vp_cell_q, arrV_store]
    congr 2
    funext q
    by_cases hq : q = i.toNatClampNeg
    · subst hq
      simp [updV, va_up, va_rf]
    · simp [updV, va_up, hq]
  · -- arraylength
    obtain rfl : len = 1 := by simpa [sm_okA] using ha
    obtain ⟨a, t, rfl, hs1⟩ := sm_pV_e hs
    obtain ⟨ty, n, g0, hh, hs2⟩ := sm_al_e hs1
    intro H locs cells slots la hRel hS hL g1 g2
    have hfin := (hK _ _ _ _ hs2).2 H locs cells slots la hRel hS hL g1 g2
    rcases sm_ar_e hh with ⟨b, rfl, hh2⟩ | ⟨tg, rfl, hh2⟩
    · obtain ⟨-, cA, hcA, hcell⟩ := hRel.2 b _ hh2
      exact va_alen (D := Y.1) (cl := zcl Z) (tys := [(cA, ty)]) (ws := [(b, .inl (cA, n, g0))]) hx hb (sm_K1 hVC hcA) (sm_one hcell) 0 0 rfl (ty := ty) rfl rfl hd hfin
    · obtain ⟨ty', n', f', he⟩ := sm_oA_i hh2
      cases he
      obtain ⟨b, q1, q2⟩ := hHC.2.2.1 tg _ _ _ hh2
      rw [List.map_cons, show sm_v Y (.retAddr tg) = .ref b from q1]
      exact va_tlen hx hb q2 hS rfl hd hfin
  · exact sm_g4 V hok hs
end SMG
end
section
section SMG
variable {Z : smZ} {P : smP} {X : smX} {Y : smY} {p : Program} {l : Launch} {e : Env} {R : Room} {s : State} {mid : MethodId} {args : Array Value} {below : List Frame} {meth : Method} {c : Code} {Q : State → Prop} {m : Nat} {r : Option Value × smH} {Cf Sf : Nat} {C : smCT} {K : smK}
set_option maxHeartbeats 4000000 in
theorem sm_g2 (V : sm_Gv Z P X Y p l e R s mid args below meth c Q m r Cf Sf C K) {i : Instr} {len x y z pc : Nat} {ls : smL} {st : List Value} {h : smH} (hok : sm_okI Z P m pc i len x y z) (hs : sm_s2 P X C K i x y z pc ls st h = some r) : sm_G Z Y p l e R s mid args below meth c Q m r.2 Cf Sf pc ls st h := by
  obtain ⟨F, hK, hC, hret, hCc, hCs⟩ := id V
  obtain ⟨hx, hb, hml, hown, hts, hVC, hHC, hnm, hA, hZ, hRf, hRl⟩ := id F
  obtain ⟨hd, ha, hl⟩ := id hok
  unfold sm_s2 at hs
  split at hs
  · obtain ⟨b, r1, rfl, hs1⟩ := sm_pI_e hs
    obtain ⟨a, r2, rfl, hs2⟩ := sm_pI_e hs1
    obtain rfl : len = 1 := by simpa [sm_okA] using ha
    intro H locs cells slots la hRel hS hL h1 h2
    exact lv_iadd hx hb hd ((hK _ _ _ _ hs2).2 H locs cells slots la hRel hS hL h1 h2)
  · obtain ⟨b, r1, rfl, hs1⟩ := sm_pI_e hs
    obtain ⟨a, r2, rfl, hs2⟩ := sm_pI_e hs1
    obtain rfl : len = 1 := by simpa [sm_okA] using ha
    intro H locs cells slots la hRel hS hL h1 h2
    exact lv_isub hx hb hd ((hK _ _ _ _ hs2).2 H locs cells slots la hRel hS hL h1 h2)
  · obtain ⟨b, r1, rfl, hs1⟩ := sm_pI_e hs
    obtain ⟨a, r2, rfl, hs2⟩ := sm_pI_e hs1
    obtain rfl : len = 1 := by simpa [sm_okA] using ha
    intro H locs cells slots la hRel hS hL h1 h2
    exact lv_imul hx hb hd ((hK _ _ _ _ hs2).2 H locs cells slots la hRel hS hL h1 h2)
  · obtain ⟨b, r1, rfl, hs1⟩ := sm_pI_e hs
    obtain ⟨a, r2, rfl, hs2⟩ := sm_pI_e hs1
    obtain rfl : len = 1 := by simpa [sm_okA] using ha
    intro H locs cells slots la hRel hS hL h1 h2
    exact lv_iand hx hb hd ((hK _ _ _ _ hs2).2 H locs cells slots la hRel hS hL h1 h2)
  · obtain ⟨b, r1, rfl, hs1⟩ := sm_pI_e hs
    obtain ⟨a, r2, rfl, hs2⟩ := sm_pI_e hs1
    obtain rfl : len = 1 := by simpa [sm_okA] using ha
    intro H locs cells slots la hRel hS hL h1 h2
    exact lv_ishr hx hb hd ((hK _ _ _ _ hs2).2 H locs cells slots la hRel hS hL h1 h2)
  · obtain ⟨b, r1, rfl, hs1⟩ := sm_pI_e hs
    obtain ⟨a, r2, rfl, hs2⟩ := sm_pI_e hs1
    rcases sm_ite_e hs2 with ⟨-, hs3⟩ | ⟨hne, hs3⟩
    · cases hs3
    obtain rfl : len = 1 := by simpa [sm_okA] using ha
    intro H locs cells slots la hRel hS hL h1 h2
    exact lv_idiv hx hb hd hne ((hK _ _ _ _ hs3).2 H locs cells slots la hRel hS hL h1 h2)
  · obtain ⟨b, r1, rfl, hs1⟩ := sm_pI_e hs
    obtain ⟨a, r2, rfl, hs2⟩ := sm_pI_e hs1
    rcases sm_ite_e hs2 with ⟨-, hs3⟩ | ⟨hne, hs3⟩
    · cases hs3
    obtain rfl : len = 1 := by simpa [sm_okA] using ha
    intro H locs cells slots la hRel hS hL h1 h2
    exact lv_irem hx hb hd hne ((hK _ _ _ _ hs3).2 H locs cells slots la hRel hS hL h1 h2)
  · obtain ⟨a, r1, rfl, hs1⟩ := sm_pV_e hs
    obtain ⟨hc1, hs2⟩ := sm_bif_e hs1
    obtain rfl : len = 1 := by simpa [sm_okA] using ha
    intro H locs cells slots la hRel hS hL h1 h2
    exact lv_dup hx hb hd (sm_cat1_v hHC.2.2.2 hc1) ((hK _ _ _ _ hs2).2 H locs cells slots la hRel hS hL h1 h2)
  · obtain ⟨a, r1, rfl, hs1⟩ := sm_pV_e hs
    obtain ⟨hc1, hs2⟩ := sm_bif_e hs1
    obtain rfl : len = 1 := by simpa [sm_okA] using ha
    intro H locs cells slots la hRel hS hL h1 h2
    exact lv_pop hx hb hd (sm_cat1_v hHC.2.2.2 hc1) ((hK _ _ _ _ hs2).2 H locs cells slots la hRel hS hL h1 h2)
  · obtain ⟨a, r1, rfl, hs1⟩ := sm_pV_e hs
    obtain ⟨b, r2, rfl, hs2⟩ := sm_pV_e hs1
    obtain ⟨hc1, hs3⟩ := sm_bif_e hs2
    rw [Bool.and_eq_true] at hc1
    obtain rfl : len = 1 := by simpa [sm_okA] using ha
    intro H locs cells slots la hRel hS hL h1 h2
    exact lv_dup2_11 hx hb hd (sm_cat1_v hHC.2.2.2 hc1.1) (sm_cat1_v hHC.2.2.2 hc1.2) ((hK _ _ _ _ hs3).2 H locs cells slots la hRel hS hL h1 h2)
  · exact sm_g3 V hok hs
set_option maxHeartbeats 4000000 in
theorem sm_g1 (V : sm_Gv Z P X Y p l e R s mid args below meth c Q m r Cf Sf C K) {i : Instr} {len x y z pc : Nat} {ls : smL} {st : List Value} {h : smH} (hok : sm_okI Z P m pc i len x y z) (hs : sm_s1 P X C K i x y z pc ls st h = some r) : sm_G Z Y p l e R s mid args below meth c Q m r.2 Cf Sf pc ls st h := by
  obtain ⟨F, hK, hC, hret, hCc, hCs⟩ := id V
  obtain ⟨hx, hb, hml, hown, hts, hVC, hHC, hnm, hA, hZ, hRf, hRl⟩ := id F
  obtain ⟨hd, ha, hl⟩ := id hok
  unfold sm_s1 at hs
  split at hs
  · obtain ⟨v, hv, hs1⟩ := sm_gI_e hs
    obtain rfl : len = 1 := by simpa [sm_okA] using ha
    intro H locs cells slots la hRel hS hL h1 h2
    exact lv_iload_n hx hb hd rfl (sm_at_la hL hv) ((hK _ _ _ _ hs1).2 H locs cells slots la hRel hS hL h1 h2)
  · obtain ⟨v, hv, hs1⟩ := sm_gI_e hs
    obtain rfl : len = 2 := by simpa [sm_okA] using ha
    intro H locs cells slots la hRel hS hL h1 h2
    exact lv_iload hx hb hd (sm_at_la hL hv) ((hK _ _ _ _ hs1).2 H locs cells slots la hRel hS hL h1 h2)
  · obtain ⟨v, hv, hi, hs1⟩ := sm_gA_e hs
    obtain rfl : len = 1 := by simpa [sm_okA] using ha
    intro H locs cells slots la hRel hS hL h1 h2
    have hla := sm_at_la hL hv
    have hk := (hK _ _ _ _ hs1).2 H locs cells slots la hRel hS hL h1 h2
    change W p l e R s mid args below meth c H locs cells slots Q (F0 mid _ la (sm_v Y v :: _)) at hk
    rcases sm_isA_v hHC.2.2.2 hi with h0 | ⟨a, h0⟩
    · rw [h0] at hla hk
      exact lv_aload_nN hx hb hd rfl hla hk
    · rw [h0] at hla hk
      exact lv_aload_n hx hb hd rfl hla hk
  · obtain ⟨v, hv, hi, hs1⟩ := sm_gA_e hs
    obtain rfl : len = 2 := by simpa [sm_okA] using ha
    intro H locs cells slots la hRel hS hL h1 h2
    have hla := sm_at_la hL hv
    have hk := (hK _ _ _ _ hs1).2 H locs cells slots la hRel hS hL h1 h2
    change W p l e R s mid args below meth c H locs cells slots Q (F0 mid _ la (sm_v Y v :: _)) at hk
    rcases sm_isA_v hHC.2.2.2 hi with h0 | ⟨a, h0⟩
    · rw [h0] at hla hk
      exact lv_aloadN hx hb hd hla hk
    · rw [h0] at hla hk
      exact lv_aload hx hb hd hla hk
  · obtain ⟨v, hv, hs1⟩ := sm_gJ_e hs
    obtain rfl : len = 1 := by simpa [sm_okA] using ha
    intro H locs cells slots la hRel hS hL h1 h2
    exact lv_lload_n hx hb hd rfl (sm_at_la hL hv) ((hK _ _ _ _ hs1).2 H locs cells slots la hRel hS hL h1 h2)
  · rename_i k
    obtain ⟨v, r1, rfl, hs1⟩ := sm_pI_e hs
    have ha' : len = 1 ∧ k.val < zmL Z m := by simpa [sm_okA] using ha
    obtain ⟨rfl, hk⟩ := ha'
    intro H locs cells slots la hRel hS hL h1 h2
    exact lv_istore_n hx hb hd rfl hL hk rfl (fun la hL => (hK _ _ _ _ hs1).2 H locs cells slots la hRel hS (sm_l1_has hHC.2.2.2 rfl hL) h1 h2)
  · rename_i k
    obtain ⟨v, r1, rfl, hs1⟩ := sm_pI_e hs
    have ha' : len = 2 ∧ k < zmL Z m := by simpa [sm_okA] using ha
    obtain ⟨rfl, hk⟩ := ha'
    intro H locs cells slots la hRel hS hL h1 h2
    exact lv_istore hx hb hd hL hk rfl (fun la hL => (hK _ _ _ _ hs1).2 H locs cells slots la hRel hS (sm_l1_has hHC.2.2.2 rfl hL) h1 h2)
  · rename_i k
    obtain ⟨v, hv, hi, hs1⟩ := sm_gA_e hs
    have ha' : len = 1 ∧ k.val < zmL Z m := by simpa [sm_okA] using ha
    obtain ⟨rfl, hk⟩ := ha'
    cases st with
    | nil => cases hv
    | cons w r1 =>
      obtain rfl : w = v := Option.some.inj hv
      intro H locs cells slots la hRel hS hL h1 h2
      have hk2 := fun (la : Array Slot) (hL : lv_has la (zmL Z m) (sm_ml Y _)) => (hK _ _ _ _ hs1).2 H locs cells slots la hRel hS hL h1 h2
      show W p l e R s mid args below meth c H locs cells slots Q (F0 mid pc la (sm_v Y w :: r1.map (sm_v Y)))
      rcases sm_isA_v hHC.2.2.2 hi with h0 | ⟨a, h0⟩
      · rw [h0]
        exact lv_astore_nN hx hb hd rfl hL hk rfl (fun la hL => hk2 la (sm_l1_has hHC.2.2.2 h0 hL))
      · rw [h0]
        exact lv_astore_n hx hb hd rfl hL hk rfl (fun la hL => hk2 la (sm_l1_has hHC.2.2.2 h0 hL))
  · rename_i k
    obtain ⟨v, hv, hi, hs1⟩ := sm_gA_e hs
    have ha' : len = 2 ∧ k < zmL Z m := by simpa [sm_okA] using ha
    obtain ⟨rfl, hk⟩ := ha'
    cases st with
    | nil => cases hv
    | cons w r1 =>
      obtain rfl : w = v := Option.some.inj hv
      intro H locs cells slots la hRel hS hL h1 h2
      have hk2 := fun (la : Array Slot) (hL : lv_has la (zmL Z m) (sm_ml Y _)) => (hK _ _ _ _ hs1).2 H locs cells slots la hRel hS hL h1 h2
      show W p l e R s mid args below meth c H locs cells slots Q (F0 mid pc la (sm_v Y w :: r1.map (sm_v Y)))
      rcases sm_isA_v hHC.2.2.2 hi with h0 | ⟨a, h0⟩
      · rw [h0]
        exact lv_astoreN hx hb hd hL hk rfl (fun la hL => hk2 la (sm_l1_has hHC.2.2.2 h0 hL))
      · rw [h0]
        exact lv_astore hx hb hd hL hk rfl (fun la hL => hk2 la (sm_l1_has hHC.2.2.2 h0 hL))
  · rename_i k
    obtain ⟨v, r1, rfl, hs1⟩ := sm_pJ_e hs
    have ha' : len = 1 ∧ k.val + 1 < zmL Z m := by simpa [sm_okA] using ha
    obtain ⟨rfl, hk⟩ := ha'
    intro H locs cells slots la hRel hS hL h1 h2
    exact lv_lstore_n hx hb hd rfl hL hk rfl (fun la hL => (hK _ _ _ _ hs1).2 H locs cells slots la hRel hS (sm_l2_has hHC.2.2.2 rfl hL) h1 h2)
  · rename_i n
    have ha' : len = 1 ∧ Int32.ofInt n = sm_k x y := by simpa [sm_okA] using ha
    obtain ⟨rfl, hn9⟩ := ha'
    intro H locs cells slots la hRel hS hL h1 h2
    exact lv_iconst hx hb hd hn9 ((hK _ _ _ _ hs).2 H locs cells slots la hRel hS hL h1 h2)
  · rename_i n
    have ha' : len = 2 ∧ (Int8.ofInt n).toInt32 = sm_k x y := by simpa [sm_okA] using ha
    obtain ⟨rfl, hn9⟩ := ha'
    intro H locs cells slots la hRel hS hL h1 h2
    exact lv_bipush hx hb hd hn9 ((hK _ _ _ _ hs).2 H locs cells slots la hRel hS hL h1 h2)
  · rename_i n
    have ha' : len = 3 ∧ (Int16.ofInt n).toInt32 = sm_k x y := by simpa [sm_okA] using ha
    obtain ⟨rfl, hn9⟩ := ha'
    intro H locs cells slots la hRel hS hL h1 h2
    exact lv_sipush hx hb hd hn9 ((hK _ _ _ _ hs).2 H locs cells slots la hRel hS hL h1 h2)
  · obtain rfl : len = 1 := by simpa [sm_okA] using ha
    intro H locs cells slots la hRel hS hL h1 h2
    exact lv_null hx hb hd ((hK _ _ _ _ hs).2 H locs cells slots la hRel hS hL h1 h2)
  · exact sm_g2 V hok hs
end SMG
end
section
section SMM
variable {Z : smZ} {P : smP} {X : smX} {Y : smY} {l : Launch}
/-- what the tables must say of every instruction of every method -/
def sm_okZ (Z : smZ) (P : smP) : Prop := sm_okC Z P ∧ (∀ (m pc : Nat) (i : Instr) (len x y z : Nat), m < znM Z → sm_code P m pc = some (i, len, x, y, z) → sm_okI Z P m pc i len x y z) ∧ ∀ m, m < znM Z → plainName (znm Z m).cls = true ∧ zow Z m = (znm Z m).cls
theorem sm_tr_in {P : smP} {m pc : Nat} {ls : smL} {q : Nat × Value} (h : q ∈ sm_tr P m pc ls) : q ∈ ls := by
  unfold sm_tr at h; split at h
  · exact (List.mem_filter.mp h).1
  · exact h
theorem sm_G_tr {p : Program} {e : Env} {R : Room} {s : State} {mid : MethodId} {args : Array Value} {below : List Frame} {meth : Method} {c : Code} {Q : State → Prop} {m : Nat} {hf : smH} {Cf Sf pc : Nat} {ls : smL} {st : List Value} {h : smH} (g : sm_G Z Y p l e R s mid args below meth c Q m hf Cf Sf pc (sm_tr P m pc ls) st h) : sm_G Z Y p l e R s mid args below meth c Q m hf Cf Sf pc ls st h :=
  fun H locs cells slots la hRel hS hL g1 g2 => g H locs cells slots la hRel hS ⟨hL.1, hL.2.1, fun q hq => by
    obtain ⟨q0, h0, rfl⟩ := List.mem_map.mp hq
    exact hL.2.2 _ (List.mem_map.mpr ⟨q0, sm_tr_in h0, rfl⟩)⟩ g1 g2
theorem sm_walk {p : Program} {e : Env} {R : Room} {s : State} {mid : MethodId} {args : Array Value} {below : List Frame} {meth : Method} {c : Code} {Q : State → Prop} {m : Nat} {r : Option Value × smH} {Cf Sf : Nat} (hZ : sm_okZ Z P) (hm : m < znM Z) (F : sm_Fx Z P X Y p R s mid args meth c m) (hCS : Cf ≤ R.cells ∧ Sf ≤ R.slots) : ∀ (n : Nat), (∀ k, k < n → sm_CC Z P X Y l (fun m' as h => sm_X P X k m' 0 (lv_args 0 as) [] h)) →
    (∀ (C : smCT) (K : smK) (i : Instr) (len x y z pc : Nat) (ls : smL) (st : List Value) (h : smH), sm_okI Z P m pc i len x y z → sm_isR i = true → sm_s6 P C K i x y z pc ls st h = some r → sm_G Z Y p l e R s mid args below meth c Q m r.2 Cf Sf pc ls st h) →
    ∀ (pc : Nat) (ls : smL) (st : List Value) (h : smH), sm_X P X n m pc ls st h = some r → sm_G Z Y p l e R s mid args below meth c Q m r.2 Cf Sf pc ls st h
  | 0, _, _, _, _, _, _, hs => by cases hs
  | n + 1, hCC, hret, pc, ls, st, h, hs => by
    have hs' : sm_step P X (fun m' as h => sm_X P X n m' 0 (lv_args 0 as) [] h) (sm_X P X n m) m pc ls st h = some r := hs
    unfold sm_step at hs'
    split at hs'
    · rename_i i len x y z hcode
      exact sm_g1 ⟨F, fun pc' ls' st' h' hk => ⟨sm_X_grow P X n m pc' _ st' h' r hk, sm_G_tr (sm_walk hZ hm F hCS n (fun k hk => hCC k (Nat.lt_succ_of_lt hk)) hret pc' (sm_tr P m pc' ls') st' h' hk)⟩, hCC n (Nat.lt_succ_self n), hret _ _, hCS.1, hCS.2⟩ (hZ.2.1 m pc i len x y z hm hcode) hs'
    · cases hs'
theorem sm_lv_args (hY : ∀ t, Y.2.2 t = .null ∨ ∃ a, Y.2.2 t = .ref a) : ∀ (as : List Value) (i : Nat), sm_ml Y (lv_args i as) = lv_args i (as.map (sm_v Y))
  | [], _ => rfl
  | v :: vs, i => by
    show (i, sm_v Y v) :: sm_ml Y (lv_args _ vs) = (i, sm_v Y v) :: lv_args _ (vs.map (sm_v Y))
    rw [sm_lv_args hY vs, sm_v_cat hY v]
theorem sm_lgsl (hY : ∀ t, Y.2.2 t = .null ∨ ∃ a, Y.2.2 t = .ref a) : ∀ (as : List Value), as.all sm_cat1 = true → (lg_sl (as.map (sm_v Y))).length = as.length
  | [], _ => rfl
  | v :: vs, h => by
    rw [List.all_cons, Bool.and_eq_true] at h
    have h1 : (sm_v Y v).category = 1 := sm_cat1_v hY h.1
    have ih := sm_lgsl hY vs h.2
    unfold lg_sl at ih ⊢
    rw [List.map_cons, List.flatMap_cons, List.length_append, ih, h1]
    simp
    omega
/-- every method's contract, of every run of the small machine -/
theorem sm_met (hZ : sm_okZ Z P) : ∀ n, sm_CC Z P X Y l (fun m' as h => sm_X P X n m' 0 (lv_args 0 as) [] h) := by
  intro n
  induction n using Nat.strongRecOn with
  | ind n ih =>
    intro m as h v h' hm hlen hall hrun
    have hle := sm_X_grow P X n m 0 (lv_args 0 as) [] h (v, h') hrun
    refine ⟨hle, ?_⟩
    have hle1 : h.2.1 ≤ h'.2.1 := hle.1
    have hle2 : h.2.2 ≤ h'.2.2 := hle.2
    refine Met.ofW (cc := zby Z m) (maxL := zmL Z m) (ret := zrt Z m) (hZ.2.2 m hm).1 rfl ?_
    intro p e s mid args below meth c s₁ B hml hv
    obtain ⟨rfl, hVC, hHC, hRel, hA⟩ := hv
    have hts0 := atoms_spec (ws := sm_ws Z m) B.pre
    have hts : ∀ w ∈ zTB Z, w.before (as.map (sm_v Y)).toArray s = true := fun w hw => hts0 w (List.mem_cons_of_mem _ hw)
    have hown : s.vm.findClass (zow Z m) = some mid.cls := by rw [(hZ.2.2 m hm).2]; exact findClass_of_methodNamed B.named
    have hnm : meth.name = (znm Z m).name := (name_of_methodNamed B.named B.method).1
    have hlocks := B.notSynchronized
    have hx := B.exec
    have hb := B.bytes
    have hr := B.returns
    have F : sm_Fx Z P X Y p (headSpec (sm_ws Z m) (sm_rm Z m h h')).room s mid (as.map (sm_v Y)).toArray meth c m := ⟨hx, hb, hml, hown, hts, hVC, hHC, hnm, hA, hZ.1, rfl, rfl⟩
    have hl := lv_entry (as.map (sm_v Y)) (n := zmL Z m) (by rw [sm_lgsl hHC.2.2.2 as hall]; exact hlen)
    rw [lg_entry_eq]
    generalize (lg_sl (as.map (sm_v Y)) ++ List.replicate (zmL Z m - (lg_sl (as.map (sm_v Y))).length) Slot.unset).toArray = la at hl ⊢
    rw [← sm_lv_args hHC.2.2.2] at hl
    refine sm_walk (r := (v, h')) (Cf := h'.2.1 - h.2.1) (Sf := h'.2.2 - h.2.2) hZ hm F ⟨Nat.le_refl _, Nat.le_refl _⟩ n ih ?_ 0 (lv_args 0 as) [] h hrun s.heap [] 0 0 la hRel va_S.rf hl (by show 0 + h'.2.1 = _; omega) (by show 0 + h'.2.2 = _; omega)
    intro C K i len x y z pc ls st h1 hok hi hs H locs cells slots la1 hRel1 hS1 hL1 g1 g2
    obtain ⟨hd, ha, hlk⟩ := hok
    have hq : ∀ (w : Option Value), v = w → h1 = h' → ∀ t : State, t.heap = H → s.WarmedH t.vm → sm_Qc Z Y v h' (as.map (sm_v Y)).toArray s (.returned (w.map (sm_v Y))) t := by
      intro w hw hh t ht hW
      subst hw; subst hh
      exact ⟨⟨rfl, by rw [ht]; exact hRel1.moved hW.alike⟩, hS1.F ht⟩
    have hcs : ∀ hh : h1 = h', cells = h'.2.1 - h.2.1 ∧ slots = h'.2.2 - h.2.2 := by
      intro hh
      subst hh
      have g1' : cells + h1.2.1 = (h1.2.1 - h.2.1) + h1.2.1 := g1
      have g2' : slots + h1.2.2 = (h1.2.2 - h.2.2) + h1.2.2 := g2
      omega
    unfold sm_s6 at hs
    unfold sm_isR at hi
    split at hi
    · -- ireturn
      simp only at hs
      obtain rfl : len = 1 := by simpa [sm_okA] using ha
      obtain ⟨x0, t0, rfl, hs1⟩ := sm_pI_e hs
      split at hs1
      · split at hs1
        · cases hs1
          obtain ⟨rfl, rfl⟩ := hcs rfl
          exact W.iret (v := x0) hx hb (hr.trans hlk) (hq (some (.int x0)) rfl rfl) hS1.2.2 hd
        · rcases sm_ite_e hs1 with ⟨hn, hs2⟩ | ⟨-, hs2⟩
          · cases hs2
            obtain ⟨rfl, rfl⟩ := hcs rfl
            exact W.zret (v := x0) hx hb (hr.trans hlk) hn (hq (some (.int x0)) rfl rfl) hS1.2.2 hd
          · cases hs2
      · cases hs1
    · -- lreturn
      simp only at hs
      obtain rfl : len = 1 := by simpa [sm_okA] using ha
      obtain ⟨x0, t0, rfl, hs1⟩ := sm_pJ_e hs
      split at hs1
      · cases hs1
        obtain ⟨rfl, rfl⟩ := hcs rfl
        exact W.lret (v := x0) hx hb (hr.trans hlk) (hq (some (.long x0)) rfl rfl) hS1.2.2 hd
      · cases hs1
    · -- areturn
      simp only at hs
      obtain rfl : len = 1 := by simpa [sm_okA] using ha
      obtain ⟨rt, hrt, hrt2⟩ := hlk
      obtain ⟨v0, hv0, hiA, hs1⟩ := sm_gA_e hs
      split at hs1
      · rename_i w
        obtain rfl : w = v0 := Option.some.inj hv0
        cases hs1
        obtain ⟨rfl, rfl⟩ := hcs rfl
        exact W.aret (v := sm_v Y w) hx hb (hr.trans hrt) hrt2 (sm_isA_v hHC.2.2.2 hiA) (hq (some w) rfl rfl) hS1.2.2 hd
      · cases hs1
    · -- return
      simp only at hs
      obtain rfl : len = 1 := by simpa [sm_okA] using ha
      split at hs
      · cases hs
        obtain ⟨rfl, rfl⟩ := hcs rfl
        exact W.vret hx hb (hr.trans hlk) (hq none rfl rfl) hS1.2.2 hd
      · cases hs
    · cases hi
end SMM
end
section
/-! the tables' words (the skeleton's part A), then the program itself as data, printed by wip/whole/gen.py out of the claim's printed texts -/
/-- a private method of a class that the tables say can be made, by its rows of tables_1 -/
def lw_okq (q : MethodName × Nat) : Prop := (q.1.cls ≠ "java/lang/invoke/MethodHandle" ∧ q.1.cls ≠ "java/lang/invoke/VarHandle") ∧ Cond.instantiable q.1.cls q.2 ∈ tables_1 ∧ Cond.privateMethod q.1 ∈ tables_1 ∧ Cond.instanceMethod q.1 ∈ tables_1
theorem lw_p0 : lw_okq (⟨"WornSums$NumberWords", "write", "(I)V"⟩, 2) := ⟨⟨by decide +kernel, by decide +kernel⟩, List.mem_of_getElem? (i := 119) (by decide +kernel), List.mem_of_getElem? (i := 125) (by decide +kernel), List.mem_of_getElem? (i := 126) (by decide +kernel)⟩
theorem lw_p1 : lw_okq (⟨"WornSums$NumberWords", "addName", "(ILjava/lang/String;I)V"⟩, 2) := ⟨⟨by decide +kernel, by decide +kernel⟩, List.mem_of_getElem? (i := 119) (by decide +kernel), List.mem_of_getElem? (i := 130) (by decide +kernel), List.mem_of_getElem? (i := 131) (by decide +kernel)⟩
theorem lw_p2 : lw_okq (⟨"WornSums$NumberWords", "addSign", "(IC)V"⟩, 2) := ⟨⟨by decide +kernel, by decide +kernel⟩, List.mem_of_getElem? (i := 119) (by decide +kernel), List.mem_of_getElem? (i := 182) (by decide +kernel), List.mem_of_getElem? (i := 183) (by decide +kernel)⟩
theorem lw_p3 : lw_okq (⟨"WornSums$NumberWords", "writeTens", "(I)V"⟩, 2) := ⟨⟨by decide +kernel, by decide +kernel⟩, List.mem_of_getElem? (i := 119) (by decide +kernel), List.mem_of_getElem? (i := 190) (by decide +kernel), List.mem_of_getElem? (i := 191) (by decide +kernel)⟩
theorem lw_p4 : lw_okq (⟨"WornSums$NumberWords", "addNumber", "(II)V"⟩, 2) := ⟨⟨by decide +kernel, by decide +kernel⟩, List.mem_of_getElem? (i := 119) (by decide +kernel), List.mem_of_getElem? (i := 195) (by decide +kernel), List.mem_of_getElem? (i := 196) (by decide +kernel)⟩
theorem lw_p5 : lw_okq (⟨"WornSums$NumberWords", "writeHundreds", "(I)V"⟩, 2) := ⟨⟨by decide +kernel, by decide +kernel⟩, List.mem_of_getElem? (i := 119) (by decide +kernel), List.mem_of_getElem? (i := 207) (by decide +kernel), List.mem_of_getElem? (i := 208) (by decide +kernel)⟩
theorem lw_p6 : lw_okq (⟨"WornSums$NumberWords", "addAll", "(ILjava/lang/String;)V"⟩, 2) := ⟨⟨by decide +kernel, by decide +kernel⟩, List.mem_of_getElem? (i := 119) (by decide +kernel), List.mem_of_getElem? (i := 212) (by decide +kernel), List.mem_of_getElem? (i := 213) (by decide +kernel)⟩
theorem lw_p7 : lw_okq (⟨"WornSums$Text", "standsInWords", "(I)Z"⟩, 2) := ⟨⟨by decide +kernel, by decide +kernel⟩, List.mem_of_getElem? (i := 26) (by decide +kernel), List.mem_of_getElem? (i := 330) (by decide +kernel), List.mem_of_getElem? (i := 331) (by decide +kernel)⟩
theorem lw_p8 : lw_okq (⟨"WornSums", "startChange", "()V"⟩, 7) := ⟨⟨by decide +kernel, by decide +kernel⟩, List.mem_of_getElem? (i := 18) (by decide +kernel), List.mem_of_getElem? (i := 347) (by decide +kernel), List.mem_of_getElem? (i := 348) (by decide +kernel)⟩
theorem lw_p9 : lw_okq (⟨"WornSums", "agreeingOf", "(I)LWornSums$Agreeing;"⟩, 7) := ⟨⟨by decide +kernel, by decide +kernel⟩, List.mem_of_getElem? (i := 18) (by decide +kernel), List.mem_of_getElem? (i := 463) (by decide +kernel), List.mem_of_getElem? (i := 464) (by decide +kernel)⟩
theorem lw_p10 : lw_okq (⟨"WornSums$Agreeing", "add", "(II)V"⟩, 5) := ⟨⟨by decide +kernel, by decide +kernel⟩, List.mem_of_getElem? (i := 236) (by decide +kernel), List.mem_of_getElem? (i := 495) (by decide +kernel), List.mem_of_getElem? (i := 496) (by decide +kernel)⟩
theorem lw_p11 : lw_okq (⟨"WornSums$Agreeing", "rankOf", "(I)I"⟩, 5) := ⟨⟨by decide +kernel, by decide +kernel⟩, List.mem_of_getElem? (i := 236) (by decide +kernel), List.mem_of_getElem? (i := 522) (by decide +kernel), List.mem_of_getElem? (i := 523) (by decide +kernel)⟩
theorem lw_p12 : lw_okq (⟨"WornSums$Findings", "findLeastOfAnySum", "(I)V"⟩, 8) := ⟨⟨by decide +kernel, by decide +kernel⟩, List.mem_of_getElem? (i := 227) (by decide +kernel), List.mem_of_getElem? (i := 555) (by decide +kernel), List.mem_of_getElem? (i := 556) (by decide +kernel)⟩
theorem lw_p13 : lw_okq (⟨"WornSums$Findings", "findLeastOfTotal", "(II)V"⟩, 8) := ⟨⟨by decide +kernel, by decide +kernel⟩, List.mem_of_getElem? (i := 227) (by decide +kernel), List.mem_of_getElem? (i := 562) (by decide +kernel), List.mem_of_getElem? (i := 563) (by decide +kernel)⟩
theorem lw_p14 : lw_okq (⟨"WornSums$Findings", "fillLeastBySum", "(II)V"⟩, 8) := ⟨⟨by decide +kernel, by decide +kernel⟩, List.mem_of_getElem? (i := 227) (by decide +kernel), List.mem_of_getElem? (i := 566) (by decide +kernel), List.mem_of_getElem? (i := 567) (by decide +kernel)⟩
theorem lw_p15 : lw_okq (⟨"WornSums$Findings", "reachWithout", "(III)V"⟩, 8) := ⟨⟨by decide +kernel, by decide +kernel⟩, List.mem_of_getElem? (i := 227) (by decide +kernel), List.mem_of_getElem? (i := 600) (by decide +kernel), List.mem_of_getElem? (i := 601) (by decide +kernel)⟩
def lw_privs_1 : List (MethodName × Nat) := [(⟨"WornSums$NumberWords", "write", "(I)V"⟩, 2), (⟨"WornSums$NumberWords", "addName", "(ILjava/lang/String;I)V"⟩, 2), (⟨"WornSums$NumberWords", "addSign", "(IC)V"⟩, 2), (⟨"WornSums$NumberWords", "writeTens", "(I)V"⟩, 2), (⟨"WornSums$NumberWords", "addNumber", "(II)V"⟩, 2), (⟨"WornSums$NumberWords", "writeHundreds", "(I)V"⟩, 2), (⟨"WornSums$NumberWords", "addAll", "(ILjava/lang/String;)V"⟩, 2), (⟨"WornSums$Text", "standsInWords", "(I)Z"⟩, 2), (⟨"WornSums", "startChange", "()V"⟩, 7), (⟨"WornSums", "agreeingOf", "(I)LWornSums$Agreeing;"⟩, 7), (⟨"WornSums$Agreeing", "add", "(II)V"⟩, 5), (⟨"WornSums$Agreeing", "rankOf", "(I)I"⟩, 5), (⟨"WornSums$Findings", "findLeastOfAnySum", "(I)V"⟩, 8), (⟨"WornSums$Findings", "findLeastOfTotal", "(II)V"⟩, 8), (⟨"WornSums$Findings", "fillLeastBySum", "(II)V"⟩, 8), (⟨"WornSums$Findings", "reachWithout", "(III)V"⟩, 8)]
theorem lw_r1 : ∀ q ∈ lw_privs_1, lw_okq q := List.forall_mem_cons.mpr ⟨lw_p0, List.forall_mem_cons.mpr ⟨lw_p1, List.forall_mem_cons.mpr ⟨lw_p2, List.forall_mem_cons.mpr ⟨lw_p3, List.forall_mem_cons.mpr ⟨lw_p4, List.forall_mem_cons.mpr ⟨lw_p5, List.forall_mem_cons.mpr ⟨lw_p6, List.forall_mem_cons.mpr ⟨lw_p7, List.forall_mem_cons.mpr ⟨lw_p8, List.forall_mem_cons.mpr ⟨lw_p9, List.forall_mem_cons.mpr ⟨lw_p10, List.forall_mem_cons.mpr ⟨lw_p11, List.forall_mem_cons.mpr ⟨lw_p12, List.forall_mem_cons.mpr ⟨lw_p13, List.forall_mem_cons.mpr ⟨lw_p14, List.forall_mem_cons.mpr ⟨lw_p15, fun _ h => absurd h List.not_mem_nil⟩⟩⟩⟩⟩⟩⟩⟩⟩⟩⟩⟩⟩⟩⟩⟩
theorem lw_p16 : lw_okq (⟨"WornSums$Findings", "reachOn", "(LWornSums$Agreeing;I)V"⟩, 8) := ⟨⟨by decide +kernel, by decide +kernel⟩, List.mem_of_getElem? (i := 227) (by decide +kernel), List.mem_of_getElem? (i := 607) (by decide +kernel), List.mem_of_getElem? (i := 608) (by decide +kernel)⟩
theorem lw_p17 : lw_okq (⟨"WornSums$Findings", "isReachedBy", "(LWornSums$Agreeing;I)Z"⟩, 8) := ⟨⟨by decide +kernel, by decide +kernel⟩, List.mem_of_getElem? (i := 227) (by decide +kernel), List.mem_of_getElem? (i := 611) (by decide +kernel), List.mem_of_getElem? (i := 612) (by decide +kernel)⟩
theorem lw_p18 : lw_okq (⟨"WornSums$Findings", "isReached", "(I)Z"⟩, 8) := ⟨⟨by decide +kernel, by decide +kernel⟩, List.mem_of_getElem? (i := 227) (by decide +kernel), List.mem_of_getElem? (i := 615) (by decide +kernel), List.mem_of_getElem? (i := 616) (by decide +kernel)⟩
theorem lw_p19 : lw_okq (⟨"WornSums$Findings", "mostOfOneLetter", "(LWornSums$Agreeing;ILWornSums$NumberWords;)I"⟩, 8) := ⟨⟨by decide +kernel, by decide +kernel⟩, List.mem_of_getElem? (i := 227) (by decide +kernel), List.mem_of_getElem? (i := 628) (by decide +kernel), List.mem_of_getElem? (i := 629) (by decide +kernel)⟩
theorem lw_p20 : lw_okq (⟨"WornSumsModel", "readText", "()I"⟩, 18) := ⟨⟨by decide +kernel, by decide +kernel⟩, List.mem_of_getElem? (i := 653) (by decide +kernel), List.mem_of_getElem? (i := 729) (by decide +kernel), List.mem_of_getElem? (i := 730) (by decide +kernel)⟩
theorem lw_p21 : lw_okq (⟨"WornSumsModel", "note", "()V"⟩, 18) := ⟨⟨by decide +kernel, by decide +kernel⟩, List.mem_of_getElem? (i := 653) (by decide +kernel), List.mem_of_getElem? (i := 739) (by decide +kernel), List.mem_of_getElem? (i := 740) (by decide +kernel)⟩
theorem lw_p22 : lw_okq (⟨"WornSumsModel", "isEntry", "(I)Z"⟩, 18) := ⟨⟨by decide +kernel, by decide +kernel⟩, List.mem_of_getElem? (i := 653) (by decide +kernel), List.mem_of_getElem? (i := 750) (by decide +kernel), List.mem_of_getElem? (i := 751) (by decide +kernel)⟩
theorem lw_p23 : lw_okq (⟨"WornSumsModel", "isPlace", "(III)Z"⟩, 18) := ⟨⟨by decide +kernel, by decide +kernel⟩, List.mem_of_getElem? (i := 653) (by decide +kernel), List.mem_of_getElem? (i := 758) (by decide +kernel), List.mem_of_getElem? (i := 759) (by decide +kernel)⟩
theorem lw_p24 : lw_okq (⟨"WornSumsModel", "wornIn", "(I)I"⟩, 18) := ⟨⟨by decide +kernel, by decide +kernel⟩, List.mem_of_getElem? (i := 653) (by decide +kernel), List.mem_of_getElem? (i := 769) (by decide +kernel), List.mem_of_getElem? (i := 770) (by decide +kernel)⟩
theorem lw_p25 : lw_okq (⟨"WornSumsModel", "change", "(II)I"⟩, 18) := ⟨⟨by decide +kernel, by decide +kernel⟩, List.mem_of_getElem? (i := 653) (by decide +kernel), List.mem_of_getElem? (i := 777) (by decide +kernel), List.mem_of_getElem? (i := 778) (by decide +kernel)⟩
theorem lw_p26 : lw_okq (⟨"WornSumsModel", "manyBy", "(II)I"⟩, 18) := ⟨⟨by decide +kernel, by decide +kernel⟩, List.mem_of_getElem? (i := 653) (by decide +kernel), List.mem_of_getElem? (i := 793) (by decide +kernel), List.mem_of_getElem? (i := 794) (by decide +kernel)⟩
theorem lw_p27 : lw_okq (⟨"WornSumsModel", "doubtByWords", "(II)I"⟩, 18) := ⟨⟨by decide +kernel, by decide +kernel⟩, List.mem_of_getElem? (i := 653) (by decide +kernel), List.mem_of_getElem? (i := 797) (by decide +kernel), List.mem_of_getElem? (i := 798) (by decide +kernel)⟩
theorem lw_p28 : lw_okq (⟨"WornSumsModel", "spell", "(I)V"⟩, 18) := ⟨⟨by decide +kernel, by decide +kernel⟩, List.mem_of_getElem? (i := 653) (by decide +kernel), List.mem_of_getElem? (i := 801) (by decide +kernel), List.mem_of_getElem? (i := 802) (by decide +kernel)⟩
theorem lw_p29 : lw_okq (⟨"WornSumsModel", "say", "(I)V"⟩, 18) := ⟨⟨by decide +kernel, by decide +kernel⟩, List.mem_of_getElem? (i := 653) (by decide +kernel), List.mem_of_getElem? (i := 805) (by decide +kernel), List.mem_of_getElem? (i := 806) (by decide +kernel)⟩
theorem lw_p30 : lw_okq (⟨"WornSumsModel", "doubtByFigures", "(II)I"⟩, 18) := ⟨⟨by decide +kernel, by decide +kernel⟩, List.mem_of_getElem? (i := 653) (by decide +kernel), List.mem_of_getElem? (i := 843) (by decide +kernel), List.mem_of_getElem? (i := 844) (by decide +kernel)⟩
theorem lw_p31 : lw_okq (⟨"WornSumsModel", "findAgreeing", "(I)V"⟩, 18) := ⟨⟨by decide +kernel, by decide +kernel⟩, List.mem_of_getElem? (i := 653) (by decide +kernel), List.mem_of_getElem? (i := 850) (by decide +kernel), List.mem_of_getElem? (i := 851) (by decide +kernel)⟩
def lw_privs_2 : List (MethodName × Nat) := [(⟨"WornSums$Findings", "reachOn", "(LWornSums$Agreeing;I)V"⟩, 8), (⟨"WornSums$Findings", "isReachedBy", "(LWornSums$Agreeing;I)Z"⟩, 8), (⟨"WornSums$Findings", "isReached", "(I)Z"⟩, 8), (⟨"WornSums$Findings", "mostOfOneLetter", "(LWornSums$Agreeing;ILWornSums$NumberWords;)I"⟩, 8), (⟨"WornSumsModel", "readText", "()I"⟩, 18), (⟨"WornSumsModel", "note", "()V"⟩, 18), (⟨"WornSumsModel", "isEntry", "(I)Z"⟩, 18), (⟨"WornSumsModel", "isPlace", "(III)Z"⟩, 18), (⟨"WornSumsModel", "wornIn", "(I)I"⟩, 18), (⟨"WornSumsModel", "change", "(II)I"⟩, 18), (⟨"WornSumsModel", "manyBy", "(II)I"⟩, 18), (⟨"WornSumsModel", "doubtByWords", "(II)I"⟩, 18), (⟨"WornSumsModel", "spell", "(I)V"⟩, 18), (⟨"WornSumsModel", "say", "(I)V"⟩, 18), (⟨"WornSumsModel", "doubtByFigures", "(II)I"⟩, 18), (⟨"WornSumsModel", "findAgreeing", "(I)V"⟩, 18)]
theorem lw_r2 : ∀ q ∈ lw_privs_2, lw_okq q := List.forall_mem_cons.mpr ⟨lw_p16, List.forall_mem_cons.mpr ⟨lw_p17, List.forall_mem_cons.mpr ⟨lw_p18, List.forall_mem_cons.mpr ⟨lw_p19, List.forall_mem_cons.mpr ⟨lw_p20, List.forall_mem_cons.mpr ⟨lw_p21, List.forall_mem_cons.mpr ⟨lw_p22, List.forall_mem_cons.mpr ⟨lw_p23, List.forall_mem_cons.mpr ⟨lw_p24, List.forall_mem_cons.mpr ⟨lw_p25, List.forall_mem_cons.mpr ⟨lw_p26, List.forall_mem_cons.mpr ⟨lw_p27, List.forall_mem_cons.mpr ⟨lw_p28, List.forall_mem_cons.mpr ⟨lw_p29, List.forall_mem_cons.mpr ⟨lw_p30, List.forall_mem_cons.mpr ⟨lw_p31, fun _ h => absurd h List.not_mem_nil⟩⟩⟩⟩⟩⟩⟩⟩⟩⟩⟩⟩⟩⟩⟩⟩
theorem lw_p32 : lw_okq (⟨"WornSumsModel", "findLeast", "()I"⟩, 18) := ⟨⟨by decide +kernel, by decide +kernel⟩, List.mem_of_getElem? (i := 653) (by decide +kernel), List.mem_of_getElem? (i := 874) (by decide +kernel), List.mem_of_getElem? (i := 875) (by decide +kernel)⟩
theorem lw_p33 : lw_okq (⟨"WornSumsModel", "findAll", "()V"⟩, 18) := ⟨⟨by decide +kernel, by decide +kernel⟩, List.mem_of_getElem? (i := 653) (by decide +kernel), List.mem_of_getElem? (i := 878) (by decide +kernel), List.mem_of_getElem? (i := 879) (by decide +kernel)⟩
theorem lw_p34 : lw_okq (⟨"WornSumsModel", "findFree", "()I"⟩, 18) := ⟨⟨by decide +kernel, by decide +kernel⟩, List.mem_of_getElem? (i := 653) (by decide +kernel), List.mem_of_getElem? (i := 882) (by decide +kernel), List.mem_of_getElem? (i := 883) (by decide +kernel)⟩
theorem lw_p35 : lw_okq (⟨"WornSumsModel", "findSum", "()I"⟩, 18) := ⟨⟨by decide +kernel, by decide +kernel⟩, List.mem_of_getElem? (i := 653) (by decide +kernel), List.mem_of_getElem? (i := 887) (by decide +kernel), List.mem_of_getElem? (i := 888) (by decide +kernel)⟩
theorem lw_p36 : lw_okq (⟨"WornSumsModel", "layLeast", "(II)V"⟩, 18) := ⟨⟨by decide +kernel, by decide +kernel⟩, List.mem_of_getElem? (i := 653) (by decide +kernel), List.mem_of_getElem? (i := 891) (by decide +kernel), List.mem_of_getElem? (i := 892) (by decide +kernel)⟩
theorem lw_p37 : lw_okq (⟨"WornSumsModel", "leastAt", "(II)I"⟩, 18) := ⟨⟨by decide +kernel, by decide +kernel⟩, List.mem_of_getElem? (i := 653) (by decide +kernel), List.mem_of_getElem? (i := 895) (by decide +kernel), List.mem_of_getElem? (i := 896) (by decide +kernel)⟩
theorem lw_p38 : lw_okq (⟨"WornSumsModel", "isAltered", "()Z"⟩, 18) := ⟨⟨by decide +kernel, by decide +kernel⟩, List.mem_of_getElem? (i := 653) (by decide +kernel), List.mem_of_getElem? (i := 903) (by decide +kernel), List.mem_of_getElem? (i := 904) (by decide +kernel)⟩
theorem lw_p39 : lw_okq (⟨"WornSumsModel", "findOthers", "(I)V"⟩, 18) := ⟨⟨by decide +kernel, by decide +kernel⟩, List.mem_of_getElem? (i := 653) (by decide +kernel), List.mem_of_getElem? (i := 907) (by decide +kernel), List.mem_of_getElem? (i := 908) (by decide +kernel)⟩
theorem lw_p40 : lw_okq (⟨"WornSumsModel", "addOther", "(I)V"⟩, 18) := ⟨⟨by decide +kernel, by decide +kernel⟩, List.mem_of_getElem? (i := 653) (by decide +kernel), List.mem_of_getElem? (i := 911) (by decide +kernel), List.mem_of_getElem? (i := 912) (by decide +kernel)⟩
theorem lw_p41 : lw_okq (⟨"WornSumsModel", "mostAt", "(II)I"⟩, 18) := ⟨⟨by decide +kernel, by decide +kernel⟩, List.mem_of_getElem? (i := 653) (by decide +kernel), List.mem_of_getElem? (i := 919) (by decide +kernel), List.mem_of_getElem? (i := 920) (by decide +kernel)⟩
def lw_privs_3 : List (MethodName × Nat) := [(⟨"WornSumsModel", "findLeast", "()I"⟩, 18), (⟨"WornSumsModel", "findAll", "()V"⟩, 18), (⟨"WornSumsModel", "findFree", "()I"⟩, 18), (⟨"WornSumsModel", "findSum", "()I"⟩, 18), (⟨"WornSumsModel", "layLeast", "(II)V"⟩, 18), (⟨"WornSumsModel", "leastAt", "(II)I"⟩, 18), (⟨"WornSumsModel", "isAltered", "()Z"⟩, 18), (⟨"WornSumsModel", "findOthers", "(I)V"⟩, 18), (⟨"WornSumsModel", "addOther", "(I)V"⟩, 18), (⟨"WornSumsModel", "mostAt", "(II)I"⟩, 18)]
theorem lw_r3 : ∀ q ∈ lw_privs_3, lw_okq q := List.forall_mem_cons.mpr ⟨lw_p32, List.forall_mem_cons.mpr ⟨lw_p33, List.forall_mem_cons.mpr ⟨lw_p34, List.forall_mem_cons.mpr ⟨lw_p35, List.forall_mem_cons.mpr ⟨lw_p36, List.forall_mem_cons.mpr ⟨lw_p37, List.forall_mem_cons.mpr ⟨lw_p38, List.forall_mem_cons.mpr ⟨lw_p39, List.forall_mem_cons.mpr ⟨lw_p40, List.forall_mem_cons.mpr ⟨lw_p41, fun _ h => absurd h List.not_mem_nil⟩⟩⟩⟩⟩⟩⟩⟩⟩⟩
def lw_privs : List (MethodName × Nat) := lw_privs_1 ++ (lw_privs_2 ++ (lw_privs_3))
def lw_tbl : List Cond := k2_sels lw_privs ++ tables_1
theorem lw_privs_ok : ∀ q ∈ lw_privs, lw_okq q := by
  show ∀ q ∈ lw_privs_1 ++ (lw_privs_2 ++ (lw_privs_3)), lw_okq q
  exact List.forall_mem_append.mpr ⟨lw_r1, List.forall_mem_append.mpr ⟨lw_r2, lw_r3⟩⟩

def tbG : List Cond := lw_tbl.filter goodWord
theorem tb_mem {w : Cond} (h : w ∈ lw_tbl) (g : goodWord w = true) : w ∈ tbG := List.mem_filter.mpr ⟨h, g⟩
theorem tbs {w : Cond} (i : Nat) (h : (k2_sels lw_privs)[i]? = some w) (g : goodWord w = true) : w ∈ tbG := tb_mem (List.mem_append_left _ (List.mem_of_getElem? h)) g
theorem tb1 {w : Cond} (i : Nat) (h : tables_1_1[i]? = some w) (g : goodWord w = true) : w ∈ tbG := tb_mem (List.mem_append_right _ (show w ∈ tables_1 from List.mem_append_left _ (List.mem_of_getElem? h))) g
theorem tb2 {w : Cond} (i : Nat) (h : tables_1_2[i]? = some w) (g : goodWord w = true) : w ∈ tbG := tb_mem (List.mem_append_right _ (show w ∈ tables_1 from List.mem_append_right _ (List.mem_append_left _ (List.mem_of_getElem? h)))) g
theorem tb3 {w : Cond} (i : Nat) (h : tables_1_3[i]? = some w) (g : goodWord w = true) : w ∈ tbG := tb_mem (List.mem_append_right _ (show w ∈ tables_1 from List.mem_append_right _ (List.mem_append_right _ (List.mem_append_left _ (List.mem_of_getElem? h))))) g
theorem tb4 {w : Cond} (i : Nat) (h : tables_1_4[i]? = some w) (g : goodWord w = true) : w ∈ tbG := tb_mem (List.mem_append_right _ (show w ∈ tables_1 from List.mem_append_right _ (List.mem_append_right _ (List.mem_append_right _ (List.mem_of_getElem? h))))) g
def uT_0 : u_T := fun k => match k with
  | 0 => ("WornSums$Agreeing", "numbers", "[I", true)
  | 1 => ("WornSums$Agreeing", "doubts", "[I", true)
  | 2 => ("WornSums$Agreeing", "size", "I", false)
  | 3 => ("WornSums$Agreeing", "byWords", "I", false)
  | _ => ("WornSums$Agreeing", "byFigures", "I", false)
def uT_1 : u_T := fun k => match k with
  | 0 => ("WornSums$Findings", "agreeing", "[LWornSums$Agreeing;", true)
  | 1 => ("WornSums$Findings", "agreeingKnown", "Z", false)
  | 2 => ("WornSums$Findings", "leastBySum", "[[I", true)
  | 3 => ("WornSums$Findings", "leastNumbers", "[I", true)
  | 4 => ("WornSums$Findings", "leastDoubt", "I", false)
  | 5 => ("WornSums$Findings", "leastKnown", "Z", false)
  | 6 => ("WornSums$Findings", "reached", "[Z", true)
  | _ => ("WornSums$Findings", "letterCounts", "[I", true)
def uT_2 : u_T := fun k => match k with
  | 0 => ("WornSums$History", "sheets", "[LWornSums$Sheet;", true)
  | 1 => ("WornSums$History", "next", "I", false)
  | _ => ("WornSums$History", "size", "I", false)
def uT_3 : u_T := fun k => match k with
  | 0 => ("WornSums$NumberWords", "signs", "[C", true)
  | _ => ("WornSums$NumberWords", "lengths", "[I", true)
def uT_4 : u_T := fun k => match k with
  | 0 => ("WornSums$Row", "signs", "[C", true)
  | _ => ("WornSums$Row", "length", "I", false)
def uT_5 : u_T := fun k => match k with
  | 0 => ("WornSums$Sheet", "words", "[LWornSums$Row;", true)
  | 1 => ("WornSums$Sheet", "figures", "[LWornSums$Row;", true)
  | 2 => ("WornSums$Sheet", "size", "I", false)
  | 3 => ("WornSums$Sheet", "slack", "I", false)
  | _ => ("WornSums$Sheet", "total", "I", false)
def uT_6 : u_T := fun k => match k with
  | 0 => ("WornSums$Text", "letters", "[C", true)
  | _ => ("WornSums$Text", "length", "I", false)
def uT_7 : u_T := fun k => match k with
  | 0 => ("WornSums", "text", "LWornSums$Text;", true)
  | 1 => ("WornSums", "sheet", "LWornSums$Sheet;", true)
  | 2 => ("WornSums", "history", "LWornSums$History;", true)
  | 3 => ("WornSums", "images", "[LWornSums$Sheet;", true)
  | 4 => ("WornSums", "imageKept", "[Z", true)
  | 5 => ("WornSums", "numberWords", "LWornSums$NumberWords;", true)
  | _ => ("WornSums", "findings", "LWornSums$Findings;", true)
def uT_8 : u_T := fun k => match k with
  | 0 => ("WornSumsModel", "now", "[I", true)
  | 1 => ("WornSumsModel", "past", "[I", true)
  | 2 => ("WornSumsModel", "deeds", "I", false)
  | 3 => ("WornSumsModel", "images", "[I", true)
  | 4 => ("WornSumsModel", "isKept", "[Z", true)
  | 5 => ("WornSumsModel", "text", "[I", true)
  | 6 => ("WornSumsModel", "letters", "I", false)
  | 7 => ("WornSumsModel", "spelt", "[I", true)
  | 8 => ("WornSumsModel", "speltMany", "I", false)
  | 9 => ("WornSumsModel", "agreeing", "[I", true)
  | 10 => ("WornSumsModel", "doubts", "[I", true)
  | 11 => ("WornSumsModel", "agreeMany", "[I", true)
  | 12 => ("WornSumsModel", "early", "[I", true)
  | 13 => ("WornSumsModel", "late", "[I", true)
  | 14 => ("WornSumsModel", "chosen", "[I", true)
  | 15 => ("WornSumsModel", "comes", "[Z", true)
  | 16 => ("WornSumsModel", "comesThen", "[Z", true)
  | _ => ("WornSumsModel", "having", "[I", true)
def pp_cl : List vw_C := [("WornSums$Agreeing", uT_0, 5), ("WornSums$Findings", uT_1, 8), ("WornSums$History", uT_2, 3), ("WornSums$NumberWords", uT_3, 2), ("WornSums$Row", uT_4, 2), ("WornSums$Sheet", uT_5, 5), ("WornSums$Text", uT_6, 2), ("WornSums", uT_7, 7), ("WornSumsModel", uT_8, 18)]
def pp_ty : List (List FieldType) := [[.array .int, .array .int, .int, .int, .int], [.array (.object "WornSums$Agreeing"), .boolean, .array (.array .int), .array .int, .int, .boolean, .array .boolean, .array .int], [.array (.object "WornSums$Sheet"), .int, .int], [.array .char, .array .int], [.array .char, .int], [.array (.object "WornSums$Row"), .array (.object "WornSums$Row"), .int, .int, .int], [.array .char, .int], [.object "WornSums$Text", .object "WornSums$Sheet", .object "WornSums$History", .array (.object "WornSums$Sheet"), .array .boolean, .object "WornSums$NumberWords", .object "WornSums$Findings"], [.array .int, .array .int, .int, .array .int, .array .boolean, .array .int, .int, .array .int, .int, .array .int, .array .int, .array .int, .array .int, .array .int, .array .int, .array .boolean, .array .boolean, .array .int]]
def pp_df : List (List Value) := [[.null, .null, .int 0, .int 0, .int 0], [.null, .int 0, .null, .null, .int 0, .int 0, .null, .null], [.null, .int 0, .int 0], [.null, .null], [.null, .int 0], [.null, .null, .int 0, .int 0, .int 0], [.null, .int 0], [.null, .null, .null, .null, .null, .null, .null], [.null, .null, .int 0, .null, .null, .null, .int 0, .null, .int 0, .null, .null, .null, .null, .null, .null, .null, .null, .null]]
def pp_cn : List String := ["WornSums$Agreeing", "WornSums$Findings", "WornSums$History", "WornSums$NumberWords", "WornSums$Row", "WornSums$Sheet", "WornSums$Text", "WornSums", "WornSumsModel"]
def pp_st : List (List Int32) := [[122, 101, 114, 111, 32, 111, 110, 101, 32, 116, 119, 111, 32, 116, 104, 114, 101, 101, 32, 102, 111, 117, 114, 32, 102, 105, 118, 101, 32, 115, 105, 120, 32, 115, 101, 118, 101, 110, 32, 101, 105, 103, 104, 116, 32, 110, 105, 110, 101], [116, 101, 110, 32, 101, 108, 101, 118, 101, 110, 32, 116, 119, 101, 108, 118, 101, 32, 116, 104, 105, 114, 116, 101, 101, 110, 32, 102, 111, 117, 114, 116, 101, 101, 110, 32, 102, 105, 102, 116, 101, 101, 110, 32, 115, 105, 120, 116, 101, 101, 110, 32, 115, 101, 118, 101, 110, 116, 101, 101, 110, 32, 101, 105, 103, 104, 116, 101, 101, 110, 32, 110, 105, 110, 101, 116, 101, 101, 110], [116, 119, 101, 110, 116, 121, 32, 116, 104, 105, 114, 116, 121, 32, 102, 111, 114, 116, 121, 32, 102, 105, 102, 116, 121, 32, 115, 105, 120, 116, 121, 32, 115, 101, 118, 101, 110, 116, 121, 32, 101, 105, 103, 104, 116, 121, 32, 110, 105, 110, 101, 116, 121], [32, 104, 117, 110, 100, 114, 101, 100], [32, 97, 110, 100, 32], [48, 54, 48, 56, 49, 55, 51, 56, 52, 57, 53, 54, 54, 56]]
/-- WornSums$Text.<init>()V -/
def pc_0 : List (List (Nat × smI)) := [[(0, .aload_n 0, 1, 0, 0, 0), (1, .invokespecial 3, 3, 0, 0, 0), (4, .aload_n 0, 1, 0, 0, 0), (5, .bipush 40, 2, 40, 0, 0), (7, .newarray .char, 2, 0, 0, 0), (9, .putfield 9, 3, 6, 0, 1), (12, .aload_n 0, 1, 0, 0, 0), (13, .iconst 0, 1, 0, 0, 0), (14, .putfield 15, 3, 6, 1, 0)],
  [(17, .return_, 1, 0, 0, 0)]]
/-- WornSums$Row.<init>(I)V -/
def pc_1 : List (List (Nat × smI)) := [[(0, .aload_n 0, 1, 0, 0, 0), (1, .invokespecial 3, 3, 0, 0, 0), (4, .aload_n 0, 1, 0, 0, 0), (5, .iconst 0, 1, 0, 0, 0), (6, .putfield 9, 3, 4, 1, 0), (9, .aload_n 0, 1, 0, 0, 0), (10, .iload_n 1, 1, 0, 0, 0), (11, .iconst 0, 1, 0, 0, 0), (12, .invokestatic 15, 3, 0, 0, 1), (15, .newarray .char, 2, 0, 0, 0)],
  [(17, .putfield 21, 3, 4, 0, 1), (20, .return_, 1, 0, 0, 0)]]
/-- WornSums$Sheet.newRows(I)[LWornSums$Row; -/
def pc_2 : List (List (Nat × smI)) := [[(0, .bipush 6, 2, 6, 0, 0), (2, .anewarray 32, 3, 4, 0, 0), (5, .astore_n 1, 1, 0, 0, 0), (6, .iconst 0, 1, 0, 0, 0), (7, .istore_n 2, 1, 0, 0, 0), (8, .iload_n 2, 1, 0, 0, 0), (9, .aload_n 1, 1, 0, 0, 0), (10, .arraylength, 1, 0, 0, 0), (11, .if_icmp .ge 20, 3, 0, 0, 0), (14, .aload_n 1, 1, 0, 0, 0), (15, .iload_n 2, 1, 0, 0, 0)],
  [(16, .new 32, 3, 4, 0, 0), (19, .dup, 1, 0, 0, 0), (20, .iload_n 0, 1, 0, 0, 0), (21, .invokespecial 34, 3, 1, 1, 1), (24, .aastore, 1, 0, 0, 0), (25, .iinc 2 1, 3, 1, 0, 0), (28, .goto (-20), 3, 0, 0, 0), (31, .aload_n 1, 1, 0, 0, 0)],
  [(32, .areturn, 1, 0, 0, 0)]]
/-- WornSums$Sheet.<init>()V -/
def pc_3 : List (List (Nat × smI)) := [[(0, .aload_n 0, 1, 0, 0, 0), (1, .invokespecial 3, 3, 0, 0, 0), (4, .aload_n 0, 1, 0, 0, 0), (5, .bipush 31, 2, 31, 0, 0), (7, .invokestatic 9, 3, 2, 1, 0), (10, .putfield 15, 3, 5, 0, 1), (13, .aload_n 0, 1, 0, 0, 0), (14, .iconst 3, 1, 3, 0, 0), (15, .invokestatic 9, 3, 2, 1, 0)],
  [(18, .putfield 19, 3, 5, 1, 1), (21, .aload_n 0, 1, 0, 0, 0), (22, .iconst 0, 1, 0, 0, 0), (23, .putfield 22, 3, 5, 2, 0), (26, .aload_n 0, 1, 0, 0, 0), (27, .iconst 0, 1, 0, 0, 0), (28, .putfield 26, 3, 5, 3, 0), (31, .aload_n 0, 1, 0, 0, 0)],
  [(32, .bipush (-9), 2, 9, 1, 0), (34, .putfield 29, 3, 5, 4, 0), (37, .return_, 1, 0, 0, 0)]]
/-- WornSums.newSheets(I)[LWornSums$Sheet; -/
def pc_4 : List (List (Nat × smI)) := [[(0, .iload_n 0, 1, 0, 0, 0), (1, .iconst 0, 1, 0, 0, 0), (2, .invokestatic 209, 3, 0, 0, 1), (5, .anewarray 16, 3, 5, 0, 0), (8, .astore_n 1, 1, 0, 0, 0), (9, .iconst 0, 1, 0, 0, 0), (10, .istore_n 2, 1, 0, 0, 0), (11, .iload_n 2, 1, 0, 0, 0), (12, .aload_n 1, 1, 0, 0, 0), (13, .arraylength, 1, 0, 0, 0), (14, .if_icmp .ge 19, 3, 0, 0, 0)],
  [(17, .aload_n 1, 1, 0, 0, 0), (18, .iload_n 2, 1, 0, 0, 0), (19, .new 16, 3, 5, 0, 0), (22, .dup, 1, 0, 0, 0), (23, .invokespecial 18, 3, 3, 0, 1), (26, .aastore, 1, 0, 0, 0), (27, .iinc 2 1, 3, 1, 0, 0), (30, .goto (-19), 3, 0, 0, 0)],
  [(33, .aload_n 1, 1, 0, 0, 0), (34, .areturn, 1, 0, 0, 0)]]
/-- WornSums$History.<init>()V -/
def pc_5 : List (List (Nat × smI)) := [[(0, .aload_n 0, 1, 0, 0, 0), (1, .invokespecial 3, 3, 0, 0, 0), (4, .aload_n 0, 1, 0, 0, 0), (5, .bipush 8, 2, 8, 0, 0), (7, .invokestatic 9, 3, 4, 1, 0), (10, .putfield 13, 3, 2, 0, 1), (13, .aload_n 0, 1, 0, 0, 0), (14, .iconst 0, 1, 0, 0, 0), (15, .putfield 19, 3, 2, 1, 0)],
  [(18, .aload_n 0, 1, 0, 0, 0), (19, .iconst 0, 1, 0, 0, 0), (20, .putfield 23, 3, 2, 2, 0), (23, .return_, 1, 0, 0, 0)]]
/-- java/lang/String.coder()B -/
def pc_6 : List (List (Nat × smI)) := [[(0, .getstatic 38, 3, 1, 0, 0), (3, .ifCond .eq 10, 3, 0, 0, 0), (6, .aload_n 0, 1, 0, 0, 0), (7, .getfield 15, 3, 0, 0, 3), (10, .goto 4, 3, 0, 0, 0), (13, .iconst 1, 1, 1, 0, 0), (14, .ireturn, 1, 0, 0, 3)]]
/-- java/lang/String.length()I -/
def pc_7 : List (List (Nat × smI)) := [[(0, .aload_n 0, 1, 0, 0, 0), (1, .getfield 9, 3, 0, 0, 2), (4, .arraylength, 1, 0, 0, 0), (5, .aload_n 0, 1, 0, 0, 0), (6, .invokevirtual 335, 3, 6, 0, 0), (9, .ishr, 1, 0, 0, 0), (10, .ireturn, 1, 0, 0, 0)]]
/-- java/lang/String.isLatin1()Z -/
def pc_8 : List (List (Nat × smI)) := [[(0, .getstatic 38, 3, 1, 0, 0), (3, .ifCond .eq 14, 3, 0, 0, 0), (6, .aload_n 0, 1, 0, 0, 0), (7, .getfield 15, 3, 0, 0, 3), (10, .ifCond .ne 7, 3, 0, 0, 0), (13, .iconst 1, 1, 1, 0, 0), (14, .goto 4, 3, 0, 0, 0)],
  [(17, .iconst 0, 1, 0, 0, 0), (18, .ireturn, 1, 0, 0, 1)]]
/-- jdk/internal/util/Preconditions.checkIndex(IILjava/util/function/BiFunction;)I -/
def pc_9 : List (List (Nat × smI)) := [[(0, .iload_n 0, 1, 0, 0, 0), (1, .ifCond .lt 8, 3, 0, 0, 0), (4, .iload_n 0, 1, 0, 0, 0), (5, .iload_n 1, 1, 0, 0, 0), (6, .if_icmp .lt 10, 3, 0, 0, 0), (9, .aload_n 2, 1, 0, 0, 0), (10, .iload_n 0, 1, 0, 0, 0), (11, .iload_n 1, 1, 0, 0, 0)],
  [(16, .iload_n 0, 1, 0, 0, 0), (17, .ireturn, 1, 0, 0, 0)]]
/-- java/lang/String.checkIndex(II)V -/
def pc_10 : List (List (Nat × smI)) := [[(0, .iload_n 0, 1, 0, 0, 0), (1, .iload_n 1, 1, 0, 0, 0), (2, .getstatic 1053, 3, 41, 0, 1), (5, .invokestatic 1059, 3, 9, 3, 0), (8, .pop, 1, 0, 0, 0), (9, .return_, 1, 0, 0, 0)]]
/-- java/lang/StringLatin1.charAt([BI)C -/
def pc_11 : List (List (Nat × smI)) := [[(0, .iload_n 1, 1, 0, 0, 0), (1, .aload_n 0, 1, 0, 0, 0), (2, .arraylength, 1, 0, 0, 0), (3, .invokestatic 9, 3, 10, 2, 0), (6, .aload_n 0, 1, 0, 0, 0), (7, .iload_n 1, 1, 0, 0, 0), (8, .baload, 1, 0, 0, 1), (9, .sipush 255, 3, 255, 0, 0), (12, .iand, 1, 0, 0, 0), (13, .i2c, 1, 0, 0, 0), (14, .ireturn, 1, 0, 0, 2)]]
/-- java/lang/String.charAt(I)C -/
def pc_12 : List (List (Nat × smI)) := [[(0, .aload_n 0, 1, 0, 0, 0), (1, .invokevirtual 492, 3, 8, 0, 0), (4, .ifCond .eq 12, 3, 0, 0, 0), (7, .aload_n 0, 1, 0, 0, 0), (8, .getfield 9, 3, 0, 0, 2), (11, .iload_n 1, 1, 0, 0, 0), (12, .invokestatic 495, 3, 11, 2, 0), (15, .ireturn, 1, 0, 0, 2)],
  [(16, .aload_n 0, 1, 0, 0, 0), (17, .getfield 9, 3, 0, 0, 2), (20, .iload_n 1, 1, 0, 0, 0), (24, .ireturn, 1, 0, 0, 2)]]
/-- WornSums.isNumber(I)Z -/
def pc_13 : List (List (Nat × smI)) := [[(0, .iload_n 0, 1, 0, 0, 0), (1, .ifCond .lt 14, 3, 0, 0, 0), (4, .iload_n 0, 1, 0, 0, 0), (5, .sipush 1000, 3, 1000, 0, 0), (8, .if_icmp .ge 7, 3, 0, 0, 0), (11, .iconst 1, 1, 1, 0, 0), (12, .goto 4, 3, 0, 0, 0), (15, .iconst 0, 1, 0, 0, 0)],
  [(16, .ireturn, 1, 0, 0, 1)]]
/-- WornSums$NumberWords.addSign(IC)V -/
def pc_14 : List (List (Nat × smI)) := [[(0, .iload_n 1, 1, 0, 0, 0), (1, .invokestatic 73, 3, 13, 1, 0), (4, .ifCond .eq 14, 3, 0, 0, 0), (7, .aload_n 0, 1, 0, 0, 0), (8, .getfield 15, 3, 3, 1, 1), (11, .iload_n 1, 1, 0, 0, 0), (12, .iaload, 1, 0, 0, 0), (13, .bipush 31, 2, 31, 0, 0), (15, .if_icmp .lt 4, 3, 0, 0, 0)],
  [(18, .return_, 1, 0, 0, 0), (19, .aload_n 0, 1, 0, 0, 0), (20, .getfield 9, 3, 3, 0, 1), (23, .iload_n 1, 1, 0, 0, 0), (24, .bipush 31, 2, 31, 0, 0), (26, .imul, 1, 0, 0, 0), (27, .aload_n 0, 1, 0, 0, 0), (28, .getfield 15, 3, 3, 1, 1), (31, .iload_n 1, 1, 0, 0, 0)],
  [(32, .iaload, 1, 0, 0, 0), (33, .iadd, 1, 0, 0, 0), (34, .iload_n 2, 1, 0, 0, 0), (35, .castore, 1, 0, 0, 0), (36, .aload_n 0, 1, 0, 0, 0), (37, .getfield 15, 3, 3, 1, 1), (40, .iload_n 1, 1, 0, 0, 0), (41, .dup2, 1, 0, 0, 0), (42, .iaload, 1, 0, 0, 0), (43, .iconst 1, 1, 1, 0, 0), (44, .iadd, 1, 0, 0, 0), (45, .iastore, 1, 0, 0, 0), (46, .return_, 1, 0, 0, 0)]]
/-- WornSums$NumberWords.addName(ILjava/lang/String;I)V -/
def pc_15 : List (List (Nat × smI)) := [[(0, .iconst 0, 1, 0, 0, 0), (1, .istore 4, 2, 0, 0, 0), (3, .iconst 0, 1, 0, 0, 0), (4, .istore 5, 2, 0, 0, 0), (6, .iload 5, 2, 0, 0, 0), (8, .aload_n 2, 1, 0, 0, 0), (9, .invokevirtual 55, 3, 7, 0, 0), (12, .if_icmp .ge 43, 3, 0, 0, 0), (15, .aload_n 2, 1, 0, 0, 0)],
  [(16, .iload 5, 2, 0, 0, 0), (18, .invokevirtual 61, 3, 12, 1, 0), (21, .istore 6, 2, 0, 0, 0), (23, .iload 6, 2, 0, 0, 0), (25, .bipush 32, 2, 32, 0, 0), (27, .if_icmp .ne 9, 3, 0, 0, 0), (30, .iinc 4 1, 3, 1, 0, 0)],
  [(33, .goto 16, 3, 0, 0, 0), (36, .iload 4, 2, 0, 0, 0), (38, .iload_n 3, 1, 0, 0, 0), (39, .if_icmp .ne 10, 3, 0, 0, 0), (42, .aload_n 0, 1, 0, 0, 0), (43, .iload_n 1, 1, 0, 0, 0), (44, .iload 6, 2, 0, 0, 0), (46, .invokevirtual 43, 3, 14, 2, 4)],
  [(49, .iinc 5 1, 3, 1, 0, 0), (52, .goto (-46), 3, 0, 0, 0), (55, .return_, 1, 0, 0, 0)]]
/-- WornSums$NumberWords.lengthOf(I)I -/
def pc_16 : List (List (Nat × smI)) := [[(0, .iload_n 1, 1, 0, 0, 0), (1, .invokestatic 73, 3, 13, 1, 0), (4, .ifCond .eq 12, 3, 0, 0, 0), (7, .aload_n 0, 1, 0, 0, 0), (8, .getfield 15, 3, 3, 1, 1), (11, .iload_n 1, 1, 0, 0, 0), (12, .iaload, 1, 0, 0, 0), (13, .goto 4, 3, 0, 0, 0)],
  [(16, .iconst 0, 1, 0, 0, 0), (17, .ireturn, 1, 0, 0, 0)]]
/-- WornSums$NumberWords.at(II)I -/
def pc_17 : List (List (Nat × smI)) := [[(0, .iload_n 1, 1, 0, 0, 0), (1, .invokestatic 73, 3, 13, 1, 0), (4, .ifCond .eq 23, 3, 0, 0, 0), (7, .iload_n 2, 1, 0, 0, 0), (8, .ifCond .lt 19, 3, 0, 0, 0), (11, .iload_n 2, 1, 0, 0, 0), (12, .aload_n 0, 1, 0, 0, 0), (13, .getfield 15, 3, 3, 1, 1)],
  [(16, .iload_n 1, 1, 0, 0, 0), (17, .iaload, 1, 0, 0, 0), (18, .if_icmp .ge 9, 3, 0, 0, 0), (21, .iload_n 2, 1, 0, 0, 0), (22, .bipush 31, 2, 31, 0, 0), (24, .if_icmp .lt 6, 3, 0, 0, 0), (27, .bipush (-9), 2, 9, 1, 0), (29, .ireturn, 1, 0, 0, 0), (30, .aload_n 0, 1, 0, 0, 0), (31, .getfield 9, 3, 3, 0, 1)],
  [(34, .iload_n 1, 1, 0, 0, 0), (35, .bipush 31, 2, 31, 0, 0), (37, .imul, 1, 0, 0, 0), (38, .iload_n 2, 1, 0, 0, 0), (39, .iadd, 1, 0, 0, 0), (40, .caload, 1, 0, 0, 0), (41, .ireturn, 1, 0, 0, 0)]]
/-- WornSums$NumberWords.addNumber(II)V -/
def pc_18 : List (List (Nat × smI)) := [[(0, .aload_n 0, 1, 0, 0, 0), (1, .iload_n 2, 1, 0, 0, 0), (2, .invokevirtual 65, 3, 16, 1, 4), (5, .istore_n 3, 1, 0, 0, 0), (6, .iconst 0, 1, 0, 0, 0), (7, .istore 4, 2, 0, 0, 0), (9, .iload 4, 2, 0, 0, 0), (11, .iload_n 3, 1, 0, 0, 0), (12, .if_icmp .ge 22, 3, 0, 0, 0), (15, .aload_n 0, 1, 0, 0, 0)],
  [(16, .iload_n 1, 1, 0, 0, 0), (17, .aload_n 0, 1, 0, 0, 0), (18, .iload_n 2, 1, 0, 0, 0), (19, .iload 4, 2, 0, 0, 0), (21, .invokevirtual 69, 3, 17, 2, 4), (24, .i2c, 1, 0, 0, 0), (25, .invokevirtual 43, 3, 14, 2, 4), (28, .iinc 4 1, 3, 1, 0, 0), (31, .goto (-22), 3, 0, 0, 0)],
  [(34, .return_, 1, 0, 0, 0)]]
/-- WornSums$NumberWords.writeTens(I)V -/
def pc_19 : List (List (Nat × smI)) := [[(0, .iload_n 1, 1, 0, 0, 0), (1, .bipush 10, 2, 10, 0, 0), (3, .irem, 1, 0, 0, 0), (4, .istore_n 2, 1, 0, 0, 0), (5, .iload_n 2, 1, 0, 0, 0), (6, .ifCond .ne 17, 3, 0, 0, 0), (9, .aload_n 0, 1, 0, 0, 0), (10, .iload_n 1, 1, 0, 0, 0), (11, .ldc 37, 2, 2, 0, 1), (13, .iload_n 1, 1, 0, 0, 0), (14, .bipush 10, 2, 10, 0, 0)],
  [(16, .idiv, 1, 0, 0, 0), (17, .iconst 2, 1, 2, 0, 0), (18, .isub, 1, 0, 0, 0), (19, .invokevirtual 25, 3, 15, 3, 4), (22, .return_, 1, 0, 0, 0), (23, .aload_n 0, 1, 0, 0, 0), (24, .iload_n 1, 1, 0, 0, 0), (25, .iload_n 1, 1, 0, 0, 0), (26, .iload_n 2, 1, 0, 0, 0), (27, .isub, 1, 0, 0, 0), (28, .invokevirtual 39, 3, 18, 2, 4), (31, .aload_n 0, 1, 0, 0, 0)],
  [(32, .iload_n 1, 1, 0, 0, 0), (33, .bipush 32, 2, 32, 0, 0), (35, .invokevirtual 43, 3, 14, 2, 4), (38, .aload_n 0, 1, 0, 0, 0), (39, .iload_n 1, 1, 0, 0, 0), (40, .iload_n 2, 1, 0, 0, 0), (41, .invokevirtual 39, 3, 18, 2, 4), (44, .return_, 1, 0, 0, 0)]]
/-- WornSums$NumberWords.addAll(ILjava/lang/String;)V -/
def pc_20 : List (List (Nat × smI)) := [[(0, .iconst 0, 1, 0, 0, 0), (1, .istore_n 3, 1, 0, 0, 0), (2, .iload_n 3, 1, 0, 0, 0), (3, .aload_n 2, 1, 0, 0, 0), (4, .invokevirtual 55, 3, 7, 0, 0), (7, .if_icmp .ge 19, 3, 0, 0, 0), (10, .aload_n 0, 1, 0, 0, 0), (11, .iload_n 1, 1, 0, 0, 0), (12, .aload_n 2, 1, 0, 0, 0), (13, .iload_n 3, 1, 0, 0, 0), (14, .invokevirtual 61, 3, 12, 1, 0)],
  [(17, .invokevirtual 43, 3, 14, 2, 4), (20, .iinc 3 1, 3, 1, 0, 0), (23, .goto (-21), 3, 0, 0, 0), (26, .return_, 1, 0, 0, 0)]]
/-- WornSums$NumberWords.writeHundreds(I)V -/
def pc_21 : List (List (Nat × smI)) := [[(0, .iload_n 1, 1, 0, 0, 0), (1, .bipush 100, 2, 100, 0, 0), (3, .irem, 1, 0, 0, 0), (4, .istore_n 2, 1, 0, 0, 0), (5, .aload_n 0, 1, 0, 0, 0), (6, .iload_n 1, 1, 0, 0, 0), (7, .iload_n 1, 1, 0, 0, 0), (8, .bipush 100, 2, 100, 0, 0), (10, .idiv, 1, 0, 0, 0), (11, .invokevirtual 39, 3, 18, 2, 4), (14, .aload_n 0, 1, 0, 0, 0), (15, .iload_n 1, 1, 0, 0, 0)],
  [(16, .ldc 47, 2, 3, 0, 1), (18, .invokevirtual 49, 3, 20, 2, 4), (21, .iload_n 2, 1, 0, 0, 0), (22, .ifCond .eq 16, 3, 0, 0, 0), (25, .aload_n 0, 1, 0, 0, 0), (26, .iload_n 1, 1, 0, 0, 0), (27, .ldc 53, 2, 4, 0, 1), (29, .invokevirtual 49, 3, 20, 2, 4)],
  [(32, .aload_n 0, 1, 0, 0, 0), (33, .iload_n 1, 1, 0, 0, 0), (34, .iload_n 2, 1, 0, 0, 0), (35, .invokevirtual 39, 3, 18, 2, 4), (38, .return_, 1, 0, 0, 0)]]
/-- WornSums$NumberWords.write(I)V -/
def pc_22 : List (List (Nat × smI)) := [[(0, .iload_n 1, 1, 0, 0, 0), (1, .bipush 10, 2, 10, 0, 0), (3, .if_icmp .ge 14, 3, 0, 0, 0), (6, .aload_n 0, 1, 0, 0, 0), (7, .iload_n 1, 1, 0, 0, 0), (8, .ldc 23, 2, 0, 0, 1), (10, .iload_n 1, 1, 0, 0, 0), (11, .invokevirtual 25, 3, 15, 3, 4), (14, .goto 42, 3, 0, 0, 0)],
  [(17, .iload_n 1, 1, 0, 0, 0), (18, .bipush 20, 2, 20, 0, 0), (20, .if_icmp .ge 17, 3, 0, 0, 0), (23, .aload_n 0, 1, 0, 0, 0), (24, .iload_n 1, 1, 0, 0, 0), (25, .ldc 29, 2, 1, 0, 1), (27, .iload_n 1, 1, 0, 0, 0), (28, .bipush 10, 2, 10, 0, 0), (30, .isub, 1, 0, 0, 0), (31, .invokevirtual 25, 3, 15, 3, 4)],
  [(34, .goto 22, 3, 0, 0, 0), (37, .iload_n 1, 1, 0, 0, 0), (38, .bipush 100, 2, 100, 0, 0), (40, .if_icmp .ge 11, 3, 0, 0, 0), (43, .aload_n 0, 1, 0, 0, 0), (44, .iload_n 1, 1, 0, 0, 0), (45, .invokevirtual 31, 3, 19, 1, 4)],
  [(48, .goto 8, 3, 0, 0, 0), (51, .aload_n 0, 1, 0, 0, 0), (52, .iload_n 1, 1, 0, 0, 0), (53, .invokevirtual 34, 3, 21, 1, 4), (56, .return_, 1, 0, 0, 0)]]
/-- WornSums$NumberWords.<init>()V -/
def pc_23 : List (List (Nat × smI)) := [[(0, .aload_n 0, 1, 0, 0, 0), (1, .invokespecial 3, 3, 0, 0, 0), (4, .aload_n 0, 1, 0, 0, 0), (5, .sipush 31000, 3, 31000, 0, 0), (8, .newarray .char, 2, 0, 0, 0), (10, .putfield 9, 3, 3, 0, 1), (13, .aload_n 0, 1, 0, 0, 0), (14, .sipush 1000, 3, 1000, 0, 0)],
  [(17, .newarray .int, 2, 0, 0, 0), (19, .putfield 15, 3, 3, 1, 1), (22, .iconst 0, 1, 0, 0, 0), (23, .istore_n 1, 1, 0, 0, 0), (24, .iload_n 1, 1, 0, 0, 0), (25, .sipush 1000, 3, 1000, 0, 0), (28, .if_icmp .ge 14, 3, 0, 0, 0), (31, .aload_n 0, 1, 0, 0, 0)],
  [(32, .iload_n 1, 1, 0, 0, 0), (33, .invokevirtual 19, 3, 22, 1, 4), (36, .iinc 1 1, 3, 1, 0, 0), (39, .goto (-15), 3, 0, 0, 0), (42, .return_, 1, 0, 0, 0)]]
/-- WornSums$Agreeing.<init>()V -/
def pc_24 : List (List (Nat × smI)) := [[(0, .aload_n 0, 1, 0, 0, 0), (1, .invokespecial 3, 3, 0, 0, 0), (4, .aload_n 0, 1, 0, 0, 0), (5, .sipush 1000, 3, 1000, 0, 0), (8, .newarray .int, 2, 0, 0, 0), (10, .putfield 9, 3, 0, 0, 1), (13, .aload_n 0, 1, 0, 0, 0), (14, .sipush 1000, 3, 1000, 0, 0)],
  [(17, .newarray .int, 2, 0, 0, 0), (19, .putfield 15, 3, 0, 1, 1), (22, .aload_n 0, 1, 0, 0, 0), (23, .iconst 0, 1, 0, 0, 0), (24, .putfield 18, 3, 0, 2, 0), (27, .aload_n 0, 1, 0, 0, 0), (28, .iconst 0, 1, 0, 0, 0), (29, .putfield 22, 3, 0, 3, 0)],
  [(32, .aload_n 0, 1, 0, 0, 0), (33, .iconst 0, 1, 0, 0, 0), (34, .putfield 25, 3, 0, 4, 0), (37, .return_, 1, 0, 0, 0)]]
/-- WornSums$Findings.<init>()V -/
def pc_25 : List (List (Nat × smI)) := [[(0, .aload_n 0, 1, 0, 0, 0), (1, .invokespecial 3, 3, 0, 0, 0), (4, .aload_n 0, 1, 0, 0, 0), (5, .bipush 6, 2, 6, 0, 0), (7, .anewarray 9, 3, 0, 0, 0), (10, .putfield 11, 3, 1, 0, 1), (13, .aload_n 0, 1, 0, 0, 0), (14, .iconst 0, 1, 0, 0, 0), (15, .putfield 17, 3, 1, 1, 2)],
  [(18, .aload_n 0, 1, 0, 0, 0), (19, .bipush 7, 2, 7, 0, 0), (21, .sipush 5995, 3, 5995, 0, 0), (24, .multianewarray 21 2, 4, 0, 0, 0), (28, .putfield 23, 3, 1, 2, 1), (31, .aload_n 0, 1, 0, 0, 0)],
  [(32, .bipush 6, 2, 6, 0, 0), (34, .newarray .int, 2, 0, 0, 0), (36, .putfield 26, 3, 1, 3, 1), (39, .aload_n 0, 1, 0, 0, 0), (40, .bipush (-9), 2, 9, 1, 0), (42, .putfield 30, 3, 1, 4, 0), (45, .aload_n 0, 1, 0, 0, 0), (46, .iconst 0, 1, 0, 0, 0), (47, .putfield 34, 3, 1, 5, 2)],
  [(50, .aload_n 0, 1, 0, 0, 0), (51, .sipush 5995, 3, 5995, 0, 0), (54, .newarray .boolean, 2, 0, 0, 0), (56, .putfield 37, 3, 1, 6, 1), (59, .aload_n 0, 1, 0, 0, 0), (60, .bipush 26, 2, 26, 0, 0), (62, .newarray .int, 2, 0, 0, 0)],
  [(64, .putfield 41, 3, 1, 7, 1), (67, .iconst 0, 1, 0, 0, 0), (68, .istore_n 1, 1, 0, 0, 0), (69, .iload_n 1, 1, 0, 0, 0), (70, .aload_n 0, 1, 0, 0, 0), (71, .getfield 11, 3, 1, 0, 1), (74, .arraylength, 1, 0, 0, 0), (75, .if_icmp .ge 22, 3, 0, 0, 0), (78, .aload_n 0, 1, 0, 0, 0), (79, .getfield 11, 3, 1, 0, 1)],
  [(82, .iload_n 1, 1, 0, 0, 0), (83, .new 9, 3, 0, 0, 0), (86, .dup, 1, 0, 0, 0), (87, .invokespecial 44, 3, 24, 0, 1), (90, .aastore, 1, 0, 0, 0), (91, .iinc 1 1, 3, 1, 0, 0), (94, .goto (-25), 3, 0, 0, 0)],
  [(97, .return_, 1, 0, 0, 0)]]
/-- WornSums.<init>()V -/
def pc_26 : List (List (Nat × smI)) := [[(0, .aload_n 0, 1, 0, 0, 0), (1, .invokespecial 3, 3, 0, 0, 0), (4, .aload_n 0, 1, 0, 0, 0), (5, .new 9, 3, 6, 0, 0), (8, .dup, 1, 0, 0, 0), (9, .invokespecial 11, 3, 0, 0, 1), (12, .putfield 12, 3, 7, 0, 1), (15, .aload_n 0, 1, 0, 0, 0)],
  [(16, .new 16, 3, 5, 0, 0), (19, .dup, 1, 0, 0, 0), (20, .invokespecial 18, 3, 3, 0, 1), (23, .putfield 19, 3, 7, 1, 1), (26, .aload_n 0, 1, 0, 0, 0), (27, .new 23, 3, 2, 0, 0), (30, .dup, 1, 0, 0, 0), (31, .invokespecial 25, 3, 5, 0, 1)],
  [(34, .putfield 26, 3, 7, 2, 1), (37, .aload_n 0, 1, 0, 0, 0), (38, .iconst 2, 1, 2, 0, 0), (39, .invokestatic 30, 3, 4, 1, 0), (42, .putfield 34, 3, 7, 3, 1), (45, .aload_n 0, 1, 0, 0, 0), (46, .iconst 2, 1, 2, 0, 0), (47, .newarray .boolean, 2, 0, 0, 0)],
  [(49, .putfield 38, 3, 7, 4, 1), (52, .aload_n 0, 1, 0, 0, 0), (53, .new 42, 3, 3, 0, 0), (56, .dup, 1, 0, 0, 0), (57, .invokespecial 44, 3, 23, 0, 1), (60, .putfield 45, 3, 7, 5, 1), (63, .aload_n 0, 1, 0, 0, 0)],
  [(64, .new 49, 3, 1, 0, 0), (67, .dup, 1, 0, 0, 0), (68, .invokespecial 51, 3, 25, 0, 1), (71, .putfield 52, 3, 7, 6, 1), (74, .return_, 1, 0, 0, 0)]]
/-- WornSums$Text.add(C)Z -/
def pc_27 : List (List (Nat × smI)) := [[(0, .aload_n 0, 1, 0, 0, 0), (1, .getfield 15, 3, 6, 1, 0), (4, .aload_n 0, 1, 0, 0, 0), (5, .getfield 9, 3, 6, 0, 1), (8, .arraylength, 1, 0, 0, 0), (9, .if_icmp .lt 5, 3, 0, 0, 0), (12, .iconst 0, 1, 0, 0, 0), (13, .ireturn, 1, 0, 0, 1), (14, .aload_n 0, 1, 0, 0, 0), (15, .getfield 9, 3, 6, 0, 1)],
  [(18, .aload_n 0, 1, 0, 0, 0), (19, .getfield 15, 3, 6, 1, 0), (22, .iload_n 1, 1, 0, 0, 0), (23, .castore, 1, 0, 0, 0), (24, .aload_n 0, 1, 0, 0, 0), (25, .dup, 1, 0, 0, 0), (26, .getfield 15, 3, 6, 1, 0), (29, .iconst 1, 1, 1, 0, 0), (30, .iadd, 1, 0, 0, 0), (31, .putfield 15, 3, 6, 1, 0)],
  [(34, .iconst 1, 1, 1, 0, 0), (35, .ireturn, 1, 0, 0, 1)]]
/-- WornSums.type(I)I -/
def pc_28 : List (List (Nat × smI)) := [[(0, .iload_n 1, 1, 0, 0, 0), (1, .ifCond .lt 10, 3, 0, 0, 0), (4, .iload_n 1, 1, 0, 0, 0), (5, .sipush 255, 3, 255, 0, 0), (8, .if_icmp .le 5, 3, 0, 0, 0), (11, .iconst (-1), 1, 1, 1, 0), (12, .ireturn, 1, 0, 0, 0), (13, .aload_n 0, 1, 0, 0, 0), (14, .getfield 12, 3, 7, 0, 1)],
  [(17, .iload_n 1, 1, 0, 0, 0), (18, .i2c, 1, 0, 0, 0), (19, .invokevirtual 56, 3, 27, 1, 7), (22, .ifCond .eq 13, 3, 0, 0, 0), (25, .aload_n 0, 1, 0, 0, 0), (26, .getfield 12, 3, 7, 0, 1), (29, .getfield 60, 3, 6, 1, 0)],
  [(32, .goto 5, 3, 0, 0, 0), (35, .bipush (-3), 2, 3, 1, 0), (37, .ireturn, 1, 0, 0, 0)]]
/-- WornSums.clear()I -/
def pc_29 : List (List (Nat × smI)) := [[(0, .aload_n 0, 1, 0, 0, 0), (1, .getfield 12, 3, 7, 0, 1), (4, .getfield 60, 3, 6, 1, 0), (7, .istore_n 1, 1, 0, 0, 0), (8, .aload_n 0, 1, 0, 0, 0), (9, .getfield 12, 3, 7, 0, 1), (12, .iconst 0, 1, 0, 0, 0), (13, .putfield 60, 3, 6, 1, 0)],
  [(16, .iload_n 1, 1, 0, 0, 0), (17, .ireturn, 1, 0, 0, 0)]]
/-- WornSums$Text.at(I)C -/
def pc_30 : List (List (Nat × smI)) := [[(0, .iload_n 1, 1, 0, 0, 0), (1, .ifCond .lt 29, 3, 0, 0, 0), (4, .iload_n 1, 1, 0, 0, 0), (5, .aload_n 0, 1, 0, 0, 0), (6, .getfield 15, 3, 6, 1, 0), (9, .if_icmp .ge 21, 3, 0, 0, 0), (12, .iload_n 1, 1, 0, 0, 0), (13, .aload_n 0, 1, 0, 0, 0), (14, .getfield 9, 3, 6, 0, 1)],
  [(17, .arraylength, 1, 0, 0, 0), (18, .if_icmp .ge 12, 3, 0, 0, 0), (21, .aload_n 0, 1, 0, 0, 0), (22, .getfield 9, 3, 6, 0, 1), (25, .iload_n 1, 1, 0, 0, 0), (26, .caload, 1, 0, 0, 0), (27, .goto 4, 3, 0, 0, 0), (30, .iconst 0, 1, 0, 0, 0), (31, .ireturn, 1, 0, 0, 2)]]
/-- WornSums.isLetter(I)Z -/
def pc_31 : List (List (Nat × smI)) := [[(0, .iload_n 0, 1, 0, 0, 0), (1, .bipush 97, 2, 97, 0, 0), (3, .if_icmp .lt 13, 3, 0, 0, 0), (6, .iload_n 0, 1, 0, 0, 0), (7, .bipush 122, 2, 122, 0, 0), (9, .if_icmp .gt 7, 3, 0, 0, 0), (12, .iconst 1, 1, 1, 0, 0), (13, .goto 4, 3, 0, 0, 0)],
  [(16, .iconst 0, 1, 0, 0, 0), (17, .ireturn, 1, 0, 0, 1)]]
/-- WornSums$Text.standsInWords(I)Z -/
def pc_32 : List (List (Nat × smI)) := [[(0, .aload_n 0, 1, 0, 0, 0), (1, .iload_n 1, 1, 0, 0, 0), (2, .invokevirtual 23, 3, 30, 1, 7), (5, .istore_n 2, 1, 0, 0, 0), (6, .iload_n 2, 1, 0, 0, 0), (7, .bipush 61, 2, 61, 0, 0), (9, .if_icmp .ne 13, 3, 0, 0, 0), (12, .iload_n 1, 1, 0, 0, 0), (13, .ifCond .le 7, 3, 0, 0, 0)],
  [(16, .iconst 1, 1, 1, 0, 0), (17, .goto 4, 3, 0, 0, 0), (20, .iconst 0, 1, 0, 0, 0), (21, .ireturn, 1, 0, 0, 1), (22, .iload_n 1, 1, 0, 0, 0), (23, .bipush 31, 2, 31, 0, 0), (25, .if_icmp .lt 5, 3, 0, 0, 0), (28, .iconst 0, 1, 0, 0, 0), (29, .ireturn, 1, 0, 0, 1), (30, .iload_n 2, 1, 0, 0, 0), (31, .bipush 32, 2, 32, 0, 0)],
  [(33, .if_icmp .ne 37, 3, 0, 0, 0), (36, .iload_n 1, 1, 0, 0, 0), (37, .ifCond .le 31, 3, 0, 0, 0), (40, .aload_n 0, 1, 0, 0, 0), (41, .iload_n 1, 1, 0, 0, 0), (42, .iconst 1, 1, 1, 0, 0), (43, .isub, 1, 0, 0, 0), (44, .invokevirtual 23, 3, 30, 1, 7), (47, .bipush 32, 2, 32, 0, 0)],
  [(49, .if_icmp .eq 19, 3, 0, 0, 0), (52, .aload_n 0, 1, 0, 0, 0), (53, .iload_n 1, 1, 0, 0, 0), (54, .iconst 1, 1, 1, 0, 0), (55, .iadd, 1, 0, 0, 0), (56, .invokevirtual 23, 3, 30, 1, 7), (59, .bipush 61, 2, 61, 0, 0), (61, .if_icmp .eq 7, 3, 0, 0, 0)],
  [(64, .iconst 1, 1, 1, 0, 0), (65, .goto 4, 3, 0, 0, 0), (68, .iconst 0, 1, 0, 0, 0), (69, .ireturn, 1, 0, 0, 1), (70, .iload_n 2, 1, 0, 0, 0), (71, .bipush 63, 2, 63, 0, 0), (73, .if_icmp .eq 10, 3, 0, 0, 0), (76, .iload_n 2, 1, 0, 0, 0), (77, .invokestatic 31, 3, 31, 1, 0)],
  [(80, .ifCond .eq 7, 3, 0, 0, 0), (83, .iconst 1, 1, 1, 0, 0), (84, .goto 4, 3, 0, 0, 0), (87, .iconst 0, 1, 0, 0, 0), (88, .ireturn, 1, 0, 0, 1)]]
/-- WornSums.isFigureSign(I)Z -/
def pc_33 : List (List (Nat × smI)) := [[(0, .iload_n 0, 1, 0, 0, 0), (1, .bipush 48, 2, 48, 0, 0), (3, .if_icmp .lt 13, 3, 0, 0, 0), (6, .iload_n 0, 1, 0, 0, 0), (7, .bipush 57, 2, 57, 0, 0), (9, .if_icmp .gt 7, 3, 0, 0, 0), (12, .iconst 1, 1, 1, 0, 0), (13, .goto 4, 3, 0, 0, 0)],
  [(16, .iconst 0, 1, 0, 0, 0), (17, .ireturn, 1, 0, 0, 1)]]
/-- WornSums$Text.standsInFigures(IC)Z -/
def pc_34 : List (List (Nat × smI)) := [[(0, .iload_n 0, 1, 0, 0, 0), (1, .iconst 3, 1, 3, 0, 0), (2, .if_icmp .gt 20, 3, 0, 0, 0), (5, .iload_n 1, 1, 0, 0, 0), (6, .bipush 63, 2, 63, 0, 0), (8, .if_icmp .eq 10, 3, 0, 0, 0), (11, .iload_n 1, 1, 0, 0, 0), (12, .invokestatic 34, 3, 33, 1, 0), (15, .ifCond .eq 7, 3, 0, 0, 0)],
  [(18, .iconst 1, 1, 1, 0, 0), (19, .goto 4, 3, 0, 0, 0), (22, .iconst 0, 1, 0, 0, 0), (23, .ireturn, 1, 0, 0, 1)]]
/-- WornSums$Text.fault()I -/
def pc_35 : List (List (Nat × smI)) := [[(0, .bipush (-9), 2, 9, 1, 0), (2, .istore_n 1, 1, 0, 0, 0), (3, .iconst 0, 1, 0, 0, 0), (4, .istore_n 2, 1, 0, 0, 0), (5, .iload_n 2, 1, 0, 0, 0), (6, .aload_n 0, 1, 0, 0, 0), (7, .getfield 15, 3, 6, 1, 0), (10, .if_icmp .ge 53, 3, 0, 0, 0), (13, .iload_n 1, 1, 0, 0, 0), (14, .bipush (-9), 2, 9, 1, 0)],
  [(16, .if_icmp .ne 11, 3, 0, 0, 0), (19, .aload_n 0, 1, 0, 0, 0), (20, .iload_n 2, 1, 0, 0, 0), (21, .invokevirtual 19, 3, 32, 1, 7), (24, .goto 14, 3, 0, 0, 0), (27, .iload_n 2, 1, 0, 0, 0), (28, .iload_n 1, 1, 0, 0, 0), (29, .isub, 1, 0, 0, 0), (30, .aload_n 0, 1, 0, 0, 0), (31, .iload_n 2, 1, 0, 0, 0)],
  [(32, .invokevirtual 23, 3, 30, 1, 7), (35, .invokestatic 27, 3, 34, 2, 0), (38, .istore_n 3, 1, 0, 0, 0), (39, .iload_n 3, 1, 0, 0, 0), (40, .ifCond .ne 5, 3, 0, 0, 0), (43, .iload_n 2, 1, 0, 0, 0), (44, .ireturn, 1, 0, 0, 0), (45, .aload_n 0, 1, 0, 0, 0), (46, .iload_n 2, 1, 0, 0, 0), (47, .invokevirtual 23, 3, 30, 1, 7)],
  [(50, .bipush 61, 2, 61, 0, 0), (52, .if_icmp .ne 5, 3, 0, 0, 0), (55, .iload_n 2, 1, 0, 0, 0), (56, .istore_n 1, 1, 0, 0, 0), (57, .iinc 2 1, 3, 1, 0, 0), (60, .goto (-55), 3, 0, 0, 0), (63, .iload_n 1, 1, 0, 0, 0)],
  [(64, .bipush (-9), 2, 9, 1, 0), (66, .if_icmp .eq 13, 3, 0, 0, 0), (69, .iload_n 1, 1, 0, 0, 0), (70, .aload_n 0, 1, 0, 0, 0), (71, .getfield 15, 3, 6, 1, 0), (74, .iconst 1, 1, 1, 0, 0), (75, .isub, 1, 0, 0, 0), (76, .if_icmp .ne 7, 3, 0, 0, 0), (79, .iconst 1, 1, 1, 0, 0)],
  [(80, .goto 4, 3, 0, 0, 0), (83, .iconst 0, 1, 0, 0, 0), (84, .istore_n 2, 1, 0, 0, 0), (85, .iload_n 2, 1, 0, 0, 0), (86, .ifCond .eq 10, 3, 0, 0, 0), (89, .aload_n 0, 1, 0, 0, 0), (90, .getfield 15, 3, 6, 1, 0), (93, .goto 5, 3, 0, 0, 0)],
  [(96, .bipush (-9), 2, 9, 1, 0), (98, .ireturn, 1, 0, 0, 0)]]
/-- WornSums$Row.hasPlace(I)Z -/
def pc_36 : List (List (Nat × smI)) := [[(0, .iload_n 1, 1, 0, 0, 0), (1, .ifCond .lt 24, 3, 0, 0, 0), (4, .iload_n 1, 1, 0, 0, 0), (5, .aload_n 0, 1, 0, 0, 0), (6, .getfield 9, 3, 4, 1, 0), (9, .if_icmp .ge 16, 3, 0, 0, 0), (12, .iload_n 1, 1, 0, 0, 0), (13, .aload_n 0, 1, 0, 0, 0), (14, .getfield 21, 3, 4, 0, 1)],
  [(17, .arraylength, 1, 0, 0, 0), (18, .if_icmp .ge 7, 3, 0, 0, 0), (21, .iconst 1, 1, 1, 0, 0), (22, .goto 4, 3, 0, 0, 0), (25, .iconst 0, 1, 0, 0, 0), (26, .ireturn, 1, 0, 0, 1)]]
/-- WornSums$Row.at(I)C -/
def pc_37 : List (List (Nat × smI)) := [[(0, .aload_n 0, 1, 0, 0, 0), (1, .iload_n 1, 1, 0, 0, 0), (2, .invokevirtual 25, 3, 36, 1, 5), (5, .ifCond .eq 12, 3, 0, 0, 0), (8, .aload_n 0, 1, 0, 0, 0), (9, .getfield 21, 3, 4, 0, 1), (12, .iload_n 1, 1, 0, 0, 0), (13, .caload, 1, 0, 0, 0), (14, .goto 4, 3, 0, 0, 0)],
  [(17, .iconst 0, 1, 0, 0, 0), (18, .ireturn, 1, 0, 0, 2)]]
/-- WornSums$Row.put(IC)V -/
def pc_38 : List (List (Nat × smI)) := [[(0, .aload_n 0, 1, 0, 0, 0), (1, .iload_n 1, 1, 0, 0, 0), (2, .invokevirtual 25, 3, 36, 1, 5), (5, .ifCond .eq 10, 3, 0, 0, 0), (8, .aload_n 0, 1, 0, 0, 0), (9, .getfield 21, 3, 4, 0, 1), (12, .iload_n 1, 1, 0, 0, 0), (13, .iload_n 2, 1, 0, 0, 0), (14, .castore, 1, 0, 0, 0), (15, .return_, 1, 0, 0, 0)]]
/-- WornSums$Row.copyFrom(LWornSums$Row;)V -/
def pc_39 : List (List (Nat × smI)) := [[(0, .aload_n 0, 1, 0, 0, 0), (1, .aload_n 1, 1, 0, 0, 0), (2, .getfield 9, 3, 4, 1, 0), (5, .aload_n 0, 1, 0, 0, 0), (6, .getfield 21, 3, 4, 0, 1), (9, .arraylength, 1, 0, 0, 0), (10, .invokestatic 29, 3, 0, 0, 2), (13, .putfield 9, 3, 4, 1, 0)],
  [(16, .iconst 0, 1, 0, 0, 0), (17, .istore_n 2, 1, 0, 0, 0), (18, .iload_n 2, 1, 0, 0, 0), (19, .aload_n 0, 1, 0, 0, 0), (20, .getfield 9, 3, 4, 1, 0), (23, .if_icmp .ge 19, 3, 0, 0, 0), (26, .aload_n 0, 1, 0, 0, 0), (27, .iload_n 2, 1, 0, 0, 0), (28, .aload_n 1, 1, 0, 0, 0), (29, .iload_n 2, 1, 0, 0, 0), (30, .invokevirtual 42, 3, 37, 1, 5)],
  [(33, .invokevirtual 38, 3, 38, 2, 5), (36, .iinc 2 1, 3, 1, 0, 0), (39, .goto (-21), 3, 0, 0, 0), (42, .return_, 1, 0, 0, 0)]]
/-- WornSums$Sheet.copyFrom(LWornSums$Sheet;)V -/
def pc_40 : List (List (Nat × smI)) := [[(0, .aload_n 0, 1, 0, 0, 0), (1, .aload_n 1, 1, 0, 0, 0), (2, .getfield 22, 3, 5, 2, 0), (5, .bipush 6, 2, 6, 0, 0), (7, .invokestatic 70, 3, 0, 0, 2), (10, .putfield 22, 3, 5, 2, 0), (13, .aload_n 0, 1, 0, 0, 0), (14, .aload_n 1, 1, 0, 0, 0), (15, .getfield 26, 3, 5, 3, 0)],
  [(18, .putfield 26, 3, 5, 3, 0), (21, .aload_n 0, 1, 0, 0, 0), (22, .aload_n 1, 1, 0, 0, 0), (23, .getfield 29, 3, 5, 4, 0), (26, .putfield 29, 3, 5, 4, 0), (29, .iconst 0, 1, 0, 0, 0), (30, .istore_n 2, 1, 0, 0, 0), (31, .iload_n 2, 1, 0, 0, 0)],
  [(32, .aload_n 0, 1, 0, 0, 0), (33, .getfield 22, 3, 5, 2, 0), (36, .if_icmp .ge 39, 3, 0, 0, 0), (39, .aload_n 0, 1, 0, 0, 0), (40, .getfield 15, 3, 5, 0, 1), (43, .iload_n 2, 1, 0, 0, 0), (44, .aaload, 1, 0, 0, 0), (45, .aload_n 1, 1, 0, 0, 0), (46, .getfield 15, 3, 5, 0, 1)],
  [(49, .iload_n 2, 1, 0, 0, 0), (50, .aaload, 1, 0, 0, 0), (51, .invokevirtual 66, 3, 39, 1, 5), (54, .aload_n 0, 1, 0, 0, 0), (55, .getfield 19, 3, 5, 1, 1), (58, .iload_n 2, 1, 0, 0, 0), (59, .aaload, 1, 0, 0, 0), (60, .aload_n 1, 1, 0, 0, 0), (61, .getfield 19, 3, 5, 1, 1)],
  [(64, .iload_n 2, 1, 0, 0, 0), (65, .aaload, 1, 0, 0, 0), (66, .invokevirtual 66, 3, 39, 1, 5), (69, .iinc 2 1, 3, 1, 0, 0), (72, .goto (-41), 3, 0, 0, 0), (75, .return_, 1, 0, 0, 0)]]
/-- WornSums$History.remember(LWornSums$Sheet;)V -/
def pc_41 : List (List (Nat × smI)) := [[(0, .aload_n 0, 1, 0, 0, 0), (1, .getfield 13, 3, 2, 0, 1), (4, .aload_n 0, 1, 0, 0, 0), (5, .getfield 19, 3, 2, 1, 0), (8, .aaload, 1, 0, 0, 0), (9, .aload_n 1, 1, 0, 0, 0), (10, .invokevirtual 26, 3, 40, 1, 6), (13, .aload_n 0, 1, 0, 0, 0), (14, .aload_n 0, 1, 0, 0, 0), (15, .getfield 19, 3, 2, 1, 0)],
  [(18, .iconst 1, 1, 1, 0, 0), (19, .iadd, 1, 0, 0, 0), (20, .bipush 8, 2, 8, 0, 0), (22, .if_icmp .ge 12, 3, 0, 0, 0), (25, .aload_n 0, 1, 0, 0, 0), (26, .getfield 19, 3, 2, 1, 0), (29, .iconst 1, 1, 1, 0, 0), (30, .iadd, 1, 0, 0, 0), (31, .goto 4, 3, 0, 0, 0)],
  [(34, .iconst 0, 1, 0, 0, 0), (35, .putfield 19, 3, 2, 1, 0), (38, .aload_n 0, 1, 0, 0, 0), (39, .aload_n 0, 1, 0, 0, 0), (40, .getfield 23, 3, 2, 2, 0), (43, .iconst 1, 1, 1, 0, 0), (44, .iadd, 1, 0, 0, 0), (45, .bipush 8, 2, 8, 0, 0), (47, .invokestatic 32, 3, 0, 0, 2)],
  [(50, .putfield 23, 3, 2, 2, 0), (53, .return_, 1, 0, 0, 0)]]
/-- WornSums$Findings.forget()V -/
def pc_42 : List (List (Nat × smI)) := [[(0, .aload_n 0, 1, 0, 0, 0), (1, .iconst 0, 1, 0, 0, 0), (2, .putfield 17, 3, 1, 1, 2), (5, .aload_n 0, 1, 0, 0, 0), (6, .iconst 0, 1, 0, 0, 0), (7, .putfield 34, 3, 1, 5, 2), (10, .return_, 1, 0, 0, 0)]]
/-- WornSums.startChange()V -/
def pc_43 : List (List (Nat × smI)) := [[(0, .aload_n 0, 1, 0, 0, 0), (1, .getfield 26, 3, 7, 2, 1), (4, .aload_n 0, 1, 0, 0, 0), (5, .getfield 19, 3, 7, 1, 1), (8, .invokevirtual 197, 3, 41, 1, 3), (11, .aload_n 0, 1, 0, 0, 0), (12, .getfield 52, 3, 7, 6, 1), (15, .invokevirtual 122, 3, 42, 0, 2)],
  [(18, .return_, 1, 0, 0, 0)]]
/-- WornSums$Text.equalsPlace()I -/
def pc_44 : List (List (Nat × smI)) := [[(0, .iconst 0, 1, 0, 0, 0), (1, .istore_n 1, 1, 0, 0, 0), (2, .iload_n 1, 1, 0, 0, 0), (3, .aload_n 0, 1, 0, 0, 0), (4, .getfield 15, 3, 6, 1, 0), (7, .if_icmp .ge 21, 3, 0, 0, 0), (10, .aload_n 0, 1, 0, 0, 0), (11, .iload_n 1, 1, 0, 0, 0), (12, .invokevirtual 23, 3, 30, 1, 7), (15, .bipush 61, 2, 61, 0, 0)],
  [(17, .if_icmp .ne 5, 3, 0, 0, 0), (20, .iload_n 1, 1, 0, 0, 0), (21, .ireturn, 1, 0, 0, 0), (22, .iinc 1 1, 3, 1, 0, 0), (25, .goto (-23), 3, 0, 0, 0), (28, .aload_n 0, 1, 0, 0, 0), (29, .getfield 15, 3, 6, 1, 0)],
  [(32, .ireturn, 1, 0, 0, 0)]]
/-- WornSums$Row.takeFrom(LWornSums$Text;II)V -/
def pc_45 : List (List (Nat × smI)) := [[(0, .aload_n 0, 1, 0, 0, 0), (1, .iconst 0, 1, 0, 0, 0), (2, .iload_n 3, 1, 0, 0, 0), (3, .iload_n 2, 1, 0, 0, 0), (4, .isub, 1, 0, 0, 0), (5, .aload_n 0, 1, 0, 0, 0), (6, .getfield 21, 3, 4, 0, 1), (9, .arraylength, 1, 0, 0, 0), (10, .invokestatic 29, 3, 0, 0, 2), (13, .invokestatic 15, 3, 0, 0, 1)],
  [(16, .putfield 9, 3, 4, 1, 0), (19, .iconst 0, 1, 0, 0, 0), (20, .istore 4, 2, 0, 0, 0), (22, .iload 4, 2, 0, 0, 0), (24, .aload_n 0, 1, 0, 0, 0), (25, .getfield 9, 3, 4, 1, 0), (28, .if_icmp .ge 23, 3, 0, 0, 0), (31, .aload_n 0, 1, 0, 0, 0)],
  [(32, .iload 4, 2, 0, 0, 0), (34, .aload_n 1, 1, 0, 0, 0), (35, .iload_n 2, 1, 0, 0, 0), (36, .iload 4, 2, 0, 0, 0), (38, .iadd, 1, 0, 0, 0), (39, .invokevirtual 32, 3, 30, 1, 7), (42, .invokevirtual 38, 3, 38, 2, 5), (45, .iinc 4 1, 3, 1, 0, 0)],
  [(48, .goto (-26), 3, 0, 0, 0), (51, .return_, 1, 0, 0, 0)]]
/-- WornSums$Sheet.addEntry(LWornSums$Text;)V -/
def pc_46 : List (List (Nat × smI)) := [[(0, .aload_n 0, 1, 0, 0, 0), (1, .getfield 22, 3, 5, 2, 0), (4, .bipush 6, 2, 6, 0, 0), (6, .if_icmp .lt 4, 3, 0, 0, 0), (9, .return_, 1, 0, 0, 0), (10, .aload_n 1, 1, 0, 0, 0), (11, .invokevirtual 56, 3, 44, 0, 7), (14, .istore_n 2, 1, 0, 0, 0), (15, .aload_n 0, 1, 0, 0, 0)],
  [(16, .getfield 15, 3, 5, 0, 1), (19, .aload_n 0, 1, 0, 0, 0), (20, .getfield 22, 3, 5, 2, 0), (23, .aaload, 1, 0, 0, 0), (24, .aload_n 1, 1, 0, 0, 0), (25, .iconst 0, 1, 0, 0, 0), (26, .iload_n 2, 1, 0, 0, 0), (27, .invokevirtual 61, 3, 45, 3, 5), (30, .aload_n 0, 1, 0, 0, 0), (31, .getfield 19, 3, 5, 1, 1)],
  [(34, .aload_n 0, 1, 0, 0, 0), (35, .getfield 22, 3, 5, 2, 0), (38, .aaload, 1, 0, 0, 0), (39, .aload_n 1, 1, 0, 0, 0), (40, .iload_n 2, 1, 0, 0, 0), (41, .iconst 1, 1, 1, 0, 0), (42, .iadd, 1, 0, 0, 0), (43, .aload_n 1, 1, 0, 0, 0), (44, .getfield 65, 3, 6, 1, 0), (47, .invokevirtual 61, 3, 45, 3, 5)],
  [(50, .aload_n 0, 1, 0, 0, 0), (51, .dup, 1, 0, 0, 0), (52, .getfield 22, 3, 5, 2, 0), (55, .iconst 1, 1, 1, 0, 0), (56, .iadd, 1, 0, 0, 0), (57, .putfield 22, 3, 5, 2, 0), (60, .return_, 1, 0, 0, 0)]]
/-- WornSums.tells()I -/
def pc_47 : List (List (Nat × smI)) := [[(0, .aload_n 0, 1, 0, 0, 0), (1, .getfield 19, 3, 7, 1, 1), (4, .getfield 64, 3, 5, 2, 0), (7, .bipush 6, 2, 6, 0, 0), (9, .if_icmp .lt 6, 3, 0, 0, 0), (12, .bipush (-3), 2, 3, 1, 0), (14, .ireturn, 1, 0, 0, 0), (15, .aload_n 0, 1, 0, 0, 0)],
  [(16, .getfield 12, 3, 7, 0, 1), (19, .invokevirtual 67, 3, 35, 0, 7), (22, .istore_n 1, 1, 0, 0, 0), (23, .iload_n 1, 1, 0, 0, 0), (24, .bipush (-9), 2, 9, 1, 0), (26, .if_icmp .eq 8, 3, 0, 0, 0), (29, .bipush (-10), 2, 10, 1, 0), (31, .iload_n 1, 1, 0, 0, 0)],
  [(32, .isub, 1, 0, 0, 0), (33, .ireturn, 1, 0, 0, 0), (34, .aload_n 0, 1, 0, 0, 0), (35, .invokevirtual 71, 3, 43, 0, 8), (38, .aload_n 0, 1, 0, 0, 0), (39, .getfield 19, 3, 7, 1, 1), (42, .aload_n 0, 1, 0, 0, 0), (43, .getfield 12, 3, 7, 0, 1), (46, .invokevirtual 74, 3, 46, 1, 6)],
  [(49, .aload_n 0, 1, 0, 0, 0), (50, .getfield 12, 3, 7, 0, 1), (53, .iconst 0, 1, 0, 0, 0), (54, .putfield 60, 3, 6, 1, 0), (57, .aload_n 0, 1, 0, 0, 0), (58, .getfield 19, 3, 7, 1, 1), (61, .getfield 64, 3, 5, 2, 0)],
  [(64, .iconst 1, 1, 1, 0, 0), (65, .isub, 1, 0, 0, 0), (66, .ireturn, 1, 0, 0, 0)]]
/-- WornSums$Sheet.hasEntry(I)Z -/
def pc_48 : List (List (Nat × smI)) := [[(0, .iload_n 1, 1, 0, 0, 0), (1, .ifCond .lt 21, 3, 0, 0, 0), (4, .iload_n 1, 1, 0, 0, 0), (5, .aload_n 0, 1, 0, 0, 0), (6, .getfield 22, 3, 5, 2, 0), (9, .if_icmp .ge 13, 3, 0, 0, 0), (12, .iload_n 1, 1, 0, 0, 0), (13, .bipush 6, 2, 6, 0, 0), (15, .if_icmp .ge 7, 3, 0, 0, 0)],
  [(18, .iconst 1, 1, 1, 0, 0), (19, .goto 4, 3, 0, 0, 0), (22, .iconst 0, 1, 0, 0, 0), (23, .ireturn, 1, 0, 0, 1)]]
/-- WornSums$Sheet.removeEntry(I)V -/
def pc_49 : List (List (Nat × smI)) := [[(0, .aload_n 0, 1, 0, 0, 0), (1, .iload_n 1, 1, 0, 0, 0), (2, .invokevirtual 37, 3, 48, 1, 6), (5, .ifCond .ne 4, 3, 0, 0, 0), (8, .return_, 1, 0, 0, 0), (9, .iload_n 1, 1, 0, 0, 0), (10, .istore_n 2, 1, 0, 0, 0), (11, .iload_n 2, 1, 0, 0, 0), (12, .aload_n 0, 1, 0, 0, 0), (13, .getfield 22, 3, 5, 2, 0)],
  [(16, .iconst 1, 1, 1, 0, 0), (17, .isub, 1, 0, 0, 0), (18, .if_icmp .ge 48, 3, 0, 0, 0), (21, .iload_n 2, 1, 0, 0, 0), (22, .iconst 5, 1, 5, 0, 0), (23, .if_icmp .ge 43, 3, 0, 0, 0), (26, .aload_n 0, 1, 0, 0, 0), (27, .getfield 15, 3, 5, 0, 1), (30, .iload_n 2, 1, 0, 0, 0), (31, .aaload, 1, 0, 0, 0)],
  [(32, .aload_n 0, 1, 0, 0, 0), (33, .getfield 15, 3, 5, 0, 1), (36, .iload_n 2, 1, 0, 0, 0), (37, .iconst 1, 1, 1, 0, 0), (38, .iadd, 1, 0, 0, 0), (39, .aaload, 1, 0, 0, 0), (40, .invokevirtual 66, 3, 39, 1, 5), (43, .aload_n 0, 1, 0, 0, 0), (44, .getfield 19, 3, 5, 1, 1), (47, .iload_n 2, 1, 0, 0, 0)],
  [(48, .aaload, 1, 0, 0, 0), (49, .aload_n 0, 1, 0, 0, 0), (50, .getfield 19, 3, 5, 1, 1), (53, .iload_n 2, 1, 0, 0, 0), (54, .iconst 1, 1, 1, 0, 0), (55, .iadd, 1, 0, 0, 0), (56, .aaload, 1, 0, 0, 0), (57, .invokevirtual 66, 3, 39, 1, 5), (60, .iinc 2 1, 3, 1, 0, 0), (63, .goto (-52), 3, 0, 0, 0)],
  [(66, .aload_n 0, 1, 0, 0, 0), (67, .dup, 1, 0, 0, 0), (68, .getfield 22, 3, 5, 2, 0), (71, .iconst 1, 1, 1, 0, 0), (72, .isub, 1, 0, 0, 0), (73, .putfield 22, 3, 5, 2, 0), (76, .return_, 1, 0, 0, 0)]]
/-- WornSums.drops(I)I -/
def pc_50 : List (List (Nat × smI)) := [[(0, .aload_n 0, 1, 0, 0, 0), (1, .getfield 19, 3, 7, 1, 1), (4, .iload_n 1, 1, 0, 0, 0), (5, .invokevirtual 78, 3, 48, 1, 6), (8, .ifCond .ne 5, 3, 0, 0, 0), (11, .iconst (-1), 1, 1, 1, 0), (12, .ireturn, 1, 0, 0, 0), (13, .aload_n 0, 1, 0, 0, 0), (14, .invokevirtual 71, 3, 43, 0, 8)],
  [(17, .aload_n 0, 1, 0, 0, 0), (18, .getfield 19, 3, 7, 1, 1), (21, .iload_n 1, 1, 0, 0, 0), (22, .invokevirtual 82, 3, 49, 1, 6), (25, .aload_n 0, 1, 0, 0, 0), (26, .getfield 19, 3, 7, 1, 1), (29, .getfield 64, 3, 5, 2, 0)],
  [(32, .ireturn, 1, 0, 0, 0)]]
/-- WornSums$Sheet.rowOf(II)LWornSums$Row; -/
def pc_51 : List (List (Nat × smI)) := [[(0, .aload_n 0, 1, 0, 0, 0), (1, .iload_n 1, 1, 0, 0, 0), (2, .invokevirtual 37, 3, 48, 1, 6), (5, .ifCond .eq 12, 3, 0, 0, 0), (8, .iload_n 2, 1, 0, 0, 0), (9, .ifCond .lt 8, 3, 0, 0, 0), (12, .iload_n 2, 1, 0, 0, 0), (13, .iconst 1, 1, 1, 0, 0), (14, .if_icmp .le 5, 3, 0, 0, 0)],
  [(17, .aconst_null, 1, 0, 0, 0), (18, .areturn, 1, 0, 0, 0), (19, .iload_n 2, 1, 0, 0, 0), (20, .ifCond .ne 12, 3, 0, 0, 0), (23, .aload_n 0, 1, 0, 0, 0), (24, .getfield 15, 3, 5, 0, 1), (27, .iload_n 1, 1, 0, 0, 0), (28, .aaload, 1, 0, 0, 0), (29, .goto 9, 3, 0, 0, 0)],
  [(32, .aload_n 0, 1, 0, 0, 0), (33, .getfield 19, 3, 5, 1, 1), (36, .iload_n 1, 1, 0, 0, 0), (37, .aaload, 1, 0, 0, 0), (38, .areturn, 1, 0, 0, 0)]]
/-- WornSums.wears(III)I -/
def pc_52 : List (List (Nat × smI)) := [[(0, .aload_n 0, 1, 0, 0, 0), (1, .getfield 19, 3, 7, 1, 1), (4, .iload_n 1, 1, 0, 0, 0), (5, .iload_n 2, 1, 0, 0, 0), (6, .invokevirtual 86, 3, 51, 2, 6), (9, .astore 4, 2, 0, 0, 0), (11, .aload 4, 2, 0, 0, 0), (13, .ifnull 12, 3, 0, 0, 0)],
  [(16, .aload 4, 2, 0, 0, 0), (18, .iload_n 3, 1, 0, 0, 0), (19, .invokevirtual 90, 3, 36, 1, 5), (22, .ifCond .ne 5, 3, 0, 0, 0), (25, .iconst (-1), 1, 1, 1, 0), (26, .ireturn, 1, 0, 0, 0), (27, .aload 4, 2, 0, 0, 0), (29, .iload_n 3, 1, 0, 0, 0), (30, .invokevirtual 95, 3, 37, 1, 5)],
  [(33, .istore 5, 2, 0, 0, 0), (35, .iload 5, 2, 0, 0, 0), (37, .bipush 63, 2, 63, 0, 0), (39, .if_icmp .eq 10, 3, 0, 0, 0), (42, .iload 5, 2, 0, 0, 0), (44, .bipush 32, 2, 32, 0, 0), (46, .if_icmp .ne 6, 3, 0, 0, 0)],
  [(49, .bipush (-2), 2, 2, 1, 0), (51, .ireturn, 1, 0, 0, 0), (52, .aload_n 0, 1, 0, 0, 0), (53, .invokevirtual 71, 3, 43, 0, 8), (56, .aload 4, 2, 0, 0, 0), (58, .iload_n 3, 1, 0, 0, 0), (59, .bipush 63, 2, 63, 0, 0), (61, .invokevirtual 99, 3, 38, 2, 5)],
  [(64, .iload 5, 2, 0, 0, 0), (66, .ireturn, 1, 0, 0, 0)]]
/-- WornSums.canBeMadeOut(II)Z -/
def pc_53 : List (List (Nat × smI)) := [[(0, .iload_n 0, 1, 0, 0, 0), (1, .ifCond .ne 10, 3, 0, 0, 0), (4, .iload_n 1, 1, 0, 0, 0), (5, .invokestatic 203, 3, 31, 1, 0), (8, .goto 7, 3, 0, 0, 0), (11, .iload_n 1, 1, 0, 0, 0), (12, .invokestatic 206, 3, 33, 1, 0), (15, .ireturn, 1, 0, 0, 1)]]
/-- WornSums$Row.worn()I -/
def pc_54 : List (List (Nat × smI)) := [[(0, .iconst 0, 1, 0, 0, 0), (1, .istore_n 1, 1, 0, 0, 0), (2, .iconst 0, 1, 0, 0, 0), (3, .istore_n 2, 1, 0, 0, 0), (4, .iload_n 2, 1, 0, 0, 0), (5, .aload_n 0, 1, 0, 0, 0), (6, .getfield 9, 3, 4, 1, 0), (9, .if_icmp .ge 22, 3, 0, 0, 0), (12, .aload_n 0, 1, 0, 0, 0), (13, .iload_n 2, 1, 0, 0, 0), (14, .invokevirtual 42, 3, 37, 1, 5)],
  [(17, .bipush 63, 2, 63, 0, 0), (19, .if_icmp .ne 6, 3, 0, 0, 0), (22, .iinc 1 1, 3, 1, 0, 0), (25, .iinc 2 1, 3, 1, 0, 0), (28, .goto (-24), 3, 0, 0, 0), (31, .iload_n 1, 1, 0, 0, 0)],
  [(32, .ireturn, 1, 0, 0, 0)]]
/-- WornSums$Sheet.wornIn(I)I -/
def pc_55 : List (List (Nat × smI)) := [[(0, .aload_n 0, 1, 0, 0, 0), (1, .iload_n 1, 1, 0, 0, 0), (2, .invokevirtual 37, 3, 48, 1, 6), (5, .ifCond .eq 25, 3, 0, 0, 0), (8, .aload_n 0, 1, 0, 0, 0), (9, .getfield 15, 3, 5, 0, 1), (12, .iload_n 1, 1, 0, 0, 0), (13, .aaload, 1, 0, 0, 0), (14, .invokevirtual 48, 3, 54, 0, 5)],
  [(17, .aload_n 0, 1, 0, 0, 0), (18, .getfield 19, 3, 5, 1, 1), (21, .iload_n 1, 1, 0, 0, 0), (22, .aaload, 1, 0, 0, 0), (23, .invokevirtual 48, 3, 54, 0, 5), (26, .iadd, 1, 0, 0, 0), (27, .goto 4, 3, 0, 0, 0), (30, .iconst 0, 1, 0, 0, 0), (31, .ireturn, 1, 0, 0, 0)]]
/-- WornSums.makes(IIII)I -/
def pc_56 : List (List (Nat × smI)) := [[(0, .aload_n 0, 1, 0, 0, 0), (1, .getfield 19, 3, 7, 1, 1), (4, .iload_n 1, 1, 0, 0, 0), (5, .iload_n 2, 1, 0, 0, 0), (6, .invokevirtual 86, 3, 51, 2, 6), (9, .astore 5, 2, 0, 0, 0), (11, .aload 5, 2, 0, 0, 0), (13, .ifnull 21, 3, 0, 0, 0)],
  [(16, .aload 5, 2, 0, 0, 0), (18, .iload_n 3, 1, 0, 0, 0), (19, .invokevirtual 90, 3, 36, 1, 5), (22, .ifCond .eq 12, 3, 0, 0, 0), (25, .iload_n 2, 1, 0, 0, 0), (26, .iload 4, 2, 0, 0, 0), (28, .invokestatic 103, 3, 53, 2, 0), (31, .ifCond .ne 5, 3, 0, 0, 0)],
  [(34, .iconst (-1), 1, 1, 1, 0), (35, .ireturn, 1, 0, 0, 0), (36, .aload 5, 2, 0, 0, 0), (38, .iload_n 3, 1, 0, 0, 0), (39, .invokevirtual 95, 3, 37, 1, 5), (42, .bipush 63, 2, 63, 0, 0), (44, .if_icmp .eq 6, 3, 0, 0, 0), (47, .bipush (-2), 2, 2, 1, 0)],
  [(49, .ireturn, 1, 0, 0, 0), (50, .aload_n 0, 1, 0, 0, 0), (51, .invokevirtual 71, 3, 43, 0, 8), (54, .aload 5, 2, 0, 0, 0), (56, .iload_n 3, 1, 0, 0, 0), (57, .iload 4, 2, 0, 0, 0), (59, .i2c, 1, 0, 0, 0), (60, .invokevirtual 99, 3, 38, 2, 5), (63, .aload_n 0, 1, 0, 0, 0)],
  [(64, .getfield 19, 3, 7, 1, 1), (67, .iload_n 1, 1, 0, 0, 0), (68, .invokevirtual 107, 3, 55, 1, 6), (71, .ireturn, 1, 0, 0, 0)]]
/-- WornSums.slacks(I)I -/
def pc_57 : List (List (Nat × smI)) := [[(0, .iload_n 1, 1, 0, 0, 0), (1, .ifCond .lt 8, 3, 0, 0, 0), (4, .iload_n 1, 1, 0, 0, 0), (5, .iconst 2, 1, 2, 0, 0), (6, .if_icmp .le 5, 3, 0, 0, 0), (9, .iconst (-1), 1, 1, 1, 0), (10, .ireturn, 1, 0, 0, 0), (11, .aload_n 0, 1, 0, 0, 0), (12, .getfield 19, 3, 7, 1, 1), (15, .getfield 111, 3, 5, 3, 0)],
  [(18, .istore_n 2, 1, 0, 0, 0), (19, .iload_n 1, 1, 0, 0, 0), (20, .iload_n 2, 1, 0, 0, 0), (21, .if_icmp .ne 6, 3, 0, 0, 0), (24, .bipush (-2), 2, 2, 1, 0), (26, .ireturn, 1, 0, 0, 0), (27, .aload_n 0, 1, 0, 0, 0), (28, .invokevirtual 71, 3, 43, 0, 8), (31, .aload_n 0, 1, 0, 0, 0)],
  [(32, .getfield 19, 3, 7, 1, 1), (35, .iload_n 1, 1, 0, 0, 0), (36, .putfield 111, 3, 5, 3, 0), (39, .iload_n 2, 1, 0, 0, 0), (40, .ireturn, 1, 0, 0, 0)]]
/-- WornSums.totals(I)I -/
def pc_58 : List (List (Nat × smI)) := [[(0, .iload_n 1, 1, 0, 0, 0), (1, .bipush (-9), 2, 9, 1, 0), (3, .if_icmp .eq 16, 3, 0, 0, 0), (6, .iload_n 1, 1, 0, 0, 0), (7, .ifCond .lt 10, 3, 0, 0, 0), (10, .iload_n 1, 1, 0, 0, 0), (11, .sipush 9999, 3, 9999, 0, 0), (14, .if_icmp .le 5, 3, 0, 0, 0)],
  [(17, .iconst (-1), 1, 1, 1, 0), (18, .ireturn, 1, 0, 0, 0), (19, .aload_n 0, 1, 0, 0, 0), (20, .getfield 19, 3, 7, 1, 1), (23, .getfield 114, 3, 5, 4, 0), (26, .istore_n 2, 1, 0, 0, 0), (27, .iload_n 1, 1, 0, 0, 0), (28, .iload_n 2, 1, 0, 0, 0), (29, .if_icmp .ne 6, 3, 0, 0, 0)],
  [(32, .bipush (-2), 2, 2, 1, 0), (34, .ireturn, 1, 0, 0, 0), (35, .aload_n 0, 1, 0, 0, 0), (36, .invokevirtual 71, 3, 43, 0, 8), (39, .aload_n 0, 1, 0, 0, 0), (40, .getfield 19, 3, 7, 1, 1), (43, .iload_n 1, 1, 0, 0, 0), (44, .putfield 114, 3, 5, 4, 0), (47, .iload_n 2, 1, 0, 0, 0)],
  [(48, .ireturn, 1, 0, 0, 0)]]
/-- WornSums$History.takeBack(LWornSums$Sheet;)V -/
def pc_59 : List (List (Nat × smI)) := [[(0, .aload_n 0, 1, 0, 0, 0), (1, .getfield 23, 3, 2, 2, 0), (4, .ifCond .ne 4, 3, 0, 0, 0), (7, .return_, 1, 0, 0, 0), (8, .aload_n 0, 1, 0, 0, 0), (9, .aload_n 0, 1, 0, 0, 0), (10, .getfield 19, 3, 2, 1, 0), (13, .ifCond .le 12, 3, 0, 0, 0)],
  [(16, .aload_n 0, 1, 0, 0, 0), (17, .getfield 19, 3, 2, 1, 0), (20, .iconst 1, 1, 1, 0, 0), (21, .isub, 1, 0, 0, 0), (22, .goto 5, 3, 0, 0, 0), (25, .bipush 7, 2, 7, 0, 0), (27, .putfield 19, 3, 2, 1, 0), (30, .aload_n 1, 1, 0, 0, 0), (31, .aload_n 0, 1, 0, 0, 0)],
  [(32, .getfield 13, 3, 2, 0, 1), (35, .aload_n 0, 1, 0, 0, 0), (36, .getfield 19, 3, 2, 1, 0), (39, .aaload, 1, 0, 0, 0), (40, .invokevirtual 26, 3, 40, 1, 6), (43, .aload_n 0, 1, 0, 0, 0), (44, .dup, 1, 0, 0, 0), (45, .getfield 23, 3, 2, 2, 0)],
  [(48, .iconst 1, 1, 1, 0, 0), (49, .isub, 1, 0, 0, 0), (50, .putfield 23, 3, 2, 2, 0), (53, .return_, 1, 0, 0, 0)]]
/-- WornSums.undo()I -/
def pc_60 : List (List (Nat × smI)) := [[(0, .aload_n 0, 1, 0, 0, 0), (1, .getfield 26, 3, 7, 2, 1), (4, .getfield 117, 3, 2, 2, 0), (7, .ifCond .ne 6, 3, 0, 0, 0), (10, .bipush (-2), 2, 2, 1, 0), (12, .ireturn, 1, 0, 0, 0), (13, .aload_n 0, 1, 0, 0, 0), (14, .getfield 26, 3, 7, 2, 1)],
  [(17, .aload_n 0, 1, 0, 0, 0), (18, .getfield 19, 3, 7, 1, 1), (21, .invokevirtual 118, 3, 59, 1, 3), (24, .aload_n 0, 1, 0, 0, 0), (25, .getfield 52, 3, 7, 6, 1), (28, .invokevirtual 122, 3, 42, 0, 2), (31, .aload_n 0, 1, 0, 0, 0)],
  [(32, .getfield 26, 3, 7, 2, 1), (35, .getfield 117, 3, 2, 2, 0), (38, .ireturn, 1, 0, 0, 0)]]
/-- WornSums$Sheet.lengthOf(II)I -/
def pc_61 : List (List (Nat × smI)) := [[(0, .aload_n 0, 1, 0, 0, 0), (1, .iload_n 1, 1, 0, 0, 0), (2, .iload_n 2, 1, 0, 0, 0), (3, .invokevirtual 41, 3, 51, 2, 6), (6, .astore_n 3, 1, 0, 0, 0), (7, .aload_n 3, 1, 0, 0, 0), (8, .ifnonnull 7, 3, 0, 0, 0), (11, .iconst 0, 1, 0, 0, 0), (12, .goto 7, 3, 0, 0, 0), (15, .aload_n 3, 1, 0, 0, 0)],
  [(16, .getfield 45, 3, 4, 1, 0), (19, .ireturn, 1, 0, 0, 0)]]
/-- WornSums$NumberWords.doubtOf(LWornSums$Row;II)I -/
def pc_62 : List (List (Nat × smI)) := [[(0, .aload_n 1, 1, 0, 0, 0), (1, .getfield 77, 3, 4, 1, 0), (4, .aload_n 0, 1, 0, 0, 0), (5, .iload_n 3, 1, 0, 0, 0), (6, .invokevirtual 65, 3, 16, 1, 4), (9, .if_icmp .eq 6, 3, 0, 0, 0), (12, .bipush (-9), 2, 9, 1, 0), (14, .ireturn, 1, 0, 0, 0), (15, .iconst 0, 1, 0, 0, 0)],
  [(16, .istore 4, 2, 0, 0, 0), (18, .iconst 0, 1, 0, 0, 0), (19, .istore 5, 2, 0, 0, 0), (21, .iconst 0, 1, 0, 0, 0), (22, .istore 6, 2, 0, 0, 0), (24, .iload 6, 2, 0, 0, 0), (26, .aload_n 1, 1, 0, 0, 0), (27, .getfield 77, 3, 4, 1, 0), (30, .if_icmp .ge 82, 3, 0, 0, 0)],
  [(33, .aload_n 1, 1, 0, 0, 0), (34, .iload 6, 2, 0, 0, 0), (36, .invokevirtual 82, 3, 37, 1, 5), (39, .istore 7, 2, 0, 0, 0), (41, .aload_n 0, 1, 0, 0, 0), (42, .iload_n 3, 1, 0, 0, 0), (43, .iload 6, 2, 0, 0, 0), (45, .invokevirtual 69, 3, 17, 2, 4)],
  [(48, .istore 8, 2, 0, 0, 0), (50, .iload 7, 2, 0, 0, 0), (52, .bipush 32, 2, 32, 0, 0), (54, .if_icmp .ne 7, 3, 0, 0, 0), (57, .iconst 1, 1, 1, 0, 0), (58, .goto 4, 3, 0, 0, 0), (61, .iconst 0, 1, 0, 0, 0), (62, .iload 8, 2, 0, 0, 0)],
  [(64, .bipush 32, 2, 32, 0, 0), (66, .if_icmp .ne 7, 3, 0, 0, 0), (69, .iconst 1, 1, 1, 0, 0), (70, .goto 4, 3, 0, 0, 0), (73, .iconst 0, 1, 0, 0, 0), (74, .if_icmp .eq 6, 3, 0, 0, 0), (77, .bipush (-9), 2, 9, 1, 0), (79, .ireturn, 1, 0, 0, 0)],
  [(80, .iload 7, 2, 0, 0, 0), (82, .bipush 63, 2, 63, 0, 0), (84, .if_icmp .ne 9, 3, 0, 0, 0), (87, .iinc 4 1, 3, 1, 0, 0), (90, .goto 16, 3, 0, 0, 0), (93, .iload 7, 2, 0, 0, 0), (95, .iload 8, 2, 0, 0, 0)],
  [(97, .if_icmp .eq 9, 3, 0, 0, 0), (100, .iinc 4 3, 3, 3, 0, 0), (103, .iinc 5 1, 3, 1, 0, 0), (106, .iinc 6 1, 3, 1, 0, 0), (109, .goto (-85), 3, 0, 0, 0)],
  [(112, .iload 5, 2, 0, 0, 0), (114, .iload_n 2, 1, 0, 0, 0), (115, .if_icmp .gt 8, 3, 0, 0, 0), (118, .iload 4, 2, 0, 0, 0), (120, .goto 5, 3, 0, 0, 0), (123, .bipush (-9), 2, 9, 1, 0), (125, .ireturn, 1, 0, 0, 0)]]
/-- WornSums$Figures.lengthOf(I)I -/
def pc_63 : List (List (Nat × smI)) := [[(0, .iload_n 0, 1, 0, 0, 0), (1, .bipush 10, 2, 10, 0, 0), (3, .if_icmp .ge 5, 3, 0, 0, 0), (6, .iconst 1, 1, 1, 0, 0), (7, .ireturn, 1, 0, 0, 0), (8, .iload_n 0, 1, 0, 0, 0), (9, .bipush 100, 2, 100, 0, 0), (11, .if_icmp .ge 7, 3, 0, 0, 0), (14, .iconst 2, 1, 2, 0, 0), (15, .goto 4, 3, 0, 0, 0)],
  [(18, .iconst 3, 1, 3, 0, 0), (19, .ireturn, 1, 0, 0, 0)]]
/-- WornSums$Figures.areAlike(II)Z -/
def pc_64 : List (List (Nat × smI)) := [[(0, .iload_n 0, 1, 0, 0, 0), (1, .iload_n 1, 1, 0, 0, 0), (2, .invokestatic 29, 3, 0, 0, 2), (5, .istore_n 2, 1, 0, 0, 0), (6, .iload_n 0, 1, 0, 0, 0), (7, .iload_n 1, 1, 0, 0, 0), (8, .invokestatic 35, 3, 0, 0, 1), (11, .istore_n 3, 1, 0, 0, 0), (12, .iconst 0, 1, 0, 0, 0), (13, .istore 4, 2, 0, 0, 0), (15, .iload 4, 2, 0, 0, 0)],
  [(17, .iconst 1, 1, 1, 0, 0), (18, .iadd, 1, 0, 0, 0), (19, .ldc 38, 2, 5, 0, 1), (21, .invokevirtual 40, 3, 7, 0, 0), (24, .if_icmp .ge 35, 3, 0, 0, 0), (27, .ldc 38, 2, 5, 0, 1), (29, .iload 4, 2, 0, 0, 0), (31, .invokevirtual 45, 3, 12, 1, 0)],
  [(34, .iload_n 2, 1, 0, 0, 0), (35, .if_icmp .ne 18, 3, 0, 0, 0), (38, .ldc 38, 2, 5, 0, 1), (40, .iload 4, 2, 0, 0, 0), (42, .iconst 1, 1, 1, 0, 0), (43, .iadd, 1, 0, 0, 0), (44, .invokevirtual 45, 3, 12, 1, 0), (47, .iload_n 3, 1, 0, 0, 0)],
  [(48, .if_icmp .ne 5, 3, 0, 0, 0), (51, .iconst 1, 1, 1, 0, 0), (52, .ireturn, 1, 0, 0, 1), (53, .iinc 4 2, 3, 2, 0, 0), (56, .goto (-41), 3, 0, 0, 0), (59, .iconst 0, 1, 0, 0, 0), (60, .ireturn, 1, 0, 0, 1)]]
/-- WornSums$Figures.doubtOf(LWornSums$Row;I)I -/
def pc_65 : List (List (Nat × smI)) := [[(0, .aload_n 0, 1, 0, 0, 0), (1, .getfield 9, 3, 4, 1, 0), (4, .iload_n 1, 1, 0, 0, 0), (5, .invokestatic 15, 3, 63, 1, 0), (8, .if_icmp .eq 6, 3, 0, 0, 0), (11, .bipush (-9), 2, 9, 1, 0), (13, .ireturn, 1, 0, 0, 0), (14, .iconst 0, 1, 0, 0, 0), (15, .istore_n 2, 1, 0, 0, 0)],
  [(16, .iload_n 1, 1, 0, 0, 0), (17, .istore_n 3, 1, 0, 0, 0), (18, .aload_n 0, 1, 0, 0, 0), (19, .getfield 9, 3, 4, 1, 0), (22, .iconst 1, 1, 1, 0, 0), (23, .isub, 1, 0, 0, 0), (24, .istore 4, 2, 0, 0, 0), (26, .iload 4, 2, 0, 0, 0), (28, .ifCond .lt 70, 3, 0, 0, 0), (31, .aload_n 0, 1, 0, 0, 0)],
  [(32, .iload 4, 2, 0, 0, 0), (34, .invokevirtual 21, 3, 37, 1, 5), (37, .istore 5, 2, 0, 0, 0), (39, .bipush 48, 2, 48, 0, 0), (41, .iload_n 3, 1, 0, 0, 0), (42, .bipush 10, 2, 10, 0, 0), (44, .irem, 1, 0, 0, 0), (45, .iadd, 1, 0, 0, 0), (46, .istore 6, 2, 0, 0, 0)],
  [(48, .iload_n 3, 1, 0, 0, 0), (49, .bipush 10, 2, 10, 0, 0), (51, .idiv, 1, 0, 0, 0), (52, .istore_n 3, 1, 0, 0, 0), (53, .iload 5, 2, 0, 0, 0), (55, .bipush 63, 2, 63, 0, 0), (57, .if_icmp .ne 9, 3, 0, 0, 0), (60, .iinc 2 1, 3, 1, 0, 0), (63, .goto 29, 3, 0, 0, 0)],
  [(66, .iload 5, 2, 0, 0, 0), (68, .iload 6, 2, 0, 0, 0), (70, .invokestatic 25, 3, 64, 2, 0), (73, .ifCond .eq 9, 3, 0, 0, 0), (76, .iinc 2 2, 3, 2, 0, 0), (79, .goto 13, 3, 0, 0, 0)],
  [(82, .iload 5, 2, 0, 0, 0), (84, .iload 6, 2, 0, 0, 0), (86, .if_icmp .eq 6, 3, 0, 0, 0), (89, .bipush (-9), 2, 9, 1, 0), (91, .ireturn, 1, 0, 0, 0), (92, .iinc 4 (-1), 3, 1, 1, 0), (95, .goto (-69), 3, 0, 0, 0)],
  [(98, .iload_n 2, 1, 0, 0, 0), (99, .ireturn, 1, 0, 0, 0)]]
/-- WornSums$Agreeing.add(II)V -/
def pc_66 : List (List (Nat × smI)) := [[(0, .aload_n 0, 1, 0, 0, 0), (1, .getfield 18, 3, 0, 2, 0), (4, .aload_n 0, 1, 0, 0, 0), (5, .getfield 9, 3, 0, 0, 1), (8, .arraylength, 1, 0, 0, 0), (9, .if_icmp .ge 45, 3, 0, 0, 0), (12, .aload_n 0, 1, 0, 0, 0), (13, .getfield 18, 3, 0, 2, 0)],
  [(16, .aload_n 0, 1, 0, 0, 0), (17, .getfield 15, 3, 0, 1, 1), (20, .arraylength, 1, 0, 0, 0), (21, .if_icmp .ge 33, 3, 0, 0, 0), (24, .aload_n 0, 1, 0, 0, 0), (25, .getfield 9, 3, 0, 0, 1), (28, .aload_n 0, 1, 0, 0, 0), (29, .getfield 18, 3, 0, 2, 0)],
  [(32, .iload_n 1, 1, 0, 0, 0), (33, .iastore, 1, 0, 0, 0), (34, .aload_n 0, 1, 0, 0, 0), (35, .getfield 15, 3, 0, 1, 1), (38, .aload_n 0, 1, 0, 0, 0), (39, .getfield 18, 3, 0, 2, 0), (42, .iload_n 2, 1, 0, 0, 0), (43, .iastore, 1, 0, 0, 0), (44, .aload_n 0, 1, 0, 0, 0), (45, .dup, 1, 0, 0, 0), (46, .getfield 18, 3, 0, 2, 0)],
  [(49, .iconst 1, 1, 1, 0, 0), (50, .iadd, 1, 0, 0, 0), (51, .putfield 18, 3, 0, 2, 0), (54, .return_, 1, 0, 0, 0)]]
/-- WornSums$Agreeing.find(LWornSums$Row;LWornSums$Row;ILWornSums$NumberWords;)V -/
def pc_67 : List (List (Nat × smI)) := [[(0, .aload_n 0, 1, 0, 0, 0), (1, .iconst 0, 1, 0, 0, 0), (2, .putfield 18, 3, 0, 2, 0), (5, .aload_n 0, 1, 0, 0, 0), (6, .iconst 0, 1, 0, 0, 0), (7, .putfield 22, 3, 0, 3, 0), (10, .aload_n 0, 1, 0, 0, 0), (11, .iconst 0, 1, 0, 0, 0), (12, .putfield 25, 3, 0, 4, 0), (15, .iconst 0, 1, 0, 0, 0)],
  [(16, .istore 5, 2, 0, 0, 0), (18, .iload 5, 2, 0, 0, 0), (20, .sipush 1000, 3, 1000, 0, 0), (23, .if_icmp .ge 87, 3, 0, 0, 0), (26, .aload 4, 2, 0, 0, 0), (28, .aload_n 1, 1, 0, 0, 0), (29, .iload_n 3, 1, 0, 0, 0), (30, .iload 5, 2, 0, 0, 0)],
  [(32, .invokevirtual 28, 3, 62, 3, 4), (35, .istore 6, 2, 0, 0, 0), (37, .aload_n 2, 1, 0, 0, 0), (38, .iload 5, 2, 0, 0, 0), (40, .invokestatic 34, 3, 65, 2, 0), (43, .istore 7, 2, 0, 0, 0), (45, .iload 6, 2, 0, 0, 0), (47, .bipush (-9), 2, 9, 1, 0)],
  [(49, .if_icmp .eq 13, 3, 0, 0, 0), (52, .aload_n 0, 1, 0, 0, 0), (53, .dup, 1, 0, 0, 0), (54, .getfield 22, 3, 0, 3, 0), (57, .iconst 1, 1, 1, 0, 0), (58, .iadd, 1, 0, 0, 0), (59, .putfield 22, 3, 0, 3, 0), (62, .iload 7, 2, 0, 0, 0)],
  [(64, .bipush (-9), 2, 9, 1, 0), (66, .if_icmp .eq 13, 3, 0, 0, 0), (69, .aload_n 0, 1, 0, 0, 0), (70, .dup, 1, 0, 0, 0), (71, .getfield 25, 3, 0, 4, 0), (74, .iconst 1, 1, 1, 0, 0), (75, .iadd, 1, 0, 0, 0), (76, .putfield 25, 3, 0, 4, 0), (79, .iload 6, 2, 0, 0, 0)],
  [(81, .bipush (-9), 2, 9, 1, 0), (83, .if_icmp .eq 21, 3, 0, 0, 0), (86, .iload 7, 2, 0, 0, 0), (88, .bipush (-9), 2, 9, 1, 0), (90, .if_icmp .eq 14, 3, 0, 0, 0), (93, .aload_n 0, 1, 0, 0, 0), (94, .iload 5, 2, 0, 0, 0)],
  [(96, .iload 6, 2, 0, 0, 0), (98, .iload 7, 2, 0, 0, 0), (100, .iadd, 1, 0, 0, 0), (101, .invokevirtual 39, 3, 66, 2, 1), (104, .iinc 5 1, 3, 1, 0, 0), (107, .goto (-89), 3, 0, 0, 0), (110, .return_, 1, 0, 0, 0)]]
/-- WornSums$Findings.refresh(LWornSums$Sheet;LWornSums$NumberWords;)V -/
def pc_68 : List (List (Nat × smI)) := [[(0, .aload_n 0, 1, 0, 0, 0), (1, .getfield 17, 3, 1, 1, 0), (4, .ifCond .eq 4, 3, 0, 0, 0), (7, .return_, 1, 0, 0, 0), (8, .iconst 0, 1, 0, 0, 0), (9, .istore_n 3, 1, 0, 0, 0), (10, .iload_n 3, 1, 0, 0, 0), (11, .aload_n 1, 1, 0, 0, 0), (12, .getfield 45, 3, 5, 2, 0), (15, .if_icmp .ge 41, 3, 0, 0, 0)],
  [(18, .iload_n 3, 1, 0, 0, 0), (19, .bipush 6, 2, 6, 0, 0), (21, .if_icmp .ge 35, 3, 0, 0, 0), (24, .aload_n 0, 1, 0, 0, 0), (25, .getfield 11, 3, 1, 0, 1), (28, .iload_n 3, 1, 0, 0, 0), (29, .aaload, 1, 0, 0, 0), (30, .aload_n 1, 1, 0, 0, 0), (31, .getfield 50, 3, 5, 0, 1)],
  [(34, .iload_n 3, 1, 0, 0, 0), (35, .aaload, 1, 0, 0, 0), (36, .aload_n 1, 1, 0, 0, 0), (37, .getfield 54, 3, 5, 1, 1), (40, .iload_n 3, 1, 0, 0, 0), (41, .aaload, 1, 0, 0, 0), (42, .aload_n 1, 1, 0, 0, 0), (43, .getfield 57, 3, 5, 3, 0), (46, .aload_n 2, 1, 0, 0, 0), (47, .invokevirtual 60, 3, 67, 4, 1)],
  [(50, .iinc 3 1, 3, 1, 0, 0), (53, .goto (-43), 3, 0, 0, 0), (56, .aload_n 0, 1, 0, 0, 0), (57, .iconst 1, 1, 1, 0, 0), (58, .putfield 17, 3, 1, 1, 2), (61, .return_, 1, 0, 0, 0)]]
/-- WornSums$Findings.agreeingAt(I)LWornSums$Agreeing; -/
def pc_69 : List (List (Nat × smI)) := [[(0, .aload_n 0, 1, 0, 0, 0), (1, .getfield 11, 3, 1, 0, 1), (4, .iload_n 1, 1, 0, 0, 0), (5, .ifCond .lt 13, 3, 0, 0, 0), (8, .iload_n 1, 1, 0, 0, 0), (9, .bipush 6, 2, 6, 0, 0), (11, .if_icmp .ge 7, 3, 0, 0, 0), (14, .iload_n 1, 1, 0, 0, 0), (15, .goto 4, 3, 0, 0, 0)],
  [(18, .iconst 0, 1, 0, 0, 0), (19, .aaload, 1, 0, 0, 0), (20, .areturn, 1, 0, 0, 0)]]
/-- WornSums.agreeingOf(I)LWornSums$Agreeing; -/
def pc_70 : List (List (Nat × smI)) := [[(0, .aload_n 0, 1, 0, 0, 0), (1, .getfield 52, 3, 7, 6, 1), (4, .aload_n 0, 1, 0, 0, 0), (5, .getfield 19, 3, 7, 1, 1), (8, .aload_n 0, 1, 0, 0, 0), (9, .getfield 45, 3, 7, 5, 1), (12, .invokevirtual 177, 3, 68, 2, 2), (15, .aload_n 0, 1, 0, 0, 0)],
  [(16, .getfield 52, 3, 7, 6, 1), (19, .iload_n 1, 1, 0, 0, 0), (20, .invokevirtual 200, 3, 69, 1, 2), (23, .areturn, 1, 0, 0, 0)]]
/-- WornSums.entry(II)I -/
def pc_71 : List (List (Nat × smI)) := [[(0, .aload_n 0, 1, 0, 0, 0), (1, .getfield 19, 3, 7, 1, 1), (4, .iload_n 1, 1, 0, 0, 0), (5, .invokevirtual 78, 3, 48, 1, 6), (8, .ifCond .ne 5, 3, 0, 0, 0), (11, .iconst (-1), 1, 1, 1, 0), (12, .ireturn, 1, 0, 0, 0), (13, .iload_n 2, 1, 0, 0, 0), (14, .tableswitch 94 0 5 #[38, 48, 58, 67, 76, 85], 38, 0, 0, 0)],
  [],
  [],
  [(52, .aload_n 0, 1, 0, 0, 0), (53, .getfield 19, 3, 7, 1, 1), (56, .iload_n 1, 1, 0, 0, 0), (57, .iconst 0, 1, 0, 0, 0), (58, .invokevirtual 125, 3, 61, 2, 6), (61, .ireturn, 1, 0, 0, 0), (62, .aload_n 0, 1, 0, 0, 0), (63, .getfield 19, 3, 7, 1, 1)],
  [(66, .iload_n 1, 1, 0, 0, 0), (67, .iconst 1, 1, 1, 0, 0), (68, .invokevirtual 125, 3, 61, 2, 6), (71, .ireturn, 1, 0, 0, 0), (72, .aload_n 0, 1, 0, 0, 0), (73, .getfield 19, 3, 7, 1, 1), (76, .iload_n 1, 1, 0, 0, 0), (77, .invokevirtual 107, 3, 55, 1, 6)],
  [(80, .ireturn, 1, 0, 0, 0), (81, .aload_n 0, 1, 0, 0, 0), (82, .iload_n 1, 1, 0, 0, 0), (83, .invokevirtual 129, 3, 70, 1, 8), (86, .getfield 133, 3, 0, 3, 0), (89, .ireturn, 1, 0, 0, 0), (90, .aload_n 0, 1, 0, 0, 0), (91, .iload_n 1, 1, 0, 0, 0), (92, .invokevirtual 129, 3, 70, 1, 8), (95, .getfield 138, 3, 0, 4, 0)],
  [(98, .ireturn, 1, 0, 0, 0), (99, .aload_n 0, 1, 0, 0, 0), (100, .iload_n 1, 1, 0, 0, 0), (101, .invokevirtual 129, 3, 70, 1, 8), (104, .getfield 141, 3, 0, 2, 0), (107, .ireturn, 1, 0, 0, 0), (108, .iconst (-1), 1, 1, 1, 0), (109, .ireturn, 1, 0, 0, 0)]]
/-- WornSums.sign(III)I -/
def pc_72 : List (List (Nat × smI)) := [[(0, .aload_n 0, 1, 0, 0, 0), (1, .getfield 19, 3, 7, 1, 1), (4, .iload_n 1, 1, 0, 0, 0), (5, .iload_n 2, 1, 0, 0, 0), (6, .invokevirtual 86, 3, 51, 2, 6), (9, .astore 4, 2, 0, 0, 0), (11, .aload 4, 2, 0, 0, 0), (13, .ifnull 12, 3, 0, 0, 0)],
  [(16, .aload 4, 2, 0, 0, 0), (18, .iload_n 3, 1, 0, 0, 0), (19, .invokevirtual 90, 3, 36, 1, 5), (22, .ifCond .ne 7, 3, 0, 0, 0), (25, .iconst (-1), 1, 1, 1, 0), (26, .goto 9, 3, 0, 0, 0), (29, .aload 4, 2, 0, 0, 0), (31, .iload_n 3, 1, 0, 0, 0)],
  [(32, .invokevirtual 95, 3, 37, 1, 5), (35, .ireturn, 1, 0, 0, 0)]]
/-- WornSums.doubt(III)I -/
def pc_73 : List (List (Nat × smI)) := [[(0, .aload_n 0, 1, 0, 0, 0), (1, .getfield 19, 3, 7, 1, 1), (4, .iload_n 1, 1, 0, 0, 0), (5, .iload_n 3, 1, 0, 0, 0), (6, .invokevirtual 86, 3, 51, 2, 6), (9, .astore 4, 2, 0, 0, 0), (11, .aload 4, 2, 0, 0, 0), (13, .ifnull 10, 3, 0, 0, 0)],
  [(16, .iload_n 2, 1, 0, 0, 0), (17, .invokestatic 142, 3, 13, 1, 0), (20, .ifCond .ne 5, 3, 0, 0, 0), (23, .iconst (-1), 1, 1, 1, 0), (24, .ireturn, 1, 0, 0, 0), (25, .iload_n 3, 1, 0, 0, 0), (26, .ifCond .ne 23, 3, 0, 0, 0), (29, .aload_n 0, 1, 0, 0, 0), (30, .getfield 45, 3, 7, 5, 1)],
  [(33, .aload 4, 2, 0, 0, 0), (35, .aload_n 0, 1, 0, 0, 0), (36, .getfield 19, 3, 7, 1, 1), (39, .getfield 111, 3, 5, 3, 0), (42, .iload_n 2, 1, 0, 0, 0), (43, .invokevirtual 145, 3, 62, 3, 4), (46, .goto 9, 3, 0, 0, 0)],
  [(49, .aload 4, 2, 0, 0, 0), (51, .iload_n 2, 1, 0, 0, 0), (52, .invokestatic 149, 3, 65, 2, 0), (55, .ireturn, 1, 0, 0, 0)]]
/-- WornSums$Agreeing.doubtAt(I)I -/
def pc_74 : List (List (Nat × smI)) := [[(0, .iload_n 1, 1, 0, 0, 0), (1, .ifCond .lt 29, 3, 0, 0, 0), (4, .iload_n 1, 1, 0, 0, 0), (5, .aload_n 0, 1, 0, 0, 0), (6, .getfield 18, 3, 0, 2, 0), (9, .if_icmp .ge 21, 3, 0, 0, 0), (12, .iload_n 1, 1, 0, 0, 0), (13, .aload_n 0, 1, 0, 0, 0), (14, .getfield 15, 3, 0, 1, 1)],
  [(17, .arraylength, 1, 0, 0, 0), (18, .if_icmp .ge 12, 3, 0, 0, 0), (21, .aload_n 0, 1, 0, 0, 0), (22, .getfield 15, 3, 0, 1, 1), (25, .iload_n 1, 1, 0, 0, 0), (26, .iaload, 1, 0, 0, 0), (27, .goto 5, 3, 0, 0, 0), (30, .bipush (-9), 2, 9, 1, 0)],
  [(32, .ireturn, 1, 0, 0, 0)]]
/-- WornSums$Agreeing.rankOf(I)I -/
def pc_75 : List (List (Nat × smI)) := [[(0, .iconst 0, 1, 0, 0, 0), (1, .istore_n 2, 1, 0, 0, 0), (2, .iconst 0, 1, 0, 0, 0), (3, .istore_n 3, 1, 0, 0, 0), (4, .iload_n 3, 1, 0, 0, 0), (5, .aload_n 0, 1, 0, 0, 0), (6, .getfield 18, 3, 0, 2, 0), (9, .if_icmp .ge 67, 3, 0, 0, 0), (12, .aload_n 0, 1, 0, 0, 0), (13, .iload_n 3, 1, 0, 0, 0), (14, .invokevirtual 50, 3, 74, 1, 1)],
  [(17, .aload_n 0, 1, 0, 0, 0), (18, .iload_n 1, 1, 0, 0, 0), (19, .invokevirtual 50, 3, 74, 1, 1), (22, .if_icmp .ge 7, 3, 0, 0, 0), (25, .iconst 1, 1, 1, 0, 0), (26, .goto 4, 3, 0, 0, 0), (29, .iconst 0, 1, 0, 0, 0), (30, .istore 4, 2, 0, 0, 0)],
  [(32, .aload_n 0, 1, 0, 0, 0), (33, .iload_n 3, 1, 0, 0, 0), (34, .invokevirtual 50, 3, 74, 1, 1), (37, .aload_n 0, 1, 0, 0, 0), (38, .iload_n 1, 1, 0, 0, 0), (39, .invokevirtual 50, 3, 74, 1, 1), (42, .if_icmp .ne 12, 3, 0, 0, 0), (45, .iload_n 3, 1, 0, 0, 0), (46, .iload_n 1, 1, 0, 0, 0), (47, .if_icmp .ge 7, 3, 0, 0, 0)],
  [(50, .iconst 1, 1, 1, 0, 0), (51, .goto 4, 3, 0, 0, 0), (54, .iconst 0, 1, 0, 0, 0), (55, .istore 5, 2, 0, 0, 0), (57, .iload 4, 2, 0, 0, 0), (59, .ifCond .ne 8, 3, 0, 0, 0), (62, .iload 5, 2, 0, 0, 0)],
  [(64, .ifCond .eq 6, 3, 0, 0, 0), (67, .iinc 2 1, 3, 1, 0, 0), (70, .iinc 3 1, 3, 1, 0, 0), (73, .goto (-69), 3, 0, 0, 0), (76, .iload_n 2, 1, 0, 0, 0), (77, .ireturn, 1, 0, 0, 0)]]
/-- WornSums$Agreeing.indexOfRank(I)I -/
def pc_76 : List (List (Nat × smI)) := [[(0, .iconst 0, 1, 0, 0, 0), (1, .istore_n 2, 1, 0, 0, 0), (2, .iload_n 2, 1, 0, 0, 0), (3, .aload_n 0, 1, 0, 0, 0), (4, .getfield 18, 3, 0, 2, 0), (7, .if_icmp .ge 20, 3, 0, 0, 0), (10, .aload_n 0, 1, 0, 0, 0), (11, .iload_n 2, 1, 0, 0, 0), (12, .invokevirtual 47, 3, 75, 1, 1), (15, .iload_n 1, 1, 0, 0, 0)],
  [(16, .if_icmp .ne 5, 3, 0, 0, 0), (19, .iload_n 2, 1, 0, 0, 0), (20, .ireturn, 1, 0, 0, 0), (21, .iinc 2 1, 3, 1, 0, 0), (24, .goto (-22), 3, 0, 0, 0), (27, .bipush (-9), 2, 9, 1, 0), (29, .ireturn, 1, 0, 0, 0)]]
/-- WornSums$Agreeing.numberAt(I)I -/
def pc_77 : List (List (Nat × smI)) := [[(0, .iload_n 1, 1, 0, 0, 0), (1, .ifCond .lt 29, 3, 0, 0, 0), (4, .iload_n 1, 1, 0, 0, 0), (5, .aload_n 0, 1, 0, 0, 0), (6, .getfield 18, 3, 0, 2, 0), (9, .if_icmp .ge 21, 3, 0, 0, 0), (12, .iload_n 1, 1, 0, 0, 0), (13, .aload_n 0, 1, 0, 0, 0), (14, .getfield 9, 3, 0, 0, 1)],
  [(17, .arraylength, 1, 0, 0, 0), (18, .if_icmp .ge 12, 3, 0, 0, 0), (21, .aload_n 0, 1, 0, 0, 0), (22, .getfield 9, 3, 0, 0, 1), (25, .iload_n 1, 1, 0, 0, 0), (26, .iaload, 1, 0, 0, 0), (27, .goto 5, 3, 0, 0, 0), (30, .bipush (-9), 2, 9, 1, 0)],
  [(32, .ireturn, 1, 0, 0, 0)]]
/-- WornSums.ranked(III)I -/
def pc_78 : List (List (Nat × smI)) := [[(0, .aload_n 0, 1, 0, 0, 0), (1, .getfield 19, 3, 7, 1, 1), (4, .iload_n 1, 1, 0, 0, 0), (5, .invokevirtual 78, 3, 48, 1, 6), (8, .ifCond .eq 16, 3, 0, 0, 0), (11, .iload_n 2, 1, 0, 0, 0), (12, .ifCond .lt 12, 3, 0, 0, 0), (15, .iload_n 3, 1, 0, 0, 0)],
  [(16, .ifCond .lt 8, 3, 0, 0, 0), (19, .iload_n 3, 1, 0, 0, 0), (20, .iconst 1, 1, 1, 0, 0), (21, .if_icmp .le 5, 3, 0, 0, 0), (24, .iconst (-1), 1, 1, 1, 0), (25, .ireturn, 1, 0, 0, 0), (26, .aload_n 0, 1, 0, 0, 0), (27, .iload_n 1, 1, 0, 0, 0), (28, .invokevirtual 129, 3, 70, 1, 8), (31, .astore 4, 2, 0, 0, 0)],
  [(33, .aload 4, 2, 0, 0, 0), (35, .iload_n 2, 1, 0, 0, 0), (36, .invokevirtual 154, 3, 76, 1, 1), (39, .istore 5, 2, 0, 0, 0), (41, .iload 5, 2, 0, 0, 0), (43, .bipush (-9), 2, 9, 1, 0), (45, .if_icmp .ne 6, 3, 0, 0, 0)],
  [(48, .bipush (-9), 2, 9, 1, 0), (50, .ireturn, 1, 0, 0, 0), (51, .iload_n 3, 1, 0, 0, 0), (52, .ifCond .ne 13, 3, 0, 0, 0), (55, .aload 4, 2, 0, 0, 0), (57, .iload 5, 2, 0, 0, 0), (59, .invokevirtual 157, 3, 77, 1, 1), (62, .goto 10, 3, 0, 0, 0)],
  [(65, .aload 4, 2, 0, 0, 0), (67, .iload 5, 2, 0, 0, 0), (69, .invokevirtual 160, 3, 74, 1, 1), (72, .ireturn, 1, 0, 0, 0)]]
/-- WornSums.word(II)I -/
def pc_79 : List (List (Nat × smI)) := [[(0, .iload_n 1, 1, 0, 0, 0), (1, .invokestatic 142, 3, 13, 1, 0), (4, .ifCond .eq 8, 3, 0, 0, 0), (7, .iload_n 2, 1, 0, 0, 0), (8, .iconst (-1), 1, 1, 1, 0), (9, .if_icmp .ge 5, 3, 0, 0, 0), (12, .iconst (-1), 1, 1, 1, 0), (13, .ireturn, 1, 0, 0, 0), (14, .iload_n 2, 1, 0, 0, 0), (15, .iconst (-1), 1, 1, 1, 0)],
  [(16, .if_icmp .ne 14, 3, 0, 0, 0), (19, .aload_n 0, 1, 0, 0, 0), (20, .getfield 45, 3, 7, 5, 1), (23, .iload_n 1, 1, 0, 0, 0), (24, .invokevirtual 163, 3, 16, 1, 4), (27, .goto 12, 3, 0, 0, 0), (30, .aload_n 0, 1, 0, 0, 0), (31, .getfield 45, 3, 7, 5, 1)],
  [(34, .iload_n 1, 1, 0, 0, 0), (35, .iload_n 2, 1, 0, 0, 0), (36, .invokevirtual 165, 3, 17, 2, 4), (39, .ireturn, 1, 0, 0, 0)]]
/-- WornSums$Findings.alteredAmong(I)I -/
def pc_80 : List (List (Nat × smI)) := [[(0, .iconst 0, 1, 0, 0, 0), (1, .istore_n 2, 1, 0, 0, 0), (2, .iconst 0, 1, 0, 0, 0), (3, .istore_n 3, 1, 0, 0, 0), (4, .iload_n 3, 1, 0, 0, 0), (5, .iload_n 1, 1, 0, 0, 0), (6, .if_icmp .ge 30, 3, 0, 0, 0), (9, .iload_n 3, 1, 0, 0, 0), (10, .bipush 6, 2, 6, 0, 0), (12, .if_icmp .ge 24, 3, 0, 0, 0), (15, .aload_n 0, 1, 0, 0, 0)],
  [(16, .getfield 11, 3, 1, 0, 1), (19, .iload_n 3, 1, 0, 0, 0), (20, .aaload, 1, 0, 0, 0), (21, .getfield 64, 3, 0, 2, 0), (24, .ifCond .ne 6, 3, 0, 0, 0), (27, .iinc 2 1, 3, 1, 0, 0), (30, .iinc 3 1, 3, 1, 0, 0)],
  [(33, .goto (-29), 3, 0, 0, 0), (36, .iload_n 2, 1, 0, 0, 0), (37, .ireturn, 1, 0, 0, 0)]]
/-- WornSums$Findings.findLeastOfAnySum(I)V -/
def pc_81 : List (List (Nat × smI)) := [[(0, .aload_n 0, 1, 0, 0, 0), (1, .iconst 0, 1, 0, 0, 0), (2, .putfield 30, 3, 1, 4, 0), (5, .iconst 0, 1, 0, 0, 0), (6, .istore_n 2, 1, 0, 0, 0), (7, .iload_n 2, 1, 0, 0, 0), (8, .iload_n 1, 1, 0, 0, 0), (9, .if_icmp .ge 61, 3, 0, 0, 0), (12, .iload_n 2, 1, 0, 0, 0), (13, .bipush 6, 2, 6, 0, 0), (15, .if_icmp .ge 55, 3, 0, 0, 0)],
  [(18, .aload_n 0, 1, 0, 0, 0), (19, .getfield 11, 3, 1, 0, 1), (22, .iload_n 2, 1, 0, 0, 0), (23, .aaload, 1, 0, 0, 0), (24, .iconst 0, 1, 0, 0, 0), (25, .invokevirtual 90, 3, 76, 1, 1), (28, .istore_n 3, 1, 0, 0, 0), (29, .aload_n 0, 1, 0, 0, 0), (30, .getfield 26, 3, 1, 3, 1)],
  [(33, .iload_n 2, 1, 0, 0, 0), (34, .aload_n 0, 1, 0, 0, 0), (35, .getfield 11, 3, 1, 0, 1), (38, .iload_n 2, 1, 0, 0, 0), (39, .aaload, 1, 0, 0, 0), (40, .iload_n 3, 1, 0, 0, 0), (41, .invokevirtual 93, 3, 77, 1, 1), (44, .iastore, 1, 0, 0, 0), (45, .aload_n 0, 1, 0, 0, 0), (46, .dup, 1, 0, 0, 0), (47, .getfield 30, 3, 1, 4, 0)],
  [(50, .aload_n 0, 1, 0, 0, 0), (51, .getfield 11, 3, 1, 0, 1), (54, .iload_n 2, 1, 0, 0, 0), (55, .aaload, 1, 0, 0, 0), (56, .iload_n 3, 1, 0, 0, 0), (57, .invokevirtual 96, 3, 74, 1, 1), (60, .iadd, 1, 0, 0, 0), (61, .putfield 30, 3, 1, 4, 0)],
  [(64, .iinc 2 1, 3, 1, 0, 0), (67, .goto (-60), 3, 0, 0, 0), (70, .return_, 1, 0, 0, 0)]]
/-- java/util/Arrays.fill([II)V -/
def pc_82 : List (List (Nat × smI)) := [[(0, .iconst 0, 1, 0, 0, 0), (1, .istore_n 2, 1, 0, 0, 0), (2, .aload_n 0, 1, 0, 0, 0), (3, .arraylength, 1, 0, 0, 0), (4, .istore_n 3, 1, 0, 0, 0), (5, .iload_n 2, 1, 0, 0, 0), (6, .iload_n 3, 1, 0, 0, 0), (7, .if_icmp .ge 13, 3, 0, 0, 0), (10, .aload_n 0, 1, 0, 0, 0), (11, .iload_n 2, 1, 0, 0, 0), (12, .iload_n 1, 1, 0, 0, 0), (13, .iastore, 1, 0, 0, 0), (14, .iinc 2 1, 3, 1, 0, 0)],
  [(17, .goto (-12), 3, 0, 0, 0), (20, .return_, 1, 0, 0, 0)]]
/-- WornSums$Agreeing.highest()I -/
def pc_83 : List (List (Nat × smI)) := [[(0, .aload_n 0, 1, 0, 0, 0), (1, .getfield 18, 3, 0, 2, 0), (4, .ifCond .ne 7, 3, 0, 0, 0), (7, .iconst 0, 1, 0, 0, 0), (8, .goto 13, 3, 0, 0, 0), (11, .aload_n 0, 1, 0, 0, 0), (12, .aload_n 0, 1, 0, 0, 0), (13, .getfield 18, 3, 0, 2, 0)],
  [(16, .iconst 1, 1, 1, 0, 0), (17, .isub, 1, 0, 0, 0), (18, .invokevirtual 43, 3, 77, 1, 1), (21, .ireturn, 1, 0, 0, 0)]]
/-- WornSums$Findings.doubtWith(LWornSums$Agreeing;I[II)I -/
def pc_84 : List (List (Nat × smI)) := [[(0, .iload_n 3, 1, 0, 0, 0), (1, .aload_n 0, 1, 0, 0, 0), (2, .iload_n 1, 1, 0, 0, 0), (3, .invokevirtual 93, 3, 77, 1, 1), (6, .isub, 1, 0, 0, 0), (7, .istore 4, 2, 0, 0, 0), (9, .iload 4, 2, 0, 0, 0), (11, .ifCond .lt 18, 3, 0, 0, 0), (14, .iload 4, 2, 0, 0, 0)],
  [(16, .aload_n 2, 1, 0, 0, 0), (17, .arraylength, 1, 0, 0, 0), (18, .if_icmp .ge 11, 3, 0, 0, 0), (21, .aload_n 2, 1, 0, 0, 0), (22, .iload 4, 2, 0, 0, 0), (24, .iaload, 1, 0, 0, 0), (25, .iconst (-1), 1, 1, 1, 0), (26, .if_icmp .ne 5, 3, 0, 0, 0), (29, .iconst (-1), 1, 1, 1, 0), (30, .ireturn, 1, 0, 0, 0), (31, .aload_n 0, 1, 0, 0, 0)],
  [(32, .iload_n 1, 1, 0, 0, 0), (33, .invokevirtual 96, 3, 74, 1, 1), (36, .aload_n 2, 1, 0, 0, 0), (37, .iload 4, 2, 0, 0, 0), (39, .iaload, 1, 0, 0, 0), (40, .iadd, 1, 0, 0, 0), (41, .ireturn, 1, 0, 0, 0)]]
/-- WornSums$Findings.leastAt(LWornSums$Agreeing;[II)I -/
def pc_85 : List (List (Nat × smI)) := [[(0, .iconst (-1), 1, 1, 1, 0), (1, .istore_n 3, 1, 0, 0, 0), (2, .iconst 0, 1, 0, 0, 0), (3, .istore 4, 2, 0, 0, 0), (5, .iload 4, 2, 0, 0, 0), (7, .aload_n 0, 1, 0, 0, 0), (8, .getfield 64, 3, 0, 2, 0), (11, .if_icmp .ge 39, 3, 0, 0, 0), (14, .aload_n 0, 1, 0, 0, 0), (15, .iload 4, 2, 0, 0, 0)],
  [(17, .aload_n 1, 1, 0, 0, 0), (18, .iload_n 2, 1, 0, 0, 0), (19, .invokestatic 120, 3, 84, 4, 0), (22, .istore 5, 2, 0, 0, 0), (24, .iload 5, 2, 0, 0, 0), (26, .iconst (-1), 1, 1, 1, 0), (27, .if_icmp .eq 17, 3, 0, 0, 0), (30, .iload_n 3, 1, 0, 0, 0), (31, .iconst (-1), 1, 1, 1, 0)],
  [(32, .if_icmp .eq 9, 3, 0, 0, 0), (35, .iload 5, 2, 0, 0, 0), (37, .iload_n 3, 1, 0, 0, 0), (38, .if_icmp .ge 6, 3, 0, 0, 0), (41, .iload 5, 2, 0, 0, 0), (43, .istore_n 3, 1, 0, 0, 0), (44, .iinc 4 1, 3, 1, 0, 0), (47, .goto (-42), 3, 0, 0, 0)],
  [(50, .iload_n 3, 1, 0, 0, 0), (51, .ireturn, 1, 0, 0, 0)]]
/-- WornSums$Findings.fillLeastBySum(II)V -/
def pc_86 : List (List (Nat × smI)) := [[(0, .iconst 0, 1, 0, 0, 0), (1, .istore_n 3, 1, 0, 0, 0), (2, .iload_n 3, 1, 0, 0, 0), (3, .iload_n 1, 1, 0, 0, 0), (4, .if_icmp .gt 25, 3, 0, 0, 0), (7, .iload_n 3, 1, 0, 0, 0), (8, .bipush 6, 2, 6, 0, 0), (10, .if_icmp .gt 19, 3, 0, 0, 0), (13, .aload_n 0, 1, 0, 0, 0), (14, .getfield 23, 3, 1, 2, 1)],
  [(17, .iload_n 3, 1, 0, 0, 0), (18, .aaload, 1, 0, 0, 0), (19, .iconst (-1), 1, 1, 1, 0), (20, .invokestatic 106, 3, 82, 2, 0), (23, .iinc 3 1, 3, 1, 0, 0), (26, .goto (-24), 3, 0, 0, 0), (29, .iload_n 1, 1, 0, 0, 0), (30, .ifCond .lt 18, 3, 0, 0, 0)],
  [(33, .iload_n 1, 1, 0, 0, 0), (34, .bipush 6, 2, 6, 0, 0), (36, .if_icmp .gt 12, 3, 0, 0, 0), (39, .aload_n 0, 1, 0, 0, 0), (40, .getfield 23, 3, 1, 2, 1), (43, .iload_n 1, 1, 0, 0, 0), (44, .aaload, 1, 0, 0, 0), (45, .iconst 0, 1, 0, 0, 0), (46, .iconst 0, 1, 0, 0, 0), (47, .iastore, 1, 0, 0, 0)],
  [(48, .iconst 0, 1, 0, 0, 0), (49, .istore_n 3, 1, 0, 0, 0), (50, .iload_n 1, 1, 0, 0, 0), (51, .bipush 6, 2, 6, 0, 0), (53, .invokestatic 69, 3, 0, 0, 2), (56, .iconst 1, 1, 1, 0, 0), (57, .isub, 1, 0, 0, 0), (58, .istore 4, 2, 0, 0, 0), (60, .iload 4, 2, 0, 0, 0), (62, .ifCond .lt 78, 3, 0, 0, 0)],
  [(65, .iload_n 3, 1, 0, 0, 0), (66, .aload_n 0, 1, 0, 0, 0), (67, .getfield 11, 3, 1, 0, 1), (70, .iload 4, 2, 0, 0, 0), (72, .aaload, 1, 0, 0, 0), (73, .invokevirtual 112, 3, 83, 0, 1), (76, .iadd, 1, 0, 0, 0), (77, .iload_n 2, 1, 0, 0, 0), (78, .sipush 5994, 3, 5994, 0, 0)],
  [(81, .invokestatic 69, 3, 0, 0, 2), (84, .invokestatic 69, 3, 0, 0, 2), (87, .istore_n 3, 1, 0, 0, 0), (88, .iconst 0, 1, 0, 0, 0), (89, .istore 5, 2, 0, 0, 0), (91, .iload 5, 2, 0, 0, 0), (93, .iload_n 3, 1, 0, 0, 0), (94, .if_icmp .gt 40, 3, 0, 0, 0)],
  [(97, .aload_n 0, 1, 0, 0, 0), (98, .getfield 23, 3, 1, 2, 1), (101, .iload 4, 2, 0, 0, 0), (103, .aaload, 1, 0, 0, 0), (104, .iload 5, 2, 0, 0, 0), (106, .aload_n 0, 1, 0, 0, 0), (107, .getfield 11, 3, 1, 0, 1), (110, .iload 4, 2, 0, 0, 0)],
  [(112, .aaload, 1, 0, 0, 0), (113, .aload_n 0, 1, 0, 0, 0), (114, .getfield 23, 3, 1, 2, 1), (117, .iload 4, 2, 0, 0, 0), (119, .iconst 1, 1, 1, 0, 0), (120, .iadd, 1, 0, 0, 0), (121, .aaload, 1, 0, 0, 0), (122, .iload 5, 2, 0, 0, 0), (124, .invokestatic 116, 3, 85, 3, 0), (127, .iastore, 1, 0, 0, 0)],
  [(128, .iinc 5 1, 3, 1, 0, 0), (131, .goto (-40), 3, 0, 0, 0), (134, .iinc 4 (-1), 3, 1, 1, 0), (137, .goto (-77), 3, 0, 0, 0), (140, .return_, 1, 0, 0, 0)]]
/-- WornSums$Findings.lowestOfLeast(LWornSums$Agreeing;[I[II)I -/
def pc_87 : List (List (Nat × smI)) := [[(0, .iload_n 3, 1, 0, 0, 0), (1, .ifCond .lt 9, 3, 0, 0, 0), (4, .iload_n 3, 1, 0, 0, 0), (5, .aload_n 1, 1, 0, 0, 0), (6, .arraylength, 1, 0, 0, 0), (7, .if_icmp .lt 5, 3, 0, 0, 0), (10, .iconst 0, 1, 0, 0, 0), (11, .ireturn, 1, 0, 0, 0), (12, .iconst 0, 1, 0, 0, 0), (13, .istore 4, 2, 0, 0, 0), (15, .iload 4, 2, 0, 0, 0)],
  [(17, .aload_n 0, 1, 0, 0, 0), (18, .getfield 64, 3, 0, 2, 0), (21, .if_icmp .ge 40, 3, 0, 0, 0), (24, .aload_n 0, 1, 0, 0, 0), (25, .iload 4, 2, 0, 0, 0), (27, .aload_n 2, 1, 0, 0, 0), (28, .iload_n 3, 1, 0, 0, 0), (29, .invokestatic 120, 3, 84, 4, 0)],
  [(32, .istore 5, 2, 0, 0, 0), (34, .iload 5, 2, 0, 0, 0), (36, .iconst (-1), 1, 1, 1, 0), (37, .if_icmp .eq 18, 3, 0, 0, 0), (40, .iload 5, 2, 0, 0, 0), (42, .aload_n 1, 1, 0, 0, 0), (43, .iload_n 3, 1, 0, 0, 0), (44, .iaload, 1, 0, 0, 0), (45, .if_icmp .ne 10, 3, 0, 0, 0)],
  [(48, .aload_n 0, 1, 0, 0, 0), (49, .iload 4, 2, 0, 0, 0), (51, .invokevirtual 93, 3, 77, 1, 1), (54, .ireturn, 1, 0, 0, 0), (55, .iinc 4 1, 3, 1, 0, 0), (58, .goto (-43), 3, 0, 0, 0), (61, .iconst 0, 1, 0, 0, 0), (62, .ireturn, 1, 0, 0, 0)]]
/-- WornSums$Findings.findLeastOfTotal(II)V -/
def pc_88 : List (List (Nat × smI)) := [[(0, .iload_n 2, 1, 0, 0, 0), (1, .ifCond .lt 10, 3, 0, 0, 0), (4, .iload_n 2, 1, 0, 0, 0), (5, .sipush 5994, 3, 5994, 0, 0), (8, .if_icmp .le 4, 3, 0, 0, 0), (11, .return_, 1, 0, 0, 0), (12, .aload_n 0, 1, 0, 0, 0), (13, .iload_n 1, 1, 0, 0, 0), (14, .iload_n 2, 1, 0, 0, 0), (15, .invokevirtual 99, 3, 86, 2, 2)],
  [(18, .aload_n 0, 1, 0, 0, 0), (19, .getfield 23, 3, 1, 2, 1), (22, .iconst 0, 1, 0, 0, 0), (23, .aaload, 1, 0, 0, 0), (24, .iload_n 2, 1, 0, 0, 0), (25, .iaload, 1, 0, 0, 0), (26, .iconst (-1), 1, 1, 1, 0), (27, .if_icmp .ne 4, 3, 0, 0, 0), (30, .return_, 1, 0, 0, 0), (31, .aload_n 0, 1, 0, 0, 0)],
  [(32, .aload_n 0, 1, 0, 0, 0), (33, .getfield 23, 3, 1, 2, 1), (36, .iconst 0, 1, 0, 0, 0), (37, .aaload, 1, 0, 0, 0), (38, .iload_n 2, 1, 0, 0, 0), (39, .iaload, 1, 0, 0, 0), (40, .putfield 30, 3, 1, 4, 0), (43, .iload_n 2, 1, 0, 0, 0), (44, .istore_n 3, 1, 0, 0, 0), (45, .iconst 0, 1, 0, 0, 0), (46, .istore 4, 2, 0, 0, 0)],
  [(48, .iload 4, 2, 0, 0, 0), (50, .iload_n 1, 1, 0, 0, 0), (51, .if_icmp .ge 60, 3, 0, 0, 0), (54, .iload 4, 2, 0, 0, 0), (56, .bipush 6, 2, 6, 0, 0), (58, .if_icmp .ge 53, 3, 0, 0, 0), (61, .aload_n 0, 1, 0, 0, 0), (62, .getfield 26, 3, 1, 3, 1)],
  [(65, .iload 4, 2, 0, 0, 0), (67, .aload_n 0, 1, 0, 0, 0), (68, .getfield 11, 3, 1, 0, 1), (71, .iload 4, 2, 0, 0, 0), (73, .aaload, 1, 0, 0, 0), (74, .aload_n 0, 1, 0, 0, 0), (75, .getfield 23, 3, 1, 2, 1), (78, .iload 4, 2, 0, 0, 0)],
  [(80, .aaload, 1, 0, 0, 0), (81, .aload_n 0, 1, 0, 0, 0), (82, .getfield 23, 3, 1, 2, 1), (85, .iload 4, 2, 0, 0, 0), (87, .iconst 1, 1, 1, 0, 0), (88, .iadd, 1, 0, 0, 0), (89, .aaload, 1, 0, 0, 0), (90, .iload_n 3, 1, 0, 0, 0), (91, .invokestatic 102, 3, 87, 4, 0), (94, .iastore, 1, 0, 0, 0), (95, .iload_n 3, 1, 0, 0, 0)],
  [(96, .aload_n 0, 1, 0, 0, 0), (97, .getfield 26, 3, 1, 3, 1), (100, .iload 4, 2, 0, 0, 0), (102, .iaload, 1, 0, 0, 0), (103, .isub, 1, 0, 0, 0), (104, .istore_n 3, 1, 0, 0, 0), (105, .iinc 4 1, 3, 1, 0, 0), (108, .goto (-60), 3, 0, 0, 0), (111, .return_, 1, 0, 0, 0)]]
/-- WornSums$Findings.refreshLeast(LWornSums$Sheet;LWornSums$NumberWords;)V -/
def pc_89 : List (List (Nat × smI)) := [[(0, .aload_n 0, 1, 0, 0, 0), (1, .getfield 34, 3, 1, 5, 0), (4, .ifCond .eq 4, 3, 0, 0, 0), (7, .return_, 1, 0, 0, 0), (8, .aload_n 0, 1, 0, 0, 0), (9, .aload_n 1, 1, 0, 0, 0), (10, .aload_n 2, 1, 0, 0, 0), (11, .invokevirtual 65, 3, 68, 2, 2), (14, .aload_n 1, 1, 0, 0, 0), (15, .getfield 45, 3, 5, 2, 0)],
  [(18, .bipush 6, 2, 6, 0, 0), (20, .invokestatic 69, 3, 0, 0, 2), (23, .istore_n 3, 1, 0, 0, 0), (24, .aload_n 0, 1, 0, 0, 0), (25, .bipush (-9), 2, 9, 1, 0), (27, .putfield 30, 3, 1, 4, 0), (30, .aload_n 0, 1, 0, 0, 0), (31, .iload_n 3, 1, 0, 0, 0)],
  [(32, .invokevirtual 75, 3, 80, 1, 2), (35, .ifCond .ne 29, 3, 0, 0, 0), (38, .aload_n 1, 1, 0, 0, 0), (39, .getfield 79, 3, 5, 4, 0), (42, .bipush (-9), 2, 9, 1, 0), (44, .if_icmp .ne 11, 3, 0, 0, 0), (47, .aload_n 0, 1, 0, 0, 0)],
  [(48, .iload_n 3, 1, 0, 0, 0), (49, .invokevirtual 82, 3, 81, 1, 2), (52, .goto 12, 3, 0, 0, 0), (55, .aload_n 0, 1, 0, 0, 0), (56, .iload_n 3, 1, 0, 0, 0), (57, .aload_n 1, 1, 0, 0, 0), (58, .getfield 79, 3, 5, 4, 0), (61, .invokevirtual 86, 3, 88, 2, 2)],
  [(64, .aload_n 0, 1, 0, 0, 0), (65, .iconst 1, 1, 1, 0, 0), (66, .putfield 34, 3, 1, 5, 2), (69, .return_, 1, 0, 0, 0)]]
/-- WornSums$Findings.leastNumber(I)I -/
def pc_90 : List (List (Nat × smI)) := [[(0, .aload_n 0, 1, 0, 0, 0), (1, .getfield 30, 3, 1, 4, 0), (4, .bipush (-9), 2, 9, 1, 0), (6, .if_icmp .eq 17, 3, 0, 0, 0), (9, .iload_n 1, 1, 0, 0, 0), (10, .ifCond .lt 13, 3, 0, 0, 0), (13, .iload_n 1, 1, 0, 0, 0), (14, .bipush 6, 2, 6, 0, 0)],
  [(16, .if_icmp .ge 7, 3, 0, 0, 0), (19, .iconst 1, 1, 1, 0, 0), (20, .goto 4, 3, 0, 0, 0), (23, .iconst 0, 1, 0, 0, 0), (24, .istore_n 2, 1, 0, 0, 0), (25, .iload_n 2, 1, 0, 0, 0), (26, .ifCond .eq 12, 3, 0, 0, 0), (29, .aload_n 0, 1, 0, 0, 0), (30, .getfield 26, 3, 1, 3, 1)],
  [(33, .iload_n 1, 1, 0, 0, 0), (34, .iaload, 1, 0, 0, 0), (35, .goto 5, 3, 0, 0, 0), (38, .bipush (-9), 2, 9, 1, 0), (40, .ireturn, 1, 0, 0, 0)]]
/-- WornSums.least(I)I -/
def pc_91 : List (List (Nat × smI)) := [[(0, .iload_n 1, 1, 0, 0, 0), (1, .iconst (-1), 1, 1, 1, 0), (2, .if_icmp .eq 16, 3, 0, 0, 0), (5, .aload_n 0, 1, 0, 0, 0), (6, .getfield 19, 3, 7, 1, 1), (9, .iload_n 1, 1, 0, 0, 0), (10, .invokevirtual 78, 3, 48, 1, 6), (13, .ifCond .ne 5, 3, 0, 0, 0)],
  [(16, .iconst (-1), 1, 1, 1, 0), (17, .ireturn, 1, 0, 0, 0), (18, .aload_n 0, 1, 0, 0, 0), (19, .getfield 52, 3, 7, 6, 1), (22, .aload_n 0, 1, 0, 0, 0), (23, .getfield 19, 3, 7, 1, 1), (26, .aload_n 0, 1, 0, 0, 0), (27, .getfield 45, 3, 7, 5, 1), (30, .invokevirtual 167, 3, 89, 2, 2)],
  [(33, .iload_n 1, 1, 0, 0, 0), (34, .iconst (-1), 1, 1, 1, 0), (35, .if_icmp .ne 13, 3, 0, 0, 0), (38, .aload_n 0, 1, 0, 0, 0), (39, .getfield 52, 3, 7, 6, 1), (42, .getfield 171, 3, 1, 4, 0), (45, .goto 11, 3, 0, 0, 0)],
  [(48, .aload_n 0, 1, 0, 0, 0), (49, .getfield 52, 3, 7, 6, 1), (52, .iload_n 1, 1, 0, 0, 0), (53, .invokevirtual 174, 3, 90, 1, 2), (56, .ireturn, 1, 0, 0, 0)]]
/-- java/util/Arrays.fill([ZZ)V -/
def pc_92 : List (List (Nat × smI)) := [[(0, .iconst 0, 1, 0, 0, 0), (1, .istore_n 2, 1, 0, 0, 0), (2, .aload_n 0, 1, 0, 0, 0), (3, .arraylength, 1, 0, 0, 0), (4, .istore_n 3, 1, 0, 0, 0), (5, .iload_n 2, 1, 0, 0, 0), (6, .iload_n 3, 1, 0, 0, 0), (7, .if_icmp .ge 13, 3, 0, 0, 0), (10, .aload_n 0, 1, 0, 0, 0), (11, .iload_n 2, 1, 0, 0, 0), (12, .iload_n 1, 1, 0, 0, 0), (13, .bastore, 1, 0, 0, 0), (14, .iinc 2 1, 3, 1, 0, 0)],
  [(17, .goto (-12), 3, 0, 0, 0), (20, .return_, 1, 0, 0, 0)]]
/-- WornSums$Findings.isReached(I)Z -/
def pc_93 : List (List (Nat × smI)) := [[(0, .iload_n 1, 1, 0, 0, 0), (1, .ifCond .lt 23, 3, 0, 0, 0), (4, .iload_n 1, 1, 0, 0, 0), (5, .sipush 5994, 3, 5994, 0, 0), (8, .if_icmp .gt 16, 3, 0, 0, 0), (11, .aload_n 0, 1, 0, 0, 0), (12, .getfield 37, 3, 1, 6, 1), (15, .iload_n 1, 1, 0, 0, 0)],
  [(16, .baload, 1, 0, 0, 0), (17, .ifCond .eq 7, 3, 0, 0, 0), (20, .iconst 1, 1, 1, 0, 0), (21, .goto 4, 3, 0, 0, 0), (24, .iconst 0, 1, 0, 0, 0), (25, .ireturn, 1, 0, 0, 1)]]
/-- WornSums$Findings.isReachedBy(LWornSums$Agreeing;I)Z -/
def pc_94 : List (List (Nat × smI)) := [[(0, .iconst 0, 1, 0, 0, 0), (1, .istore_n 3, 1, 0, 0, 0), (2, .iload_n 3, 1, 0, 0, 0), (3, .aload_n 1, 1, 0, 0, 0), (4, .getfield 64, 3, 0, 2, 0), (7, .if_icmp .ge 25, 3, 0, 0, 0), (10, .aload_n 0, 1, 0, 0, 0), (11, .iload_n 2, 1, 0, 0, 0), (12, .aload_n 1, 1, 0, 0, 0), (13, .iload_n 3, 1, 0, 0, 0), (14, .invokevirtual 93, 3, 77, 1, 1)],
  [(17, .isub, 1, 0, 0, 0), (18, .invokevirtual 132, 3, 93, 1, 2), (21, .ifCond .eq 5, 3, 0, 0, 0), (24, .iconst 1, 1, 1, 0, 0), (25, .ireturn, 1, 0, 0, 1), (26, .iinc 3 1, 3, 1, 0, 0), (29, .goto (-27), 3, 0, 0, 0)],
  [(32, .iconst 0, 1, 0, 0, 0), (33, .ireturn, 1, 0, 0, 1)]]
/-- WornSums$Findings.reachOn(LWornSums$Agreeing;I)V -/
def pc_95 : List (List (Nat × smI)) := [[(0, .iload_n 2, 1, 0, 0, 0), (1, .sipush 5994, 3, 5994, 0, 0), (4, .invokestatic 69, 3, 0, 0, 2), (7, .istore_n 3, 1, 0, 0, 0), (8, .iload_n 3, 1, 0, 0, 0), (9, .ifCond .lt 21, 3, 0, 0, 0), (12, .aload_n 0, 1, 0, 0, 0), (13, .getfield 37, 3, 1, 6, 1)],
  [(16, .iload_n 3, 1, 0, 0, 0), (17, .aload_n 0, 1, 0, 0, 0), (18, .aload_n 1, 1, 0, 0, 0), (19, .iload_n 3, 1, 0, 0, 0), (20, .invokevirtual 143, 3, 94, 2, 2), (23, .bastore, 1, 0, 0, 0), (24, .iinc 3 (-1), 3, 1, 1, 0), (27, .goto (-19), 3, 0, 0, 0), (30, .return_, 1, 0, 0, 0)]]
/-- WornSums$Findings.reachWithout(III)V -/
def pc_96 : List (List (Nat × smI)) := [[(0, .aload_n 0, 1, 0, 0, 0), (1, .getfield 37, 3, 1, 6, 1), (4, .iconst 0, 1, 0, 0, 0), (5, .invokestatic 136, 3, 92, 2, 0), (8, .aload_n 0, 1, 0, 0, 0), (9, .getfield 37, 3, 1, 6, 1), (12, .iconst 0, 1, 0, 0, 0), (13, .iconst 1, 1, 1, 0, 0), (14, .bastore, 1, 0, 0, 0), (15, .iconst 0, 1, 0, 0, 0)],
  [(16, .istore 4, 2, 0, 0, 0), (18, .iconst 0, 1, 0, 0, 0), (19, .istore 5, 2, 0, 0, 0), (21, .iload 5, 2, 0, 0, 0), (23, .iload_n 2, 1, 0, 0, 0), (24, .if_icmp .ge 60, 3, 0, 0, 0), (27, .iload 5, 2, 0, 0, 0), (29, .bipush 6, 2, 6, 0, 0), (31, .if_icmp .ge 53, 3, 0, 0, 0)],
  [(34, .iload 5, 2, 0, 0, 0), (36, .iload_n 1, 1, 0, 0, 0), (37, .if_icmp .eq 41, 3, 0, 0, 0), (40, .iload 4, 2, 0, 0, 0), (42, .aload_n 0, 1, 0, 0, 0), (43, .getfield 11, 3, 1, 0, 1), (46, .iload 5, 2, 0, 0, 0)],
  [(48, .aaload, 1, 0, 0, 0), (49, .invokevirtual 112, 3, 83, 0, 1), (52, .iadd, 1, 0, 0, 0), (53, .iload_n 3, 1, 0, 0, 0), (54, .sipush 5994, 3, 5994, 0, 0), (57, .invokestatic 69, 3, 0, 0, 2), (60, .invokestatic 69, 3, 0, 0, 2), (63, .istore 4, 2, 0, 0, 0)],
  [(65, .aload_n 0, 1, 0, 0, 0), (66, .aload_n 0, 1, 0, 0, 0), (67, .getfield 11, 3, 1, 0, 1), (70, .iload 5, 2, 0, 0, 0), (72, .aaload, 1, 0, 0, 0), (73, .iload 4, 2, 0, 0, 0), (75, .invokevirtual 139, 3, 95, 2, 2), (78, .iinc 5 1, 3, 1, 0, 0)],
  [(81, .goto (-60), 3, 0, 0, 0), (84, .return_, 1, 0, 0, 0)]]
/-- WornSums$Findings.sureNumber(III)I -/
def pc_97 : List (List (Nat × smI)) := [[(0, .aload_n 0, 1, 0, 0, 0), (1, .iload_n 2, 1, 0, 0, 0), (2, .invokevirtual 75, 3, 80, 1, 2), (5, .ifCond .le 6, 3, 0, 0, 0), (8, .bipush (-9), 2, 9, 1, 0), (10, .ireturn, 1, 0, 0, 0), (11, .aload_n 0, 1, 0, 0, 0), (12, .iload_n 1, 1, 0, 0, 0), (13, .invokevirtual 124, 3, 69, 1, 2)],
  [(16, .astore 4, 2, 0, 0, 0), (18, .iload_n 3, 1, 0, 0, 0), (19, .bipush (-9), 2, 9, 1, 0), (21, .if_icmp .ne 24, 3, 0, 0, 0), (24, .aload 4, 2, 0, 0, 0), (26, .getfield 64, 3, 0, 2, 0), (29, .iconst 1, 1, 1, 0, 0), (30, .if_icmp .ne 12, 3, 0, 0, 0)],
  [(33, .aload 4, 2, 0, 0, 0), (35, .iconst 0, 1, 0, 0, 0), (36, .invokevirtual 93, 3, 77, 1, 1), (39, .goto 5, 3, 0, 0, 0), (42, .bipush (-9), 2, 9, 1, 0), (44, .ireturn, 1, 0, 0, 0), (45, .aload_n 0, 1, 0, 0, 0), (46, .iload_n 1, 1, 0, 0, 0), (47, .iload_n 2, 1, 0, 0, 0)],
  [(48, .iload_n 3, 1, 0, 0, 0), (49, .invokevirtual 128, 3, 96, 3, 2), (52, .bipush (-9), 2, 9, 1, 0), (54, .istore 5, 2, 0, 0, 0), (56, .iconst 0, 1, 0, 0, 0), (57, .istore 6, 2, 0, 0, 0), (59, .iload 6, 2, 0, 0, 0), (61, .aload 4, 2, 0, 0, 0), (63, .getfield 64, 3, 0, 2, 0)],
  [(66, .if_icmp .ge 44, 3, 0, 0, 0), (69, .aload_n 0, 1, 0, 0, 0), (70, .iload_n 3, 1, 0, 0, 0), (71, .aload 4, 2, 0, 0, 0), (73, .iload 6, 2, 0, 0, 0), (75, .invokevirtual 93, 3, 77, 1, 1), (78, .isub, 1, 0, 0, 0), (79, .invokevirtual 132, 3, 93, 1, 2)],
  [(82, .ifCond .eq 22, 3, 0, 0, 0), (85, .iload 5, 2, 0, 0, 0), (87, .bipush (-9), 2, 9, 1, 0), (89, .if_icmp .eq 6, 3, 0, 0, 0), (92, .bipush (-9), 2, 9, 1, 0), (94, .ireturn, 1, 0, 0, 0), (95, .aload 4, 2, 0, 0, 0)],
  [(97, .iload 6, 2, 0, 0, 0), (99, .invokevirtual 93, 3, 77, 1, 1), (102, .istore 5, 2, 0, 0, 0), (104, .iinc 6 1, 3, 1, 0, 0), (107, .goto (-48), 3, 0, 0, 0), (110, .iload 5, 2, 0, 0, 0)],
  [(112, .ireturn, 1, 0, 0, 0)]]
/-- WornSums.sure(I)I -/
def pc_98 : List (List (Nat × smI)) := [[(0, .aload_n 0, 1, 0, 0, 0), (1, .getfield 19, 3, 7, 1, 1), (4, .iload_n 1, 1, 0, 0, 0), (5, .invokevirtual 78, 3, 48, 1, 6), (8, .ifCond .ne 5, 3, 0, 0, 0), (11, .iconst (-1), 1, 1, 1, 0), (12, .ireturn, 1, 0, 0, 0), (13, .aload_n 0, 1, 0, 0, 0), (14, .getfield 52, 3, 7, 6, 1)],
  [(17, .aload_n 0, 1, 0, 0, 0), (18, .getfield 19, 3, 7, 1, 1), (21, .aload_n 0, 1, 0, 0, 0), (22, .getfield 45, 3, 7, 5, 1), (25, .invokevirtual 177, 3, 68, 2, 2), (28, .aload_n 0, 1, 0, 0, 0), (29, .getfield 52, 3, 7, 6, 1)],
  [(32, .iload_n 1, 1, 0, 0, 0), (33, .aload_n 0, 1, 0, 0, 0), (34, .getfield 19, 3, 7, 1, 1), (37, .getfield 64, 3, 5, 2, 0), (40, .aload_n 0, 1, 0, 0, 0), (41, .getfield 19, 3, 7, 1, 1), (44, .getfield 114, 3, 5, 4, 0), (47, .invokevirtual 180, 3, 97, 3, 2)],
  [(50, .ireturn, 1, 0, 0, 0)]]
/-- WornSums$Findings.mostOfOneLetter(LWornSums$Agreeing;ILWornSums$NumberWords;)I -/
def pc_99 : List (List (Nat × smI)) := [[(0, .aload_n 0, 1, 0, 0, 0), (1, .getfield 41, 3, 1, 7, 1), (4, .iconst 0, 1, 0, 0, 0), (5, .invokestatic 106, 3, 82, 2, 0), (8, .iconst 0, 1, 0, 0, 0), (9, .istore 4, 2, 0, 0, 0), (11, .iconst 0, 1, 0, 0, 0), (12, .istore 5, 2, 0, 0, 0), (14, .iload 5, 2, 0, 0, 0)],
  [(16, .aload_n 1, 1, 0, 0, 0), (17, .getfield 64, 3, 0, 2, 0), (20, .if_icmp .ge 62, 3, 0, 0, 0), (23, .aload_n 3, 1, 0, 0, 0), (24, .aload_n 1, 1, 0, 0, 0), (25, .iload 5, 2, 0, 0, 0), (27, .invokevirtual 93, 3, 77, 1, 1), (30, .iload_n 2, 1, 0, 0, 0), (31, .invokevirtual 160, 3, 17, 2, 4)],
  [(34, .bipush 97, 2, 97, 0, 0), (36, .isub, 1, 0, 0, 0), (37, .istore 6, 2, 0, 0, 0), (39, .iload 6, 2, 0, 0, 0), (41, .ifCond .lt 35, 3, 0, 0, 0), (44, .iload 6, 2, 0, 0, 0), (46, .bipush 26, 2, 26, 0, 0)],
  [(48, .if_icmp .ge 28, 3, 0, 0, 0), (51, .aload_n 0, 1, 0, 0, 0), (52, .getfield 41, 3, 1, 7, 1), (55, .iload 6, 2, 0, 0, 0), (57, .dup2, 1, 0, 0, 0), (58, .iaload, 1, 0, 0, 0), (59, .iconst 1, 1, 1, 0, 0), (60, .iadd, 1, 0, 0, 0), (61, .iastore, 1, 0, 0, 0), (62, .iload 4, 2, 0, 0, 0)],
  [(64, .aload_n 0, 1, 0, 0, 0), (65, .getfield 41, 3, 1, 7, 1), (68, .iload 6, 2, 0, 0, 0), (70, .iaload, 1, 0, 0, 0), (71, .invokestatic 164, 3, 0, 0, 1), (74, .istore 4, 2, 0, 0, 0), (76, .iinc 5 1, 3, 1, 0, 0), (79, .goto (-65), 3, 0, 0, 0)],
  [(82, .iload 4, 2, 0, 0, 0), (84, .ireturn, 1, 0, 0, 0)]]
/-- WornSums$Findings.bestPlace(LWornSums$Row;LWornSums$Agreeing;LWornSums$NumberWords;)I -/
def pc_100 : List (List (Nat × smI)) := [[(0, .bipush (-9), 2, 9, 1, 0), (2, .istore 4, 2, 0, 0, 0), (4, .iconst 0, 1, 0, 0, 0), (5, .istore 5, 2, 0, 0, 0), (7, .iconst 0, 1, 0, 0, 0), (8, .istore 6, 2, 0, 0, 0), (10, .iload 6, 2, 0, 0, 0), (12, .aload_n 1, 1, 0, 0, 0), (13, .getfield 147, 3, 4, 1, 0)],
  [(16, .if_icmp .ge 52, 3, 0, 0, 0), (19, .aload_n 1, 1, 0, 0, 0), (20, .iload 6, 2, 0, 0, 0), (22, .invokevirtual 152, 3, 37, 1, 5), (25, .bipush 63, 2, 63, 0, 0), (27, .if_icmp .ne 35, 3, 0, 0, 0), (30, .aload_n 0, 1, 0, 0, 0), (31, .aload_n 2, 1, 0, 0, 0)],
  [(32, .iload 6, 2, 0, 0, 0), (34, .aload_n 3, 1, 0, 0, 0), (35, .invokevirtual 156, 3, 99, 3, 2), (38, .istore 7, 2, 0, 0, 0), (40, .iload 4, 2, 0, 0, 0), (42, .bipush (-9), 2, 9, 1, 0), (44, .if_icmp .eq 10, 3, 0, 0, 0), (47, .iload 7, 2, 0, 0, 0)],
  [(49, .iload 5, 2, 0, 0, 0), (51, .if_icmp .ge 11, 3, 0, 0, 0), (54, .iload 6, 2, 0, 0, 0), (56, .istore 4, 2, 0, 0, 0), (58, .iload 7, 2, 0, 0, 0), (60, .istore 5, 2, 0, 0, 0), (62, .iinc 6 1, 3, 1, 0, 0)],
  [(65, .goto (-55), 3, 0, 0, 0), (68, .iload 4, 2, 0, 0, 0), (70, .ireturn, 1, 0, 0, 0)]]
/-- WornSums.look(I)I -/
def pc_101 : List (List (Nat × smI)) := [[(0, .aload_n 0, 1, 0, 0, 0), (1, .getfield 19, 3, 7, 1, 1), (4, .iload_n 1, 1, 0, 0, 0), (5, .iconst 0, 1, 0, 0, 0), (6, .invokevirtual 86, 3, 51, 2, 6), (9, .astore_n 2, 1, 0, 0, 0), (10, .aload_n 2, 1, 0, 0, 0), (11, .ifnonnull 5, 3, 0, 0, 0), (14, .iconst (-1), 1, 1, 1, 0), (15, .ireturn, 1, 0, 0, 0)],
  [(16, .aload_n 0, 1, 0, 0, 0), (17, .iload_n 1, 1, 0, 0, 0), (18, .invokevirtual 129, 3, 70, 1, 8), (21, .astore_n 3, 1, 0, 0, 0), (22, .aload_n 3, 1, 0, 0, 0), (23, .getfield 141, 3, 0, 2, 0), (26, .iconst 1, 1, 1, 0, 0), (27, .if_icmp .gt 8, 3, 0, 0, 0), (30, .bipush (-9), 2, 9, 1, 0)],
  [(32, .goto 16, 3, 0, 0, 0), (35, .aload_n 0, 1, 0, 0, 0), (36, .getfield 52, 3, 7, 6, 1), (39, .aload_n 2, 1, 0, 0, 0), (40, .aload_n 3, 1, 0, 0, 0), (41, .aload_n 0, 1, 0, 0, 0), (42, .getfield 45, 3, 7, 5, 1), (45, .invokevirtual 184, 3, 100, 3, 2)],
  [(48, .ireturn, 1, 0, 0, 0)]]
/-- WornSums.keep(I)I -/
def pc_102 : List (List (Nat × smI)) := [[(0, .iload_n 1, 1, 0, 0, 0), (1, .ifCond .lt 8, 3, 0, 0, 0), (4, .iload_n 1, 1, 0, 0, 0), (5, .iconst 2, 1, 2, 0, 0), (6, .if_icmp .lt 5, 3, 0, 0, 0), (9, .iconst (-1), 1, 1, 1, 0), (10, .ireturn, 1, 0, 0, 0), (11, .aload_n 0, 1, 0, 0, 0), (12, .getfield 34, 3, 7, 3, 1), (15, .iload_n 1, 1, 0, 0, 0)],
  [(16, .aaload, 1, 0, 0, 0), (17, .aload_n 0, 1, 0, 0, 0), (18, .getfield 19, 3, 7, 1, 1), (21, .invokevirtual 188, 3, 40, 1, 6), (24, .aload_n 0, 1, 0, 0, 0), (25, .getfield 38, 3, 7, 4, 1), (28, .iload_n 1, 1, 0, 0, 0), (29, .iconst 1, 1, 1, 0, 0), (30, .bastore, 1, 0, 0, 0), (31, .aload_n 0, 1, 0, 0, 0)],
  [(32, .getfield 19, 3, 7, 1, 1), (35, .getfield 64, 3, 5, 2, 0), (38, .ireturn, 1, 0, 0, 0)]]
/-- WornSums.back(I)I -/
def pc_103 : List (List (Nat × smI)) := [[(0, .iload_n 1, 1, 0, 0, 0), (1, .ifCond .lt 8, 3, 0, 0, 0), (4, .iload_n 1, 1, 0, 0, 0), (5, .iconst 2, 1, 2, 0, 0), (6, .if_icmp .lt 5, 3, 0, 0, 0), (9, .iconst (-1), 1, 1, 1, 0), (10, .ireturn, 1, 0, 0, 0), (11, .aload_n 0, 1, 0, 0, 0), (12, .getfield 38, 3, 7, 4, 1), (15, .iload_n 1, 1, 0, 0, 0)],
  [(16, .baload, 1, 0, 0, 0), (17, .ifCond .ne 6, 3, 0, 0, 0), (20, .bipush (-2), 2, 2, 1, 0), (22, .ireturn, 1, 0, 0, 0), (23, .aload_n 0, 1, 0, 0, 0), (24, .getfield 19, 3, 7, 1, 1), (27, .aload_n 0, 1, 0, 0, 0), (28, .getfield 34, 3, 7, 3, 1), (31, .iload_n 1, 1, 0, 0, 0)],
  [(32, .aaload, 1, 0, 0, 0), (33, .invokevirtual 188, 3, 40, 1, 6), (36, .aload_n 0, 1, 0, 0, 0), (37, .getfield 26, 3, 7, 2, 1), (40, .iconst 0, 1, 0, 0, 0), (41, .putfield 117, 3, 2, 2, 0), (44, .aload_n 0, 1, 0, 0, 0), (45, .getfield 52, 3, 7, 6, 1)],
  [(48, .invokevirtual 122, 3, 42, 0, 2), (51, .aload_n 0, 1, 0, 0, 0), (52, .getfield 19, 3, 7, 1, 1), (55, .getfield 64, 3, 5, 2, 0), (58, .ireturn, 1, 0, 0, 0)]]
/-- WornSums$Sheet.wornInAll()I -/
def pc_104 : List (List (Nat × smI)) := [[(0, .iconst 0, 1, 0, 0, 0), (1, .istore_n 1, 1, 0, 0, 0), (2, .iconst 0, 1, 0, 0, 0), (3, .istore_n 2, 1, 0, 0, 0), (4, .iload_n 2, 1, 0, 0, 0), (5, .aload_n 0, 1, 0, 0, 0), (6, .getfield 22, 3, 5, 2, 0), (9, .if_icmp .ge 17, 3, 0, 0, 0), (12, .iload_n 1, 1, 0, 0, 0), (13, .aload_n 0, 1, 0, 0, 0), (14, .iload_n 2, 1, 0, 0, 0), (15, .invokevirtual 52, 3, 55, 1, 6)],
  [(18, .iadd, 1, 0, 0, 0), (19, .istore_n 1, 1, 0, 0, 0), (20, .iinc 2 1, 3, 1, 0, 0), (23, .goto (-19), 3, 0, 0, 0), (26, .iload_n 1, 1, 0, 0, 0), (27, .ireturn, 1, 0, 0, 0)]]
/-- WornSums.count(I)I -/
def pc_105 : List (List (Nat × smI)) := [[(0, .iload_n 1, 1, 0, 0, 0), (1, .tableswitch 121 0 6 #[43, 51, 81, 89, 97, 105, 113], 43, 0, 0, 0)],
  [],
  [(44, .aload_n 0, 1, 0, 0, 0), (45, .getfield 19, 3, 7, 1, 1)],
  [(48, .getfield 64, 3, 5, 2, 0), (51, .ireturn, 1, 0, 0, 0), (52, .aload_n 0, 1, 0, 0, 0), (53, .getfield 52, 3, 7, 6, 1), (56, .aload_n 0, 1, 0, 0, 0), (57, .getfield 19, 3, 7, 1, 1), (60, .aload_n 0, 1, 0, 0, 0), (61, .getfield 45, 3, 7, 5, 1)],
  [(64, .invokevirtual 177, 3, 68, 2, 2), (67, .aload_n 0, 1, 0, 0, 0), (68, .getfield 52, 3, 7, 6, 1), (71, .aload_n 0, 1, 0, 0, 0), (72, .getfield 19, 3, 7, 1, 1), (75, .getfield 64, 3, 5, 2, 0), (78, .invokevirtual 191, 3, 80, 1, 2)],
  [(81, .ireturn, 1, 0, 0, 0), (82, .aload_n 0, 1, 0, 0, 0), (83, .getfield 19, 3, 7, 1, 1), (86, .getfield 111, 3, 5, 3, 0), (89, .ireturn, 1, 0, 0, 0), (90, .aload_n 0, 1, 0, 0, 0), (91, .getfield 19, 3, 7, 1, 1), (94, .getfield 114, 3, 5, 4, 0)],
  [(97, .ireturn, 1, 0, 0, 0), (98, .aload_n 0, 1, 0, 0, 0), (99, .getfield 19, 3, 7, 1, 1), (102, .invokevirtual 194, 3, 104, 0, 6), (105, .ireturn, 1, 0, 0, 0), (106, .aload_n 0, 1, 0, 0, 0), (107, .getfield 12, 3, 7, 0, 1), (110, .getfield 60, 3, 6, 1, 0)],
  [(113, .ireturn, 1, 0, 0, 0), (114, .aload_n 0, 1, 0, 0, 0), (115, .getfield 26, 3, 7, 2, 1), (118, .getfield 117, 3, 2, 2, 0), (121, .ireturn, 1, 0, 0, 0), (122, .iconst (-1), 1, 1, 1, 0), (123, .ireturn, 1, 0, 0, 0)]]
/-- WornSumsModel.<init>()V -/
def pc_106 : List (List (Nat × smI)) := [[(0, .aload_n 0, 1, 0, 0, 0), (1, .invokespecial 1, 3, 0, 0, 0), (4, .aload_n 0, 1, 0, 0, 0), (5, .sipush 219, 3, 219, 0, 0), (8, .newarray .int, 2, 0, 0, 0), (10, .putfield 7, 3, 8, 0, 1), (13, .aload_n 0, 1, 0, 0, 0), (14, .sipush 1752, 3, 1752, 0, 0)],
  [(17, .newarray .int, 2, 0, 0, 0), (19, .putfield 13, 3, 8, 1, 1), (22, .aload_n 0, 1, 0, 0, 0), (23, .sipush 438, 3, 438, 0, 0), (26, .newarray .int, 2, 0, 0, 0), (28, .putfield 16, 3, 8, 3, 1), (31, .aload_n 0, 1, 0, 0, 0)],
  [(32, .iconst 2, 1, 2, 0, 0), (33, .newarray .boolean, 2, 0, 0, 0), (35, .putfield 19, 3, 8, 4, 1), (38, .aload_n 0, 1, 0, 0, 0), (39, .bipush 40, 2, 40, 0, 0), (41, .newarray .int, 2, 0, 0, 0), (43, .putfield 23, 3, 8, 5, 1), (46, .aload_n 0, 1, 0, 0, 0), (47, .bipush 40, 2, 40, 0, 0)],
  [(49, .newarray .int, 2, 0, 0, 0), (51, .putfield 26, 3, 8, 7, 1), (54, .aload_n 0, 1, 0, 0, 0), (55, .sipush 6000, 3, 6000, 0, 0), (58, .newarray .int, 2, 0, 0, 0), (60, .putfield 29, 3, 8, 9, 1), (63, .aload_n 0, 1, 0, 0, 0)],
  [(64, .sipush 6000, 3, 6000, 0, 0), (67, .newarray .int, 2, 0, 0, 0), (69, .putfield 32, 3, 8, 10, 1), (72, .aload_n 0, 1, 0, 0, 0), (73, .bipush 6, 2, 6, 0, 0), (75, .newarray .int, 2, 0, 0, 0), (77, .putfield 35, 3, 8, 11, 1)],
  [(80, .aload_n 0, 1, 0, 0, 0), (81, .sipush 17985, 3, 17985, 0, 0), (84, .newarray .int, 2, 0, 0, 0), (86, .putfield 38, 3, 8, 12, 1), (89, .aload_n 0, 1, 0, 0, 0), (90, .sipush 17985, 3, 17985, 0, 0), (93, .newarray .int, 2, 0, 0, 0), (95, .putfield 41, 3, 8, 13, 1)],
  [(98, .aload_n 0, 1, 0, 0, 0), (99, .bipush 6, 2, 6, 0, 0), (101, .newarray .int, 2, 0, 0, 0), (103, .putfield 44, 3, 8, 14, 1), (106, .aload_n 0, 1, 0, 0, 0), (107, .sipush 5995, 3, 5995, 0, 0), (110, .newarray .boolean, 2, 0, 0, 0)],
  [(112, .putfield 47, 3, 8, 15, 1), (115, .aload_n 0, 1, 0, 0, 0), (116, .sipush 5995, 3, 5995, 0, 0), (119, .newarray .boolean, 2, 0, 0, 0), (121, .putfield 50, 3, 8, 16, 1), (124, .aload_n 0, 1, 0, 0, 0), (125, .bipush 26, 2, 26, 0, 0), (127, .newarray .int, 2, 0, 0, 0)],
  [(129, .putfield 53, 3, 8, 17, 1), (132, .aload_n 0, 1, 0, 0, 0), (133, .getfield 7, 3, 8, 0, 1), (136, .iconst 2, 1, 2, 0, 0), (137, .bipush (-9), 2, 9, 1, 0), (139, .iastore, 1, 0, 0, 0), (140, .return_, 1, 0, 0, 0)]]
/-- WornSumsModel.in(III)Z -/
def pc_107 : List (List (Nat × smI)) := [[(0, .iload_n 0, 1, 0, 0, 0), (1, .iload_n 1, 1, 0, 0, 0), (2, .if_icmp .lt 12, 3, 0, 0, 0), (5, .iload_n 0, 1, 0, 0, 0), (6, .iload_n 2, 1, 0, 0, 0), (7, .if_icmp .gt 7, 3, 0, 0, 0), (10, .iconst 1, 1, 1, 0, 0), (11, .goto 4, 3, 0, 0, 0), (14, .iconst 0, 1, 0, 0, 0), (15, .ireturn, 1, 0, 0, 1)]]
/-- WornSumsModel.type(I)I -/
def pc_108 : List (List (Nat × smI)) := [[(0, .iload_n 1, 1, 0, 0, 0), (1, .iconst 0, 1, 0, 0, 0), (2, .sipush 255, 3, 255, 0, 0), (5, .invokestatic 137, 3, 107, 3, 0), (8, .ifCond .ne 5, 3, 0, 0, 0), (11, .iconst (-1), 1, 1, 1, 0), (12, .ireturn, 1, 0, 0, 0), (13, .aload_n 0, 1, 0, 0, 0), (14, .getfield 141, 3, 8, 6, 0)],
  [(17, .bipush 40, 2, 40, 0, 0), (19, .if_icmp .ne 6, 3, 0, 0, 0), (22, .bipush (-3), 2, 3, 1, 0), (24, .ireturn, 1, 0, 0, 0), (25, .aload_n 0, 1, 0, 0, 0), (26, .getfield 23, 3, 8, 5, 1), (29, .aload_n 0, 1, 0, 0, 0), (30, .getfield 141, 3, 8, 6, 0)],
  [(33, .iload_n 1, 1, 0, 0, 0), (34, .iastore, 1, 0, 0, 0), (35, .aload_n 0, 1, 0, 0, 0), (36, .dup, 1, 0, 0, 0), (37, .getfield 141, 3, 8, 6, 0), (40, .iconst 1, 1, 1, 0, 0), (41, .iadd, 1, 0, 0, 0), (42, .putfield 141, 3, 8, 6, 0), (45, .aload_n 0, 1, 0, 0, 0), (46, .getfield 141, 3, 8, 6, 0)],
  [(49, .ireturn, 1, 0, 0, 0)]]
/-- WornSumsModel.clear()I -/
def pc_109 : List (List (Nat × smI)) := [[(0, .aload_n 0, 1, 0, 0, 0), (1, .getfield 141, 3, 8, 6, 0), (4, .istore_n 1, 1, 0, 0, 0), (5, .aload_n 0, 1, 0, 0, 0), (6, .iconst 0, 1, 0, 0, 0), (7, .putfield 141, 3, 8, 6, 0), (10, .iload_n 1, 1, 0, 0, 0), (11, .ireturn, 1, 0, 0, 0)]]
/-- WornSumsModel.isLetter(I)Z -/
def pc_110 : List (List (Nat × smI)) := [[(0, .iload_n 0, 1, 0, 0, 0), (1, .bipush 97, 2, 97, 0, 0), (3, .bipush 122, 2, 122, 0, 0), (5, .invokestatic 137, 3, 107, 3, 0), (8, .ifCond .ne 9, 3, 0, 0, 0), (11, .iload_n 0, 1, 0, 0, 0), (12, .bipush 63, 2, 63, 0, 0), (14, .if_icmp .ne 7, 3, 0, 0, 0)],
  [(17, .iconst 1, 1, 1, 0, 0), (18, .goto 4, 3, 0, 0, 0), (21, .iconst 0, 1, 0, 0, 0), (22, .ireturn, 1, 0, 0, 1)]]
/-- WornSumsModel.isFigure(I)Z -/
def pc_111 : List (List (Nat × smI)) := [[(0, .iload_n 0, 1, 0, 0, 0), (1, .bipush 48, 2, 48, 0, 0), (3, .bipush 57, 2, 57, 0, 0), (5, .invokestatic 137, 3, 107, 3, 0), (8, .ifCond .ne 9, 3, 0, 0, 0), (11, .iload_n 0, 1, 0, 0, 0), (12, .bipush 63, 2, 63, 0, 0), (14, .if_icmp .ne 7, 3, 0, 0, 0)],
  [(17, .iconst 1, 1, 1, 0, 0), (18, .goto 4, 3, 0, 0, 0), (21, .iconst 0, 1, 0, 0, 0), (22, .ireturn, 1, 0, 0, 1)]]
/-- WornSumsModel.readText()I -/
def pc_112 : List (List (Nat × smI)) := [[(0, .iconst 0, 1, 0, 0, 0), (1, .istore_n 1, 1, 0, 0, 0), (2, .iload_n 1, 1, 0, 0, 0), (3, .aload_n 0, 1, 0, 0, 0), (4, .getfield 141, 3, 8, 6, 0), (7, .if_icmp .ge 101, 3, 0, 0, 0), (10, .aload_n 0, 1, 0, 0, 0), (11, .getfield 23, 3, 8, 5, 1), (14, .iload_n 1, 1, 0, 0, 0), (15, .iaload, 1, 0, 0, 0)],
  [(16, .invokestatic 144, 3, 110, 1, 0), (19, .ifCond .ne 14, 3, 0, 0, 0), (22, .aload_n 0, 1, 0, 0, 0), (23, .getfield 23, 3, 8, 5, 1), (26, .iload_n 1, 1, 0, 0, 0), (27, .iaload, 1, 0, 0, 0), (28, .bipush 32, 2, 32, 0, 0), (30, .if_icmp .ne 78, 3, 0, 0, 0)],
  [(33, .iload_n 1, 1, 0, 0, 0), (34, .ifCond .le 20, 3, 0, 0, 0), (37, .aload_n 0, 1, 0, 0, 0), (38, .getfield 23, 3, 8, 5, 1), (41, .iload_n 1, 1, 0, 0, 0), (42, .iconst 1, 1, 1, 0, 0), (43, .isub, 1, 0, 0, 0), (44, .iaload, 1, 0, 0, 0), (45, .bipush 32, 2, 32, 0, 0), (47, .if_icmp .eq 7, 3, 0, 0, 0)],
  [(50, .iconst 1, 1, 1, 0, 0), (51, .goto 4, 3, 0, 0, 0), (54, .iconst 0, 1, 0, 0, 0), (55, .istore_n 2, 1, 0, 0, 0), (56, .iload_n 1, 1, 0, 0, 0), (57, .bipush 31, 2, 31, 0, 0), (59, .if_icmp .eq 41, 3, 0, 0, 0), (62, .aload_n 0, 1, 0, 0, 0), (63, .getfield 23, 3, 8, 5, 1)],
  [(66, .iload_n 1, 1, 0, 0, 0), (67, .iaload, 1, 0, 0, 0), (68, .bipush 32, 2, 32, 0, 0), (70, .if_icmp .ne 32, 3, 0, 0, 0), (73, .iload_n 2, 1, 0, 0, 0), (74, .ifCond .eq 26, 3, 0, 0, 0), (77, .iload_n 1, 1, 0, 0, 0), (78, .iconst 1, 1, 1, 0, 0), (79, .iadd, 1, 0, 0, 0)],
  [(80, .aload_n 0, 1, 0, 0, 0), (81, .getfield 141, 3, 8, 6, 0), (84, .if_icmp .ge 18, 3, 0, 0, 0), (87, .aload_n 0, 1, 0, 0, 0), (88, .getfield 23, 3, 8, 5, 1), (91, .iload_n 1, 1, 0, 0, 0), (92, .iconst 1, 1, 1, 0, 0), (93, .iadd, 1, 0, 0, 0), (94, .iaload, 1, 0, 0, 0), (95, .bipush 61, 2, 61, 0, 0)],
  [(97, .if_icmp .ne 5, 3, 0, 0, 0), (100, .iload_n 1, 1, 0, 0, 0), (101, .ireturn, 1, 0, 0, 0), (102, .iinc 1 1, 3, 1, 0, 0), (105, .goto (-103), 3, 0, 0, 0), (108, .iload_n 1, 1, 0, 0, 0), (109, .aload_n 0, 1, 0, 0, 0), (110, .getfield 141, 3, 8, 6, 0)],
  [(113, .if_icmp .eq 18, 3, 0, 0, 0), (116, .aload_n 0, 1, 0, 0, 0), (117, .getfield 23, 3, 8, 5, 1), (120, .iload_n 1, 1, 0, 0, 0), (121, .iaload, 1, 0, 0, 0), (122, .bipush 61, 2, 61, 0, 0), (124, .if_icmp .ne 7, 3, 0, 0, 0), (127, .iload_n 1, 1, 0, 0, 0)],
  [(128, .ifCond .ne 5, 3, 0, 0, 0), (131, .iload_n 1, 1, 0, 0, 0), (132, .ireturn, 1, 0, 0, 0), (133, .iload_n 1, 1, 0, 0, 0), (134, .iconst 1, 1, 1, 0, 0), (135, .iadd, 1, 0, 0, 0), (136, .istore_n 2, 1, 0, 0, 0), (137, .iinc 1 1, 3, 1, 0, 0), (140, .iload_n 1, 1, 0, 0, 0), (141, .aload_n 0, 1, 0, 0, 0), (142, .getfield 141, 3, 8, 6, 0)],
  [(145, .if_icmp .ge 28, 3, 0, 0, 0), (148, .aload_n 0, 1, 0, 0, 0), (149, .getfield 23, 3, 8, 5, 1), (152, .iload_n 1, 1, 0, 0, 0), (153, .iaload, 1, 0, 0, 0), (154, .invokestatic 148, 3, 111, 1, 0), (157, .ifCond .eq 16, 3, 0, 0, 0)],
  [(160, .iload_n 1, 1, 0, 0, 0), (161, .iload_n 2, 1, 0, 0, 0), (162, .iconst 3, 1, 3, 0, 0), (163, .iadd, 1, 0, 0, 0), (164, .if_icmp .ge 9, 3, 0, 0, 0), (167, .iinc 1 1, 3, 1, 0, 0), (170, .goto (-30), 3, 0, 0, 0), (173, .iload_n 1, 1, 0, 0, 0), (174, .aload_n 0, 1, 0, 0, 0), (175, .getfield 141, 3, 8, 6, 0)],
  [(178, .if_icmp .lt 8, 3, 0, 0, 0), (181, .iload_n 1, 1, 0, 0, 0), (182, .iload_n 2, 1, 0, 0, 0), (183, .if_icmp .ne 7, 3, 0, 0, 0), (186, .iload_n 1, 1, 0, 0, 0), (187, .goto 5, 3, 0, 0, 0), (190, .bipush (-9), 2, 9, 1, 0)],
  [(192, .ireturn, 1, 0, 0, 0)]]
/-- WornSumsModel.bring([II[III)V -/
def pc_113 : List (List (Nat × smI)) := [[(0, .iconst 0, 1, 0, 0, 0), (1, .istore 5, 2, 0, 0, 0), (3, .iload 5, 2, 0, 0, 0), (5, .iload 4, 2, 0, 0, 0), (7, .if_icmp .ge 21, 3, 0, 0, 0), (10, .aload_n 2, 1, 0, 0, 0), (11, .iload_n 3, 1, 0, 0, 0), (12, .iload 5, 2, 0, 0, 0), (14, .iadd, 1, 0, 0, 0), (15, .aload_n 0, 1, 0, 0, 0)],
  [(16, .iload_n 1, 1, 0, 0, 0), (17, .iload 5, 2, 0, 0, 0), (19, .iadd, 1, 0, 0, 0), (20, .iaload, 1, 0, 0, 0), (21, .iastore, 1, 0, 0, 0), (22, .iinc 5 1, 3, 1, 0, 0), (25, .goto (-22), 3, 0, 0, 0), (28, .return_, 1, 0, 0, 0)]]
/-- WornSumsModel.note()V -/
def pc_114 : List (List (Nat × smI)) := [[(0, .aload_n 0, 1, 0, 0, 0), (1, .getfield 56, 3, 8, 2, 0), (4, .bipush 8, 2, 8, 0, 0), (6, .if_icmp .ne 31, 3, 0, 0, 0), (9, .aload_n 0, 1, 0, 0, 0), (10, .getfield 13, 3, 8, 1, 1), (13, .sipush 219, 3, 219, 0, 0)],
  [(16, .aload_n 0, 1, 0, 0, 0), (17, .getfield 13, 3, 8, 1, 1), (20, .iconst 0, 1, 0, 0, 0), (21, .sipush 1533, 3, 1533, 0, 0), (24, .invokestatic 60, 3, 113, 5, 0), (27, .aload_n 0, 1, 0, 0, 0), (28, .dup, 1, 0, 0, 0), (29, .getfield 56, 3, 8, 2, 0)],
  [(32, .iconst 1, 1, 1, 0, 0), (33, .isub, 1, 0, 0, 0), (34, .putfield 56, 3, 8, 2, 0), (37, .aload_n 0, 1, 0, 0, 0), (38, .getfield 7, 3, 8, 0, 1), (41, .iconst 0, 1, 0, 0, 0), (42, .aload_n 0, 1, 0, 0, 0), (43, .getfield 13, 3, 8, 1, 1), (46, .sipush 219, 3, 219, 0, 0)],
  [(49, .aload_n 0, 1, 0, 0, 0), (50, .getfield 56, 3, 8, 2, 0), (53, .imul, 1, 0, 0, 0), (54, .sipush 219, 3, 219, 0, 0), (57, .invokestatic 60, 3, 113, 5, 0), (60, .aload_n 0, 1, 0, 0, 0), (61, .dup, 1, 0, 0, 0), (62, .getfield 56, 3, 8, 2, 0)],
  [(65, .iconst 1, 1, 1, 0, 0), (66, .iadd, 1, 0, 0, 0), (67, .putfield 56, 3, 8, 2, 0), (70, .return_, 1, 0, 0, 0)]]
/-- WornSumsModel.tells()I -/
def pc_115 : List (List (Nat × smI)) := [[(0, .aload_n 0, 1, 0, 0, 0), (1, .getfield 7, 3, 8, 0, 1), (4, .iconst 0, 1, 0, 0, 0), (5, .iaload, 1, 0, 0, 0), (6, .bipush 6, 2, 6, 0, 0), (8, .if_icmp .ne 6, 3, 0, 0, 0), (11, .bipush (-3), 2, 3, 1, 0), (13, .ireturn, 1, 0, 0, 0), (14, .aload_n 0, 1, 0, 0, 0), (15, .invokevirtual 151, 3, 112, 0, 9)],
  [(18, .istore_n 1, 1, 0, 0, 0), (19, .iload_n 1, 1, 0, 0, 0), (20, .bipush (-9), 2, 9, 1, 0), (22, .if_icmp .eq 8, 3, 0, 0, 0), (25, .bipush (-10), 2, 10, 1, 0), (27, .iload_n 1, 1, 0, 0, 0), (28, .isub, 1, 0, 0, 0), (29, .ireturn, 1, 0, 0, 0), (30, .aload_n 0, 1, 0, 0, 0), (31, .invokevirtual 155, 3, 114, 0, 9)],
  [(34, .iconst 3, 1, 3, 0, 0), (35, .bipush 36, 2, 36, 0, 0), (37, .aload_n 0, 1, 0, 0, 0), (38, .getfield 7, 3, 8, 0, 1), (41, .iconst 0, 1, 0, 0, 0), (42, .iaload, 1, 0, 0, 0), (43, .imul, 1, 0, 0, 0), (44, .iadd, 1, 0, 0, 0), (45, .istore_n 2, 1, 0, 0, 0), (46, .iconst 0, 1, 0, 0, 0), (47, .istore_n 3, 1, 0, 0, 0)],
  [(48, .aload_n 0, 1, 0, 0, 0), (49, .getfield 23, 3, 8, 5, 1), (52, .iload_n 3, 1, 0, 0, 0), (53, .iaload, 1, 0, 0, 0), (54, .bipush 61, 2, 61, 0, 0), (56, .if_icmp .eq 9, 3, 0, 0, 0), (59, .iinc 3 1, 3, 1, 0, 0), (62, .goto (-14), 3, 0, 0, 0)],
  [(65, .aload_n 0, 1, 0, 0, 0), (66, .getfield 7, 3, 8, 0, 1), (69, .iload_n 2, 1, 0, 0, 0), (70, .iload_n 3, 1, 0, 0, 0), (71, .iastore, 1, 0, 0, 0), (72, .aload_n 0, 1, 0, 0, 0), (73, .getfield 23, 3, 8, 5, 1), (76, .iconst 0, 1, 0, 0, 0), (77, .aload_n 0, 1, 0, 0, 0), (78, .getfield 7, 3, 8, 0, 1)],
  [(81, .iload_n 2, 1, 0, 0, 0), (82, .iconst 1, 1, 1, 0, 0), (83, .iadd, 1, 0, 0, 0), (84, .iload_n 3, 1, 0, 0, 0), (85, .invokestatic 60, 3, 113, 5, 0), (88, .aload_n 0, 1, 0, 0, 0), (89, .getfield 7, 3, 8, 0, 1), (92, .iload_n 2, 1, 0, 0, 0), (93, .bipush 32, 2, 32, 0, 0), (95, .iadd, 1, 0, 0, 0)],
  [(96, .aload_n 0, 1, 0, 0, 0), (97, .getfield 141, 3, 8, 6, 0), (100, .iload_n 3, 1, 0, 0, 0), (101, .isub, 1, 0, 0, 0), (102, .iconst 1, 1, 1, 0, 0), (103, .isub, 1, 0, 0, 0), (104, .iastore, 1, 0, 0, 0), (105, .aload_n 0, 1, 0, 0, 0), (106, .getfield 23, 3, 8, 5, 1), (109, .iload_n 3, 1, 0, 0, 0), (110, .iconst 1, 1, 1, 0, 0), (111, .iadd, 1, 0, 0, 0)],
  [(112, .aload_n 0, 1, 0, 0, 0), (113, .getfield 7, 3, 8, 0, 1), (116, .iload_n 2, 1, 0, 0, 0), (117, .bipush 32, 2, 32, 0, 0), (119, .iadd, 1, 0, 0, 0), (120, .iconst 1, 1, 1, 0, 0), (121, .iadd, 1, 0, 0, 0), (122, .aload_n 0, 1, 0, 0, 0), (123, .getfield 141, 3, 8, 6, 0), (126, .iload_n 3, 1, 0, 0, 0), (127, .isub, 1, 0, 0, 0)],
  [(128, .iconst 1, 1, 1, 0, 0), (129, .isub, 1, 0, 0, 0), (130, .invokestatic 60, 3, 113, 5, 0), (133, .aload_n 0, 1, 0, 0, 0), (134, .getfield 7, 3, 8, 0, 1), (137, .iconst 0, 1, 0, 0, 0), (138, .dup2, 1, 0, 0, 0), (139, .iaload, 1, 0, 0, 0), (140, .iconst 1, 1, 1, 0, 0), (141, .iadd, 1, 0, 0, 0), (142, .iastore, 1, 0, 0, 0), (143, .aload_n 0, 1, 0, 0, 0)],
  [(144, .iconst 0, 1, 0, 0, 0), (145, .putfield 141, 3, 8, 6, 0), (148, .aload_n 0, 1, 0, 0, 0), (149, .getfield 7, 3, 8, 0, 1), (152, .iconst 0, 1, 0, 0, 0), (153, .iaload, 1, 0, 0, 0), (154, .iconst 1, 1, 1, 0, 0), (155, .isub, 1, 0, 0, 0), (156, .ireturn, 1, 0, 0, 0)]]
/-- WornSumsModel.isEntry(I)Z -/
def pc_116 : List (List (Nat × smI)) := [[(0, .iload_n 1, 1, 0, 0, 0), (1, .iconst 0, 1, 0, 0, 0), (2, .aload_n 0, 1, 0, 0, 0), (3, .getfield 7, 3, 8, 0, 1), (6, .iconst 0, 1, 0, 0, 0), (7, .iaload, 1, 0, 0, 0), (8, .iconst 1, 1, 1, 0, 0), (9, .isub, 1, 0, 0, 0), (10, .invokestatic 137, 3, 107, 3, 0), (13, .ireturn, 1, 0, 0, 1)]]
/-- WornSumsModel.drops(I)I -/
def pc_117 : List (List (Nat × smI)) := [[(0, .aload_n 0, 1, 0, 0, 0), (1, .iload_n 1, 1, 0, 0, 0), (2, .invokevirtual 158, 3, 116, 1, 9), (5, .ifCond .ne 5, 3, 0, 0, 0), (8, .iconst (-1), 1, 1, 1, 0), (9, .ireturn, 1, 0, 0, 0), (10, .aload_n 0, 1, 0, 0, 0), (11, .invokevirtual 155, 3, 114, 0, 9), (14, .iconst 3, 1, 3, 0, 0), (15, .bipush 36, 2, 36, 0, 0)],
  [(17, .iload_n 1, 1, 0, 0, 0), (18, .imul, 1, 0, 0, 0), (19, .iadd, 1, 0, 0, 0), (20, .istore_n 2, 1, 0, 0, 0), (21, .iload_n 2, 1, 0, 0, 0), (22, .bipush 36, 2, 36, 0, 0), (24, .iadd, 1, 0, 0, 0), (25, .sipush 219, 3, 219, 0, 0), (28, .if_icmp .ge 24, 3, 0, 0, 0), (31, .aload_n 0, 1, 0, 0, 0)],
  [(32, .getfield 7, 3, 8, 0, 1), (35, .iload_n 2, 1, 0, 0, 0), (36, .aload_n 0, 1, 0, 0, 0), (37, .getfield 7, 3, 8, 0, 1), (40, .iload_n 2, 1, 0, 0, 0), (41, .bipush 36, 2, 36, 0, 0), (43, .iadd, 1, 0, 0, 0), (44, .iaload, 1, 0, 0, 0), (45, .iastore, 1, 0, 0, 0), (46, .iinc 2 1, 3, 1, 0, 0)],
  [(49, .goto (-28), 3, 0, 0, 0), (52, .aload_n 0, 1, 0, 0, 0), (53, .getfield 7, 3, 8, 0, 1), (56, .iconst 0, 1, 0, 0, 0), (57, .dup2, 1, 0, 0, 0), (58, .iaload, 1, 0, 0, 0), (59, .iconst 1, 1, 1, 0, 0), (60, .isub, 1, 0, 0, 0), (61, .iastore, 1, 0, 0, 0), (62, .aload_n 0, 1, 0, 0, 0), (63, .getfield 7, 3, 8, 0, 1)],
  [(66, .iconst 0, 1, 0, 0, 0), (67, .iaload, 1, 0, 0, 0), (68, .ireturn, 1, 0, 0, 0)]]
/-- WornSumsModel.partOf(II)I -/
def pc_118 : List (List (Nat × smI)) := [[(0, .iconst 3, 1, 3, 0, 0), (1, .bipush 36, 2, 36, 0, 0), (3, .iload_n 0, 1, 0, 0, 0), (4, .imul, 1, 0, 0, 0), (5, .iadd, 1, 0, 0, 0), (6, .iload_n 1, 1, 0, 0, 0), (7, .iconst 1, 1, 1, 0, 0), (8, .if_icmp .ne 8, 3, 0, 0, 0), (11, .bipush 32, 2, 32, 0, 0), (13, .goto 4, 3, 0, 0, 0)],
  [(16, .iconst 0, 1, 0, 0, 0), (17, .iadd, 1, 0, 0, 0), (18, .ireturn, 1, 0, 0, 0)]]
/-- WornSumsModel.isPlace(III)Z -/
def pc_119 : List (List (Nat × smI)) := [[(0, .aload_n 0, 1, 0, 0, 0), (1, .iload_n 1, 1, 0, 0, 0), (2, .invokevirtual 158, 3, 116, 1, 9), (5, .ifCond .eq 36, 3, 0, 0, 0), (8, .iload_n 2, 1, 0, 0, 0), (9, .iconst 0, 1, 0, 0, 0), (10, .iconst 1, 1, 1, 0, 0), (11, .invokestatic 137, 3, 107, 3, 0), (14, .ifCond .eq 27, 3, 0, 0, 0)],
  [(17, .iload_n 3, 1, 0, 0, 0), (18, .iconst 0, 1, 0, 0, 0), (19, .aload_n 0, 1, 0, 0, 0), (20, .getfield 7, 3, 8, 0, 1), (23, .iload_n 1, 1, 0, 0, 0), (24, .iload_n 2, 1, 0, 0, 0), (25, .invokestatic 161, 3, 118, 2, 0), (28, .iaload, 1, 0, 0, 0), (29, .iconst 1, 1, 1, 0, 0), (30, .isub, 1, 0, 0, 0), (31, .invokestatic 137, 3, 107, 3, 0)],
  [(34, .ifCond .eq 7, 3, 0, 0, 0), (37, .iconst 1, 1, 1, 0, 0), (38, .goto 4, 3, 0, 0, 0), (41, .iconst 0, 1, 0, 0, 0), (42, .ireturn, 1, 0, 0, 1)]]
/-- WornSumsModel.wears(III)I -/
def pc_120 : List (List (Nat × smI)) := [[(0, .aload_n 0, 1, 0, 0, 0), (1, .iload_n 1, 1, 0, 0, 0), (2, .iload_n 2, 1, 0, 0, 0), (3, .iload_n 3, 1, 0, 0, 0), (4, .invokevirtual 165, 3, 119, 3, 9), (7, .ifCond .ne 5, 3, 0, 0, 0), (10, .iconst (-1), 1, 1, 1, 0), (11, .ireturn, 1, 0, 0, 0), (12, .iload_n 1, 1, 0, 0, 0), (13, .iload_n 2, 1, 0, 0, 0), (14, .invokestatic 161, 3, 118, 2, 0)],
  [(17, .iconst 1, 1, 1, 0, 0), (18, .iadd, 1, 0, 0, 0), (19, .iload_n 3, 1, 0, 0, 0), (20, .iadd, 1, 0, 0, 0), (21, .istore 4, 2, 0, 0, 0), (23, .aload_n 0, 1, 0, 0, 0), (24, .getfield 7, 3, 8, 0, 1), (27, .iload 4, 2, 0, 0, 0), (29, .iaload, 1, 0, 0, 0), (30, .istore 5, 2, 0, 0, 0)],
  [(32, .iload 5, 2, 0, 0, 0), (34, .bipush 63, 2, 63, 0, 0), (36, .if_icmp .eq 10, 3, 0, 0, 0), (39, .iload 5, 2, 0, 0, 0), (41, .bipush 32, 2, 32, 0, 0), (43, .if_icmp .ne 6, 3, 0, 0, 0), (46, .bipush (-2), 2, 2, 1, 0)],
  [(48, .ireturn, 1, 0, 0, 0), (49, .aload_n 0, 1, 0, 0, 0), (50, .invokevirtual 155, 3, 114, 0, 9), (53, .aload_n 0, 1, 0, 0, 0), (54, .getfield 7, 3, 8, 0, 1), (57, .iload 4, 2, 0, 0, 0), (59, .bipush 63, 2, 63, 0, 0), (61, .iastore, 1, 0, 0, 0), (62, .iload 5, 2, 0, 0, 0)],
  [(64, .ireturn, 1, 0, 0, 0)]]
/-- WornSumsModel.wornIn(I)I -/
def pc_121 : List (List (Nat × smI)) := [[(0, .iconst 0, 1, 0, 0, 0), (1, .istore_n 2, 1, 0, 0, 0), (2, .iconst 0, 1, 0, 0, 0), (3, .istore_n 3, 1, 0, 0, 0), (4, .iload_n 3, 1, 0, 0, 0), (5, .iconst 2, 1, 2, 0, 0), (6, .if_icmp .ge 60, 3, 0, 0, 0), (9, .iload_n 1, 1, 0, 0, 0), (10, .iload_n 3, 1, 0, 0, 0), (11, .invokestatic 161, 3, 118, 2, 0), (14, .istore 4, 2, 0, 0, 0)],
  [(16, .iconst 1, 1, 1, 0, 0), (17, .istore 5, 2, 0, 0, 0), (19, .iload 5, 2, 0, 0, 0), (21, .aload_n 0, 1, 0, 0, 0), (22, .getfield 7, 3, 8, 0, 1), (25, .iload 4, 2, 0, 0, 0), (27, .iaload, 1, 0, 0, 0), (28, .if_icmp .gt 32, 3, 0, 0, 0), (31, .iload_n 2, 1, 0, 0, 0)],
  [(32, .aload_n 0, 1, 0, 0, 0), (33, .getfield 7, 3, 8, 0, 1), (36, .iload 4, 2, 0, 0, 0), (38, .iload 5, 2, 0, 0, 0), (40, .iadd, 1, 0, 0, 0), (41, .iaload, 1, 0, 0, 0), (42, .bipush 63, 2, 63, 0, 0), (44, .if_icmp .ne 7, 3, 0, 0, 0), (47, .iconst 1, 1, 1, 0, 0)],
  [(48, .goto 4, 3, 0, 0, 0), (51, .iconst 0, 1, 0, 0, 0), (52, .iadd, 1, 0, 0, 0), (53, .istore_n 2, 1, 0, 0, 0), (54, .iinc 5 1, 3, 1, 0, 0), (57, .goto (-38), 3, 0, 0, 0), (60, .iinc 3 1, 3, 1, 0, 0), (63, .goto (-59), 3, 0, 0, 0)],
  [(66, .iload_n 2, 1, 0, 0, 0), (67, .ireturn, 1, 0, 0, 0)]]
/-- WornSumsModel.makes(IIII)I -/
def pc_122 : List (List (Nat × smI)) := [[(0, .iload_n 2, 1, 0, 0, 0), (1, .ifCond .ne 15, 3, 0, 0, 0), (4, .iload 4, 2, 0, 0, 0), (6, .bipush 97, 2, 97, 0, 0), (8, .bipush 122, 2, 122, 0, 0), (10, .invokestatic 137, 3, 107, 3, 0), (13, .goto 12, 3, 0, 0, 0)],
  [(16, .iload 4, 2, 0, 0, 0), (18, .bipush 48, 2, 48, 0, 0), (20, .bipush 57, 2, 57, 0, 0), (22, .invokestatic 137, 3, 107, 3, 0), (25, .istore 5, 2, 0, 0, 0), (27, .aload_n 0, 1, 0, 0, 0), (28, .iload_n 1, 1, 0, 0, 0), (29, .iload_n 2, 1, 0, 0, 0), (30, .iload_n 3, 1, 0, 0, 0), (31, .invokevirtual 165, 3, 119, 3, 9)],
  [(34, .ifCond .eq 8, 3, 0, 0, 0), (37, .iload 5, 2, 0, 0, 0), (39, .ifCond .ne 5, 3, 0, 0, 0), (42, .iconst (-1), 1, 1, 1, 0), (43, .ireturn, 1, 0, 0, 0), (44, .iload_n 1, 1, 0, 0, 0), (45, .iload_n 2, 1, 0, 0, 0), (46, .invokestatic 161, 3, 118, 2, 0)],
  [(49, .iconst 1, 1, 1, 0, 0), (50, .iadd, 1, 0, 0, 0), (51, .iload_n 3, 1, 0, 0, 0), (52, .iadd, 1, 0, 0, 0), (53, .istore 6, 2, 0, 0, 0), (55, .aload_n 0, 1, 0, 0, 0), (56, .getfield 7, 3, 8, 0, 1), (59, .iload 6, 2, 0, 0, 0), (61, .iaload, 1, 0, 0, 0), (62, .bipush 63, 2, 63, 0, 0)],
  [(64, .if_icmp .eq 6, 3, 0, 0, 0), (67, .bipush (-2), 2, 2, 1, 0), (69, .ireturn, 1, 0, 0, 0), (70, .aload_n 0, 1, 0, 0, 0), (71, .invokevirtual 155, 3, 114, 0, 9), (74, .aload_n 0, 1, 0, 0, 0), (75, .getfield 7, 3, 8, 0, 1), (78, .iload 6, 2, 0, 0, 0)],
  [(80, .iload 4, 2, 0, 0, 0), (82, .iastore, 1, 0, 0, 0), (83, .aload_n 0, 1, 0, 0, 0), (84, .iload_n 1, 1, 0, 0, 0), (85, .invokevirtual 168, 3, 121, 1, 9), (88, .ireturn, 1, 0, 0, 0)]]
/-- WornSumsModel.change(II)I -/
def pc_123 : List (List (Nat × smI)) := [[(0, .aload_n 0, 1, 0, 0, 0), (1, .getfield 7, 3, 8, 0, 1), (4, .iload_n 1, 1, 0, 0, 0), (5, .iaload, 1, 0, 0, 0), (6, .istore_n 3, 1, 0, 0, 0), (7, .iload_n 3, 1, 0, 0, 0), (8, .iload_n 2, 1, 0, 0, 0), (9, .if_icmp .ne 6, 3, 0, 0, 0), (12, .bipush (-2), 2, 2, 1, 0), (14, .ireturn, 1, 0, 0, 0), (15, .aload_n 0, 1, 0, 0, 0)],
  [(16, .invokevirtual 155, 3, 114, 0, 9), (19, .aload_n 0, 1, 0, 0, 0), (20, .getfield 7, 3, 8, 0, 1), (23, .iload_n 1, 1, 0, 0, 0), (24, .iload_n 2, 1, 0, 0, 0), (25, .iastore, 1, 0, 0, 0), (26, .iload_n 3, 1, 0, 0, 0), (27, .ireturn, 1, 0, 0, 0)]]
/-- WornSumsModel.slacks(I)I -/
def pc_124 : List (List (Nat × smI)) := [[(0, .iload_n 1, 1, 0, 0, 0), (1, .iconst 0, 1, 0, 0, 0), (2, .iconst 2, 1, 2, 0, 0), (3, .invokestatic 137, 3, 107, 3, 0), (6, .ifCond .eq 12, 3, 0, 0, 0), (9, .aload_n 0, 1, 0, 0, 0), (10, .iconst 1, 1, 1, 0, 0), (11, .iload_n 1, 1, 0, 0, 0), (12, .invokevirtual 172, 3, 123, 2, 9), (15, .goto 4, 3, 0, 0, 0)],
  [(18, .iconst (-1), 1, 1, 1, 0), (19, .ireturn, 1, 0, 0, 0)]]
/-- WornSumsModel.totals(I)I -/
def pc_125 : List (List (Nat × smI)) := [[(0, .iload_n 1, 1, 0, 0, 0), (1, .iconst 0, 1, 0, 0, 0), (2, .sipush 9999, 3, 9999, 0, 0), (5, .invokestatic 137, 3, 107, 3, 0), (8, .ifCond .ne 9, 3, 0, 0, 0), (11, .iload_n 1, 1, 0, 0, 0), (12, .bipush (-9), 2, 9, 1, 0), (14, .if_icmp .ne 12, 3, 0, 0, 0)],
  [(17, .aload_n 0, 1, 0, 0, 0), (18, .iconst 2, 1, 2, 0, 0), (19, .iload_n 1, 1, 0, 0, 0), (20, .invokevirtual 172, 3, 123, 2, 9), (23, .goto 4, 3, 0, 0, 0), (26, .iconst (-1), 1, 1, 1, 0), (27, .ireturn, 1, 0, 0, 0)]]
/-- WornSumsModel.undo()I -/
def pc_126 : List (List (Nat × smI)) := [[(0, .aload_n 0, 1, 0, 0, 0), (1, .getfield 56, 3, 8, 2, 0), (4, .ifCond .ne 6, 3, 0, 0, 0), (7, .bipush (-2), 2, 2, 1, 0), (9, .ireturn, 1, 0, 0, 0), (10, .aload_n 0, 1, 0, 0, 0), (11, .dup, 1, 0, 0, 0), (12, .getfield 56, 3, 8, 2, 0), (15, .iconst 1, 1, 1, 0, 0)],
  [(16, .isub, 1, 0, 0, 0), (17, .putfield 56, 3, 8, 2, 0), (20, .aload_n 0, 1, 0, 0, 0), (21, .getfield 13, 3, 8, 1, 1), (24, .sipush 219, 3, 219, 0, 0), (27, .aload_n 0, 1, 0, 0, 0), (28, .getfield 56, 3, 8, 2, 0), (31, .imul, 1, 0, 0, 0)],
  [(32, .aload_n 0, 1, 0, 0, 0), (33, .getfield 7, 3, 8, 0, 1), (36, .iconst 0, 1, 0, 0, 0), (37, .sipush 219, 3, 219, 0, 0), (40, .invokestatic 60, 3, 113, 5, 0), (43, .aload_n 0, 1, 0, 0, 0), (44, .getfield 56, 3, 8, 2, 0), (47, .ireturn, 1, 0, 0, 0)]]
/-- WornSumsModel.lettersOf(I)J -/
def pc_127 : List (List (Nat × smI)) := [[(0, .iload_n 0, 1, 0, 0, 0), (1, .tableswitch 255 0 29 #[135, 139, 143, 147, 151, 155, 159, 163, 167, 171, 175, 179, 183, 187, 191, 195, 199, 203, 207, 211, 215, 219, 223, 227, 231, 235, 239, 243, 247, 251], 135, 0, 0, 0)],
  [],
  [],
  [],
  [],
  [],
  [],
  [],
  [(136, .ldc2_w 64, 3, 510138, 0, 0), (139, .lreturn, 1, 0, 0, 0), (140, .ldc2_w 66, 3, 5583, 0, 0), (143, .lreturn, 1, 0, 0, 0)],
  [(144, .ldc2_w 68, 3, 16116, 0, 0), (147, .lreturn, 1, 0, 0, 0), (148, .ldc2_w 70, 3, 5425428, 0, 0), (151, .lreturn, 1, 0, 0, 0), (152, .ldc2_w 72, 3, 611814, 0, 0), (155, .lreturn, 1, 0, 0, 0), (156, .ldc2_w 74, 3, 186662, 0, 0), (159, .lreturn, 1, 0, 0, 0)],
  [(160, .ldc2_w 76, 3, 24883, 0, 0), (163, .lreturn, 1, 0, 0, 0), (164, .ldc2_w 78, 3, 14866611, 0, 0), (167, .lreturn, 1, 0, 0, 0), (168, .ldc2_w 80, 3, 21241125, 0, 0), (171, .lreturn, 1, 0, 0, 0), (172, .ldc2_w 82, 3, 178478, 0, 0), (175, .lreturn, 1, 0, 0, 0)],
  [(176, .ldc2_w 84, 3, 14516, 0, 0), (179, .lreturn, 1, 0, 0, 0), (180, .ldc2_w 86, 3, 475731333, 0, 0), (183, .lreturn, 1, 0, 0, 0), (184, .ldc2_w 88, 3, 191239924, 0, 0), (187, .lreturn, 1, 0, 0, 0), (188, .ldc2_w 90, 3, 486594389268, 0, 0), (191, .lreturn, 1, 0, 0, 0)],
  [(192, .ldc2_w 92, 3, 486594401766, 0, 0), (195, .lreturn, 1, 0, 0, 0), (196, .ldc2_w 94, 3, 15206062374, 0, 0), (199, .lreturn, 1, 0, 0, 0), (200, .ldc2_w 96, 3, 15206080819, 0, 0), (203, .lreturn, 1, 0, 0, 0), (204, .ldc2_w 98, 3, 15571016145075, 0, 0), (207, .lreturn, 1, 0, 0, 0)],
  [(208, .ldc2_w 100, 3, 486594059557, 0, 0), (211, .lreturn, 1, 0, 0, 0), (212, .ldc2_w 102, 3, 486593968430, 0, 0), (215, .lreturn, 1, 0, 0, 0), (216, .ldc2_w 104, 3, 860296948, 0, 0), (219, .lreturn, 1, 0, 0, 0), (220, .ldc2_w 106, 3, 860431636, 0, 0), (223, .lreturn, 1, 0, 0, 0)],
  [(224, .ldc2_w 108, 3, 26888678, 0, 0), (227, .lreturn, 1, 0, 0, 0), (228, .ldc2_w 110, 3, 26876198, 0, 0), (231, .lreturn, 1, 0, 0, 0), (232, .ldc2_w 112, 3, 26894643, 0, 0), (235, .lreturn, 1, 0, 0, 0), (236, .ldc2_w 114, 3, 27529500851, 0, 0), (239, .lreturn, 1, 0, 0, 0)],
  [(240, .ldc2_w 116, 3, 860101925, 0, 0), (243, .lreturn, 1, 0, 0, 0), (244, .ldc2_w 118, 3, 860010798, 0, 0), (247, .lreturn, 1, 0, 0, 0), (248, .ldc2_w 120, 3, 4481759912, 0, 0), (251, .lreturn, 1, 0, 0, 0), (252, .ldc2_w 122, 3, 4545, 0, 0), (255, .lreturn, 1, 0, 0, 0)],
  [(256, .lconst 0, 1, 0, 0, 0), (257, .lreturn, 1, 0, 0, 0)]]
/-- WornSumsModel.say(I)V -/
def pc_128 : List (List (Nat × smI)) := [[(0, .aload_n 0, 1, 0, 0, 0), (1, .getfield 124, 3, 8, 8, 0), (4, .ifCond .le 24, 3, 0, 0, 0), (7, .aload_n 0, 1, 0, 0, 0), (8, .getfield 26, 3, 8, 7, 1), (11, .aload_n 0, 1, 0, 0, 0), (12, .getfield 124, 3, 8, 8, 0), (15, .bipush 32, 2, 32, 0, 0)],
  [(17, .iastore, 1, 0, 0, 0), (18, .aload_n 0, 1, 0, 0, 0), (19, .dup, 1, 0, 0, 0), (20, .getfield 124, 3, 8, 8, 0), (23, .iconst 1, 1, 1, 0, 0), (24, .iadd, 1, 0, 0, 0), (25, .putfield 124, 3, 8, 8, 0), (28, .iload_n 1, 1, 0, 0, 0), (29, .invokestatic 127, 3, 127, 1, 0)],
  [(32, .lstore_n 2, 1, 0, 0, 0), (33, .lload_n 2, 1, 0, 0, 0), (34, .lconst 0, 1, 0, 0, 0), (35, .lcmp, 1, 0, 0, 0), (36, .ifCond .le 42, 3, 0, 0, 0), (39, .aload_n 0, 1, 0, 0, 0), (40, .getfield 26, 3, 8, 7, 1), (43, .aload_n 0, 1, 0, 0, 0), (44, .getfield 124, 3, 8, 8, 0), (47, .bipush 97, 2, 97, 0, 0)],
  [(49, .lload_n 2, 1, 0, 0, 0), (50, .ldc2_w 131, 3, 32, 0, 0), (53, .lrem, 1, 0, 0, 0), (54, .l2i, 1, 0, 0, 0), (55, .iadd, 1, 0, 0, 0), (56, .iconst 1, 1, 1, 0, 0), (57, .isub, 1, 0, 0, 0), (58, .iastore, 1, 0, 0, 0), (59, .aload_n 0, 1, 0, 0, 0), (60, .dup, 1, 0, 0, 0), (61, .getfield 124, 3, 8, 8, 0)],
  [(64, .iconst 1, 1, 1, 0, 0), (65, .iadd, 1, 0, 0, 0), (66, .putfield 124, 3, 8, 8, 0), (69, .lload_n 2, 1, 0, 0, 0), (70, .ldc2_w 131, 3, 32, 0, 0), (73, .ldiv, 1, 0, 0, 0), (74, .lstore_n 2, 1, 0, 0, 0), (75, .goto (-42), 3, 0, 0, 0), (78, .return_, 1, 0, 0, 0)]]
/-- WornSumsModel.spell(I)V -/
def pc_129 : List (List (Nat × smI)) := [[(0, .aload_n 0, 1, 0, 0, 0), (1, .iconst 0, 1, 0, 0, 0), (2, .putfield 124, 3, 8, 8, 0), (5, .iload_n 1, 1, 0, 0, 0), (6, .bipush 100, 2, 100, 0, 0), (8, .irem, 1, 0, 0, 0), (9, .istore_n 2, 1, 0, 0, 0), (10, .iload_n 1, 1, 0, 0, 0), (11, .bipush 100, 2, 100, 0, 0), (13, .if_icmp .lt 27, 3, 0, 0, 0)],
  [(16, .aload_n 0, 1, 0, 0, 0), (17, .iload_n 1, 1, 0, 0, 0), (18, .bipush 100, 2, 100, 0, 0), (20, .idiv, 1, 0, 0, 0), (21, .invokevirtual 133, 3, 128, 1, 9), (24, .aload_n 0, 1, 0, 0, 0), (25, .bipush 28, 2, 28, 0, 0), (27, .invokevirtual 133, 3, 128, 1, 9), (30, .iload_n 2, 1, 0, 0, 0), (31, .ifCond .le 9, 3, 0, 0, 0)],
  [(34, .aload_n 0, 1, 0, 0, 0), (35, .bipush 29, 2, 29, 0, 0), (37, .invokevirtual 133, 3, 128, 1, 9), (40, .iload_n 1, 1, 0, 0, 0), (41, .bipush 100, 2, 100, 0, 0), (43, .if_icmp .lt 7, 3, 0, 0, 0), (46, .iload_n 2, 1, 0, 0, 0), (47, .ifCond .le 24, 3, 0, 0, 0)],
  [(50, .aload_n 0, 1, 0, 0, 0), (51, .iload_n 2, 1, 0, 0, 0), (52, .bipush 20, 2, 20, 0, 0), (54, .if_icmp .ge 7, 3, 0, 0, 0), (57, .iload_n 2, 1, 0, 0, 0), (58, .goto 10, 3, 0, 0, 0), (61, .bipush 18, 2, 18, 0, 0), (63, .iload_n 2, 1, 0, 0, 0)],
  [(64, .bipush 10, 2, 10, 0, 0), (66, .idiv, 1, 0, 0, 0), (67, .iadd, 1, 0, 0, 0), (68, .invokevirtual 133, 3, 128, 1, 9), (71, .iload_n 2, 1, 0, 0, 0), (72, .bipush 20, 2, 20, 0, 0), (74, .if_icmp .lt 18, 3, 0, 0, 0), (77, .iload_n 2, 1, 0, 0, 0), (78, .bipush 10, 2, 10, 0, 0)],
  [(80, .irem, 1, 0, 0, 0), (81, .ifCond .le 11, 3, 0, 0, 0), (84, .aload_n 0, 1, 0, 0, 0), (85, .iload_n 2, 1, 0, 0, 0), (86, .bipush 10, 2, 10, 0, 0), (88, .irem, 1, 0, 0, 0), (89, .invokevirtual 133, 3, 128, 1, 9), (92, .return_, 1, 0, 0, 0)]]
/-- WornSumsModel.doubtByWords(II)I -/
def pc_130 : List (List (Nat × smI)) := [[(0, .iload_n 1, 1, 0, 0, 0), (1, .iconst 0, 1, 0, 0, 0), (2, .invokestatic 161, 3, 118, 2, 0), (5, .istore_n 3, 1, 0, 0, 0), (6, .aload_n 0, 1, 0, 0, 0), (7, .iload_n 2, 1, 0, 0, 0), (8, .invokevirtual 175, 3, 129, 1, 9), (11, .aload_n 0, 1, 0, 0, 0), (12, .getfield 124, 3, 8, 8, 0), (15, .aload_n 0, 1, 0, 0, 0)],
  [(16, .getfield 7, 3, 8, 0, 1), (19, .iload_n 3, 1, 0, 0, 0), (20, .iaload, 1, 0, 0, 0), (21, .if_icmp .eq 6, 3, 0, 0, 0), (24, .bipush (-9), 2, 9, 1, 0), (26, .ireturn, 1, 0, 0, 0), (27, .iconst 0, 1, 0, 0, 0), (28, .istore 4, 2, 0, 0, 0), (30, .iconst 0, 1, 0, 0, 0), (31, .istore 5, 2, 0, 0, 0)],
  [(33, .iconst 0, 1, 0, 0, 0), (34, .istore 6, 2, 0, 0, 0), (36, .iload 6, 2, 0, 0, 0), (38, .aload_n 0, 1, 0, 0, 0), (39, .getfield 124, 3, 8, 8, 0), (42, .if_icmp .ge 119, 3, 0, 0, 0), (45, .aload_n 0, 1, 0, 0, 0), (46, .getfield 7, 3, 8, 0, 1)],
  [(49, .iload_n 3, 1, 0, 0, 0), (50, .iconst 1, 1, 1, 0, 0), (51, .iadd, 1, 0, 0, 0), (52, .iload 6, 2, 0, 0, 0), (54, .iadd, 1, 0, 0, 0), (55, .iaload, 1, 0, 0, 0), (56, .istore 7, 2, 0, 0, 0), (58, .iload 7, 2, 0, 0, 0), (60, .bipush 32, 2, 32, 0, 0), (62, .if_icmp .ne 7, 3, 0, 0, 0)],
  [(65, .iconst 1, 1, 1, 0, 0), (66, .goto 4, 3, 0, 0, 0), (69, .iconst 0, 1, 0, 0, 0), (70, .aload_n 0, 1, 0, 0, 0), (71, .getfield 26, 3, 8, 7, 1), (74, .iload 6, 2, 0, 0, 0), (76, .iaload, 1, 0, 0, 0), (77, .bipush 32, 2, 32, 0, 0), (79, .if_icmp .ne 7, 3, 0, 0, 0)],
  [(82, .iconst 1, 1, 1, 0, 0), (83, .goto 4, 3, 0, 0, 0), (86, .iconst 0, 1, 0, 0, 0), (87, .if_icmp .eq 6, 3, 0, 0, 0), (90, .bipush (-9), 2, 9, 1, 0), (92, .ireturn, 1, 0, 0, 0), (93, .iload 5, 2, 0, 0, 0), (95, .iload 7, 2, 0, 0, 0)],
  [(97, .bipush 63, 2, 63, 0, 0), (99, .if_icmp .eq 19, 3, 0, 0, 0), (102, .iload 7, 2, 0, 0, 0), (104, .aload_n 0, 1, 0, 0, 0), (105, .getfield 26, 3, 8, 7, 1), (108, .iload 6, 2, 0, 0, 0), (110, .iaload, 1, 0, 0, 0), (111, .if_icmp .eq 7, 3, 0, 0, 0)],
  [(114, .iconst 1, 1, 1, 0, 0), (115, .goto 4, 3, 0, 0, 0), (118, .iconst 0, 1, 0, 0, 0), (119, .iadd, 1, 0, 0, 0), (120, .istore 5, 2, 0, 0, 0), (122, .iload 4, 2, 0, 0, 0), (124, .iload 7, 2, 0, 0, 0), (126, .bipush 63, 2, 63, 0, 0)],
  [(128, .if_icmp .ne 7, 3, 0, 0, 0), (131, .iconst 1, 1, 1, 0, 0), (132, .goto 20, 3, 0, 0, 0), (135, .iload 7, 2, 0, 0, 0), (137, .aload_n 0, 1, 0, 0, 0), (138, .getfield 26, 3, 8, 7, 1), (141, .iload 6, 2, 0, 0, 0), (143, .iaload, 1, 0, 0, 0)],
  [(144, .if_icmp .eq 7, 3, 0, 0, 0), (147, .iconst 3, 1, 3, 0, 0), (148, .goto 4, 3, 0, 0, 0), (151, .iconst 0, 1, 0, 0, 0), (152, .iadd, 1, 0, 0, 0), (153, .istore 4, 2, 0, 0, 0), (155, .iinc 6 1, 3, 1, 0, 0), (158, .goto (-122), 3, 0, 0, 0)],
  [(161, .iload 5, 2, 0, 0, 0), (163, .aload_n 0, 1, 0, 0, 0), (164, .getfield 7, 3, 8, 0, 1), (167, .iconst 1, 1, 1, 0, 0), (168, .iaload, 1, 0, 0, 0), (169, .if_icmp .le 8, 3, 0, 0, 0), (172, .bipush (-9), 2, 9, 1, 0), (174, .goto 5, 3, 0, 0, 0)],
  [(177, .iload 4, 2, 0, 0, 0), (179, .ireturn, 1, 0, 0, 0)]]
/-- WornSumsModel.areAlike(II)Z -/
def pc_131 : List (List (Nat × smI)) := [[(0, .iload_n 0, 1, 0, 0, 0), (1, .iload_n 1, 1, 0, 0, 0), (2, .if_icmp .ge 7, 3, 0, 0, 0), (5, .iload_n 0, 1, 0, 0, 0), (6, .goto 4, 3, 0, 0, 0), (9, .iload_n 1, 1, 0, 0, 0), (10, .istore_n 2, 1, 0, 0, 0), (11, .iload_n 0, 1, 0, 0, 0), (12, .iload_n 1, 1, 0, 0, 0), (13, .if_icmp .ge 7, 3, 0, 0, 0)],
  [(16, .iload_n 1, 1, 0, 0, 0), (17, .goto 4, 3, 0, 0, 0), (20, .iload_n 0, 1, 0, 0, 0), (21, .istore_n 3, 1, 0, 0, 0), (22, .bipush 10, 2, 10, 0, 0), (24, .iload_n 2, 1, 0, 0, 0), (25, .imul, 1, 0, 0, 0), (26, .iload_n 3, 1, 0, 0, 0), (27, .iadd, 1, 0, 0, 0), (28, .istore 4, 2, 0, 0, 0), (30, .iload 4, 2, 0, 0, 0)],
  [(32, .bipush 6, 2, 6, 0, 0), (34, .if_icmp .eq 45, 3, 0, 0, 0), (37, .iload 4, 2, 0, 0, 0), (39, .bipush 8, 2, 8, 0, 0), (41, .if_icmp .eq 38, 3, 0, 0, 0), (44, .iload 4, 2, 0, 0, 0), (46, .bipush 17, 2, 17, 0, 0)],
  [(48, .if_icmp .eq 31, 3, 0, 0, 0), (51, .iload 4, 2, 0, 0, 0), (53, .bipush 38, 2, 38, 0, 0), (55, .if_icmp .eq 24, 3, 0, 0, 0), (58, .iload 4, 2, 0, 0, 0), (60, .bipush 49, 2, 49, 0, 0), (62, .if_icmp .eq 17, 3, 0, 0, 0)],
  [(65, .iload 4, 2, 0, 0, 0), (67, .bipush 56, 2, 56, 0, 0), (69, .if_icmp .eq 10, 3, 0, 0, 0), (72, .iload 4, 2, 0, 0, 0), (74, .bipush 68, 2, 68, 0, 0), (76, .if_icmp .ne 7, 3, 0, 0, 0), (79, .iconst 1, 1, 1, 0, 0)],
  [(80, .goto 4, 3, 0, 0, 0), (83, .iconst 0, 1, 0, 0, 0), (84, .ireturn, 1, 0, 0, 1)]]
/-- WornSumsModel.doubtByFigures(II)I -/
def pc_132 : List (List (Nat × smI)) := [[(0, .iload_n 1, 1, 0, 0, 0), (1, .iconst 1, 1, 1, 0, 0), (2, .invokestatic 161, 3, 118, 2, 0), (5, .istore_n 3, 1, 0, 0, 0), (6, .iload_n 2, 1, 0, 0, 0), (7, .bipush 10, 2, 10, 0, 0), (9, .if_icmp .ge 7, 3, 0, 0, 0), (12, .iconst 1, 1, 1, 0, 0), (13, .goto 14, 3, 0, 0, 0)],
  [(16, .iload_n 2, 1, 0, 0, 0), (17, .bipush 100, 2, 100, 0, 0), (19, .if_icmp .ge 7, 3, 0, 0, 0), (22, .iconst 2, 1, 2, 0, 0), (23, .goto 4, 3, 0, 0, 0), (26, .iconst 3, 1, 3, 0, 0), (27, .istore 4, 2, 0, 0, 0), (29, .iload 4, 2, 0, 0, 0), (31, .aload_n 0, 1, 0, 0, 0)],
  [(32, .getfield 7, 3, 8, 0, 1), (35, .iload_n 3, 1, 0, 0, 0), (36, .iaload, 1, 0, 0, 0), (37, .if_icmp .eq 6, 3, 0, 0, 0), (40, .bipush (-9), 2, 9, 1, 0), (42, .ireturn, 1, 0, 0, 0), (43, .iconst 0, 1, 0, 0, 0), (44, .istore 5, 2, 0, 0, 0), (46, .iload_n 2, 1, 0, 0, 0), (47, .istore 6, 2, 0, 0, 0)],
  [(49, .iload 4, 2, 0, 0, 0), (51, .istore 7, 2, 0, 0, 0), (53, .iload 7, 2, 0, 0, 0), (55, .ifCond .le 98, 3, 0, 0, 0), (58, .iload 6, 2, 0, 0, 0), (60, .bipush 10, 2, 10, 0, 0), (62, .irem, 1, 0, 0, 0), (63, .istore 8, 2, 0, 0, 0)],
  [(65, .aload_n 0, 1, 0, 0, 0), (66, .getfield 7, 3, 8, 0, 1), (69, .iload_n 3, 1, 0, 0, 0), (70, .iload 7, 2, 0, 0, 0), (72, .iadd, 1, 0, 0, 0), (73, .iaload, 1, 0, 0, 0), (74, .istore 9, 2, 0, 0, 0), (76, .iload 6, 2, 0, 0, 0), (78, .bipush 10, 2, 10, 0, 0)],
  [(80, .idiv, 1, 0, 0, 0), (81, .istore 6, 2, 0, 0, 0), (83, .iload 9, 2, 0, 0, 0), (85, .bipush 63, 2, 63, 0, 0), (87, .if_icmp .eq 29, 3, 0, 0, 0), (90, .iload 9, 2, 0, 0, 0), (92, .bipush 48, 2, 48, 0, 0), (94, .isub, 1, 0, 0, 0), (95, .iload 8, 2, 0, 0, 0)],
  [(97, .if_icmp .eq 19, 3, 0, 0, 0), (100, .iload 9, 2, 0, 0, 0), (102, .bipush 48, 2, 48, 0, 0), (104, .isub, 1, 0, 0, 0), (105, .iload 8, 2, 0, 0, 0), (107, .invokestatic 178, 3, 131, 2, 0), (110, .ifCond .ne 6, 3, 0, 0, 0)],
  [(113, .bipush (-9), 2, 9, 1, 0), (115, .ireturn, 1, 0, 0, 0), (116, .iload 5, 2, 0, 0, 0), (118, .iload 9, 2, 0, 0, 0), (120, .bipush 63, 2, 63, 0, 0), (122, .if_icmp .ne 7, 3, 0, 0, 0), (125, .iconst 1, 1, 1, 0, 0), (126, .goto 18, 3, 0, 0, 0)],
  [(129, .iload 9, 2, 0, 0, 0), (131, .bipush 48, 2, 48, 0, 0), (133, .isub, 1, 0, 0, 0), (134, .iload 8, 2, 0, 0, 0), (136, .if_icmp .ne 7, 3, 0, 0, 0), (139, .iconst 0, 1, 0, 0, 0), (140, .goto 4, 3, 0, 0, 0), (143, .iconst 2, 1, 2, 0, 0)],
  [(144, .iadd, 1, 0, 0, 0), (145, .istore 5, 2, 0, 0, 0), (147, .iinc 7 (-1), 3, 1, 1, 0), (150, .goto (-97), 3, 0, 0, 0), (153, .iload 5, 2, 0, 0, 0), (155, .ireturn, 1, 0, 0, 0)]]
/-- WornSumsModel.manyBy(II)I -/
def pc_133 : List (List (Nat × smI)) := [[(0, .iconst 0, 1, 0, 0, 0), (1, .istore_n 3, 1, 0, 0, 0), (2, .iconst 0, 1, 0, 0, 0), (3, .istore 4, 2, 0, 0, 0), (5, .iload 4, 2, 0, 0, 0), (7, .sipush 1000, 3, 1000, 0, 0), (10, .if_icmp .ge 43, 3, 0, 0, 0), (13, .iload_n 3, 1, 0, 0, 0), (14, .iload_n 2, 1, 0, 0, 0), (15, .ifCond .ne 13, 3, 0, 0, 0)],
  [(18, .aload_n 0, 1, 0, 0, 0), (19, .iload_n 1, 1, 0, 0, 0), (20, .iload 4, 2, 0, 0, 0), (22, .invokevirtual 185, 3, 130, 2, 9), (25, .goto 10, 3, 0, 0, 0), (28, .aload_n 0, 1, 0, 0, 0), (29, .iload_n 1, 1, 0, 0, 0), (30, .iload 4, 2, 0, 0, 0)],
  [(32, .invokevirtual 182, 3, 132, 2, 9), (35, .bipush (-9), 2, 9, 1, 0), (37, .if_icmp .ne 7, 3, 0, 0, 0), (40, .iconst 0, 1, 0, 0, 0), (41, .goto 4, 3, 0, 0, 0), (44, .iconst 1, 1, 1, 0, 0), (45, .iadd, 1, 0, 0, 0), (46, .istore_n 3, 1, 0, 0, 0), (47, .iinc 4 1, 3, 1, 0, 0)],
  [(50, .goto (-45), 3, 0, 0, 0), (53, .iload_n 3, 1, 0, 0, 0), (54, .ireturn, 1, 0, 0, 0)]]
/-- WornSumsModel.findAgreeing(I)V -/
def pc_134 : List (List (Nat × smI)) := [[(0, .iconst 0, 1, 0, 0, 0), (1, .istore_n 2, 1, 0, 0, 0), (2, .iconst 0, 1, 0, 0, 0), (3, .istore_n 3, 1, 0, 0, 0), (4, .iload_n 3, 1, 0, 0, 0), (5, .sipush 1000, 3, 1000, 0, 0), (8, .if_icmp .ge 77, 3, 0, 0, 0), (11, .aload_n 0, 1, 0, 0, 0), (12, .iload_n 1, 1, 0, 0, 0), (13, .iload_n 3, 1, 0, 0, 0), (14, .invokevirtual 182, 3, 132, 2, 9)],
  [(17, .istore 4, 2, 0, 0, 0), (19, .iload 4, 2, 0, 0, 0), (21, .bipush (-9), 2, 9, 1, 0), (23, .if_icmp .ne 8, 3, 0, 0, 0), (26, .bipush (-9), 2, 9, 1, 0), (28, .goto 9, 3, 0, 0, 0), (31, .aload_n 0, 1, 0, 0, 0)],
  [(32, .iload_n 1, 1, 0, 0, 0), (33, .iload_n 3, 1, 0, 0, 0), (34, .invokevirtual 185, 3, 130, 2, 9), (37, .istore 5, 2, 0, 0, 0), (39, .iload 5, 2, 0, 0, 0), (41, .bipush (-9), 2, 9, 1, 0), (43, .if_icmp .eq 36, 3, 0, 0, 0), (46, .aload_n 0, 1, 0, 0, 0), (47, .getfield 29, 3, 8, 9, 1)],
  [(50, .sipush 1000, 3, 1000, 0, 0), (53, .iload_n 1, 1, 0, 0, 0), (54, .imul, 1, 0, 0, 0), (55, .iload_n 2, 1, 0, 0, 0), (56, .iadd, 1, 0, 0, 0), (57, .iload_n 3, 1, 0, 0, 0), (58, .iastore, 1, 0, 0, 0), (59, .aload_n 0, 1, 0, 0, 0), (60, .getfield 32, 3, 8, 10, 1), (63, .sipush 1000, 3, 1000, 0, 0)],
  [(66, .iload_n 1, 1, 0, 0, 0), (67, .imul, 1, 0, 0, 0), (68, .iload_n 2, 1, 0, 0, 0), (69, .iadd, 1, 0, 0, 0), (70, .iload 4, 2, 0, 0, 0), (72, .iload 5, 2, 0, 0, 0), (74, .iadd, 1, 0, 0, 0), (75, .iastore, 1, 0, 0, 0), (76, .iinc 2 1, 3, 1, 0, 0), (79, .iinc 3 1, 3, 1, 0, 0)],
  [(82, .goto (-78), 3, 0, 0, 0), (85, .aload_n 0, 1, 0, 0, 0), (86, .getfield 35, 3, 8, 11, 1), (89, .iload_n 1, 1, 0, 0, 0), (90, .iload_n 2, 1, 0, 0, 0), (91, .iastore, 1, 0, 0, 0), (92, .return_, 1, 0, 0, 0)]]
/-- WornSumsModel.entry(II)I -/
def pc_135 : List (List (Nat × smI)) := [[(0, .aload_n 0, 1, 0, 0, 0), (1, .iload_n 1, 1, 0, 0, 0), (2, .invokevirtual 158, 3, 116, 1, 9), (5, .ifCond .eq 12, 3, 0, 0, 0), (8, .iload_n 2, 1, 0, 0, 0), (9, .iconst 0, 1, 0, 0, 0), (10, .iconst 5, 1, 5, 0, 0), (11, .invokestatic 137, 3, 107, 3, 0), (14, .ifCond .ne 5, 3, 0, 0, 0)],
  [(17, .iconst (-1), 1, 1, 1, 0), (18, .ireturn, 1, 0, 0, 0), (19, .iload_n 2, 1, 0, 0, 0), (20, .iconst 2, 1, 2, 0, 0), (21, .if_icmp .ge 14, 3, 0, 0, 0), (24, .aload_n 0, 1, 0, 0, 0), (25, .getfield 7, 3, 8, 0, 1), (28, .iload_n 1, 1, 0, 0, 0), (29, .iload_n 2, 1, 0, 0, 0), (30, .invokestatic 161, 3, 118, 2, 0)],
  [(33, .iaload, 1, 0, 0, 0), (34, .ireturn, 1, 0, 0, 0), (35, .iload_n 2, 1, 0, 0, 0), (36, .iconst 2, 1, 2, 0, 0), (37, .if_icmp .ne 9, 3, 0, 0, 0), (40, .aload_n 0, 1, 0, 0, 0), (41, .iload_n 1, 1, 0, 0, 0), (42, .invokevirtual 168, 3, 121, 1, 9), (45, .ireturn, 1, 0, 0, 0), (46, .iload_n 2, 1, 0, 0, 0), (47, .iconst 5, 1, 5, 0, 0)],
  [(48, .if_icmp .ge 12, 3, 0, 0, 0), (51, .aload_n 0, 1, 0, 0, 0), (52, .iload_n 1, 1, 0, 0, 0), (53, .iload_n 2, 1, 0, 0, 0), (54, .iconst 3, 1, 3, 0, 0), (55, .isub, 1, 0, 0, 0), (56, .invokevirtual 188, 3, 133, 2, 9), (59, .ireturn, 1, 0, 0, 0), (60, .aload_n 0, 1, 0, 0, 0), (61, .iload_n 1, 1, 0, 0, 0), (62, .invokevirtual 191, 3, 134, 1, 9)],
  [(65, .aload_n 0, 1, 0, 0, 0), (66, .getfield 35, 3, 8, 11, 1), (69, .iload_n 1, 1, 0, 0, 0), (70, .iaload, 1, 0, 0, 0), (71, .ireturn, 1, 0, 0, 0)]]
/-- WornSumsModel.sign(III)I -/
def pc_136 : List (List (Nat × smI)) := [[(0, .aload_n 0, 1, 0, 0, 0), (1, .iload_n 1, 1, 0, 0, 0), (2, .iload_n 2, 1, 0, 0, 0), (3, .iload_n 3, 1, 0, 0, 0), (4, .invokevirtual 165, 3, 119, 3, 9), (7, .ifCond .eq 20, 3, 0, 0, 0), (10, .aload_n 0, 1, 0, 0, 0), (11, .getfield 7, 3, 8, 0, 1), (14, .iload_n 1, 1, 0, 0, 0), (15, .iload_n 2, 1, 0, 0, 0)],
  [(16, .invokestatic 161, 3, 118, 2, 0), (19, .iconst 1, 1, 1, 0, 0), (20, .iadd, 1, 0, 0, 0), (21, .iload_n 3, 1, 0, 0, 0), (22, .iadd, 1, 0, 0, 0), (23, .iaload, 1, 0, 0, 0), (24, .goto 4, 3, 0, 0, 0), (27, .iconst (-1), 1, 1, 1, 0), (28, .ireturn, 1, 0, 0, 0)]]
/-- WornSumsModel.doubt(III)I -/
def pc_137 : List (List (Nat × smI)) := [[(0, .aload_n 0, 1, 0, 0, 0), (1, .iload_n 1, 1, 0, 0, 0), (2, .invokevirtual 158, 3, 116, 1, 9), (5, .ifCond .eq 23, 3, 0, 0, 0), (8, .iload_n 2, 1, 0, 0, 0), (9, .iconst 0, 1, 0, 0, 0), (10, .sipush 999, 3, 999, 0, 0), (13, .invokestatic 137, 3, 107, 3, 0)],
  [(16, .ifCond .eq 12, 3, 0, 0, 0), (19, .iload_n 3, 1, 0, 0, 0), (20, .iconst 0, 1, 0, 0, 0), (21, .iconst 1, 1, 1, 0, 0), (22, .invokestatic 137, 3, 107, 3, 0), (25, .ifCond .ne 5, 3, 0, 0, 0), (28, .iconst (-1), 1, 1, 1, 0), (29, .ireturn, 1, 0, 0, 0), (30, .iload_n 3, 1, 0, 0, 0), (31, .ifCond .ne 12, 3, 0, 0, 0)],
  [(34, .aload_n 0, 1, 0, 0, 0), (35, .iload_n 1, 1, 0, 0, 0), (36, .iload_n 2, 1, 0, 0, 0), (37, .invokevirtual 185, 3, 130, 2, 9), (40, .goto 9, 3, 0, 0, 0), (43, .aload_n 0, 1, 0, 0, 0), (44, .iload_n 1, 1, 0, 0, 0), (45, .iload_n 2, 1, 0, 0, 0), (46, .invokevirtual 182, 3, 132, 2, 9)],
  [(49, .ireturn, 1, 0, 0, 0)]]
/-- WornSumsModel.ranked(III)I -/
def pc_138 : List (List (Nat × smI)) := [[(0, .aload_n 0, 1, 0, 0, 0), (1, .iload_n 1, 1, 0, 0, 0), (2, .invokevirtual 158, 3, 116, 1, 9), (5, .ifCond .eq 16, 3, 0, 0, 0), (8, .iload_n 2, 1, 0, 0, 0), (9, .ifCond .lt 12, 3, 0, 0, 0), (12, .iload_n 3, 1, 0, 0, 0), (13, .iconst 0, 1, 0, 0, 0), (14, .iconst 1, 1, 1, 0, 0), (15, .invokestatic 137, 3, 107, 3, 0)],
  [(18, .ifCond .ne 5, 3, 0, 0, 0), (21, .iconst (-1), 1, 1, 1, 0), (22, .ireturn, 1, 0, 0, 0), (23, .aload_n 0, 1, 0, 0, 0), (24, .iload_n 1, 1, 0, 0, 0), (25, .invokevirtual 191, 3, 134, 1, 9), (28, .sipush 1000, 3, 1000, 0, 0), (31, .iload_n 1, 1, 0, 0, 0)],
  [(32, .imul, 1, 0, 0, 0), (33, .istore 4, 2, 0, 0, 0), (35, .iload 4, 2, 0, 0, 0), (37, .istore 5, 2, 0, 0, 0), (39, .iload 5, 2, 0, 0, 0), (41, .iload 4, 2, 0, 0, 0), (43, .aload_n 0, 1, 0, 0, 0), (44, .getfield 35, 3, 8, 11, 1), (47, .iload_n 1, 1, 0, 0, 0)],
  [(48, .iaload, 1, 0, 0, 0), (49, .iadd, 1, 0, 0, 0), (50, .if_icmp .ge 115, 3, 0, 0, 0), (53, .iconst 0, 1, 0, 0, 0), (54, .istore 6, 2, 0, 0, 0), (56, .iload 4, 2, 0, 0, 0), (58, .istore 7, 2, 0, 0, 0), (60, .iload 7, 2, 0, 0, 0), (62, .iload 4, 2, 0, 0, 0)],
  [(64, .aload_n 0, 1, 0, 0, 0), (65, .getfield 35, 3, 8, 11, 1), (68, .iload_n 1, 1, 0, 0, 0), (69, .iaload, 1, 0, 0, 0), (70, .iadd, 1, 0, 0, 0), (71, .if_icmp .ge 60, 3, 0, 0, 0), (74, .iload 6, 2, 0, 0, 0), (76, .aload_n 0, 1, 0, 0, 0), (77, .getfield 32, 3, 8, 10, 1)],
  [(80, .iload 7, 2, 0, 0, 0), (82, .iaload, 1, 0, 0, 0), (83, .aload_n 0, 1, 0, 0, 0), (84, .getfield 32, 3, 8, 10, 1), (87, .iload 5, 2, 0, 0, 0), (89, .iaload, 1, 0, 0, 0), (90, .if_icmp .lt 27, 3, 0, 0, 0), (93, .aload_n 0, 1, 0, 0, 0), (94, .getfield 32, 3, 8, 10, 1)],
  [(97, .iload 7, 2, 0, 0, 0), (99, .iaload, 1, 0, 0, 0), (100, .aload_n 0, 1, 0, 0, 0), (101, .getfield 32, 3, 8, 10, 1), (104, .iload 5, 2, 0, 0, 0), (106, .iaload, 1, 0, 0, 0), (107, .if_icmp .ne 14, 3, 0, 0, 0), (110, .iload 7, 2, 0, 0, 0)],
  [(112, .iload 5, 2, 0, 0, 0), (114, .if_icmp .ge 7, 3, 0, 0, 0), (117, .iconst 1, 1, 1, 0, 0), (118, .goto 4, 3, 0, 0, 0), (121, .iconst 0, 1, 0, 0, 0), (122, .iadd, 1, 0, 0, 0), (123, .istore 6, 2, 0, 0, 0), (125, .iinc 7 1, 3, 1, 0, 0)],
  [(128, .goto (-68), 3, 0, 0, 0), (131, .iload 6, 2, 0, 0, 0), (133, .iload_n 2, 1, 0, 0, 0), (134, .if_icmp .ne 25, 3, 0, 0, 0), (137, .iload_n 3, 1, 0, 0, 0), (138, .ifCond .ne 13, 3, 0, 0, 0), (141, .aload_n 0, 1, 0, 0, 0), (142, .getfield 29, 3, 8, 9, 1)],
  [(145, .iload 5, 2, 0, 0, 0), (147, .iaload, 1, 0, 0, 0), (148, .goto 10, 3, 0, 0, 0), (151, .aload_n 0, 1, 0, 0, 0), (152, .getfield 32, 3, 8, 10, 1), (155, .iload 5, 2, 0, 0, 0), (157, .iaload, 1, 0, 0, 0), (158, .ireturn, 1, 0, 0, 0), (159, .iinc 5 1, 3, 1, 0, 0)],
  [(162, .goto (-123), 3, 0, 0, 0), (165, .bipush (-9), 2, 9, 1, 0), (167, .ireturn, 1, 0, 0, 0)]]
/-- WornSumsModel.word(II)I -/
def pc_139 : List (List (Nat × smI)) := [[(0, .iload_n 1, 1, 0, 0, 0), (1, .iconst 0, 1, 0, 0, 0), (2, .sipush 999, 3, 999, 0, 0), (5, .invokestatic 137, 3, 107, 3, 0), (8, .ifCond .eq 8, 3, 0, 0, 0), (11, .iload_n 2, 1, 0, 0, 0), (12, .iconst (-1), 1, 1, 1, 0), (13, .if_icmp .ge 5, 3, 0, 0, 0)],
  [(16, .iconst (-1), 1, 1, 1, 0), (17, .ireturn, 1, 0, 0, 0), (18, .aload_n 0, 1, 0, 0, 0), (19, .iload_n 1, 1, 0, 0, 0), (20, .invokevirtual 175, 3, 129, 1, 9), (23, .iload_n 2, 1, 0, 0, 0), (24, .iconst (-1), 1, 1, 1, 0), (25, .if_icmp .ne 10, 3, 0, 0, 0), (28, .aload_n 0, 1, 0, 0, 0), (29, .getfield 124, 3, 8, 8, 0)],
  [(32, .goto 22, 3, 0, 0, 0), (35, .iload_n 2, 1, 0, 0, 0), (36, .aload_n 0, 1, 0, 0, 0), (37, .getfield 124, 3, 8, 8, 0), (40, .if_icmp .ge 12, 3, 0, 0, 0), (43, .aload_n 0, 1, 0, 0, 0), (44, .getfield 26, 3, 8, 7, 1), (47, .iload_n 2, 1, 0, 0, 0)],
  [(48, .iaload, 1, 0, 0, 0), (49, .goto 5, 3, 0, 0, 0), (52, .bipush (-9), 2, 9, 1, 0), (54, .ireturn, 1, 0, 0, 0)]]
/-- WornSumsModel.findAll()V -/
def pc_140 : List (List (Nat × smI)) := [[(0, .iconst 0, 1, 0, 0, 0), (1, .istore_n 1, 1, 0, 0, 0), (2, .iload_n 1, 1, 0, 0, 0), (3, .aload_n 0, 1, 0, 0, 0), (4, .getfield 7, 3, 8, 0, 1), (7, .iconst 0, 1, 0, 0, 0), (8, .iaload, 1, 0, 0, 0), (9, .if_icmp .ge 14, 3, 0, 0, 0), (12, .aload_n 0, 1, 0, 0, 0), (13, .iload_n 1, 1, 0, 0, 0), (14, .invokevirtual 191, 3, 134, 1, 9)],
  [(17, .iinc 1 1, 3, 1, 0, 0), (20, .goto (-18), 3, 0, 0, 0), (23, .return_, 1, 0, 0, 0)]]
/-- WornSumsModel.findFree()I -/
def pc_141 : List (List (Nat × smI)) := [[(0, .iconst 0, 1, 0, 0, 0), (1, .istore_n 1, 1, 0, 0, 0), (2, .iconst 0, 1, 0, 0, 0), (3, .istore_n 2, 1, 0, 0, 0), (4, .iload_n 2, 1, 0, 0, 0), (5, .aload_n 0, 1, 0, 0, 0), (6, .getfield 7, 3, 8, 0, 1), (9, .iconst 0, 1, 0, 0, 0), (10, .iaload, 1, 0, 0, 0), (11, .if_icmp .ge 102, 3, 0, 0, 0), (14, .ldc 194, 2, 100000, 0, 0)],
  [(16, .istore_n 3, 1, 0, 0, 0), (17, .sipush 1000, 3, 1000, 0, 0), (20, .iload_n 2, 1, 0, 0, 0), (21, .imul, 1, 0, 0, 0), (22, .istore 4, 2, 0, 0, 0), (24, .iload 4, 2, 0, 0, 0), (26, .sipush 1000, 3, 1000, 0, 0), (29, .iload_n 2, 1, 0, 0, 0), (30, .imul, 1, 0, 0, 0), (31, .aload_n 0, 1, 0, 0, 0)],
  [(32, .getfield 35, 3, 8, 11, 1), (35, .iload_n 2, 1, 0, 0, 0), (36, .iaload, 1, 0, 0, 0), (37, .iadd, 1, 0, 0, 0), (38, .if_icmp .ge 65, 3, 0, 0, 0), (41, .aload_n 0, 1, 0, 0, 0), (42, .getfield 44, 3, 8, 14, 1), (45, .iload_n 2, 1, 0, 0, 0), (46, .aload_n 0, 1, 0, 0, 0), (47, .getfield 32, 3, 8, 10, 1)],
  [(50, .iload 4, 2, 0, 0, 0), (52, .iaload, 1, 0, 0, 0), (53, .iload_n 3, 1, 0, 0, 0), (54, .if_icmp .ge 13, 3, 0, 0, 0), (57, .aload_n 0, 1, 0, 0, 0), (58, .getfield 29, 3, 8, 9, 1), (61, .iload 4, 2, 0, 0, 0), (63, .iaload, 1, 0, 0, 0)],
  [(64, .goto 9, 3, 0, 0, 0), (67, .aload_n 0, 1, 0, 0, 0), (68, .getfield 44, 3, 8, 14, 1), (71, .iload_n 2, 1, 0, 0, 0), (72, .iaload, 1, 0, 0, 0), (73, .iastore, 1, 0, 0, 0), (74, .aload_n 0, 1, 0, 0, 0), (75, .getfield 32, 3, 8, 10, 1), (78, .iload 4, 2, 0, 0, 0)],
  [(80, .iaload, 1, 0, 0, 0), (81, .iload_n 3, 1, 0, 0, 0), (82, .if_icmp .ge 13, 3, 0, 0, 0), (85, .aload_n 0, 1, 0, 0, 0), (86, .getfield 32, 3, 8, 10, 1), (89, .iload 4, 2, 0, 0, 0), (91, .iaload, 1, 0, 0, 0), (92, .goto 4, 3, 0, 0, 0), (95, .iload_n 3, 1, 0, 0, 0)],
  [(96, .istore_n 3, 1, 0, 0, 0), (97, .iinc 4 1, 3, 1, 0, 0), (100, .goto (-76), 3, 0, 0, 0), (103, .iload_n 1, 1, 0, 0, 0), (104, .iload_n 3, 1, 0, 0, 0), (105, .iadd, 1, 0, 0, 0), (106, .istore_n 1, 1, 0, 0, 0), (107, .iinc 2 1, 3, 1, 0, 0), (110, .goto (-106), 3, 0, 0, 0)],
  [(113, .iload_n 1, 1, 0, 0, 0), (114, .ldc 194, 2, 100000, 0, 0), (116, .if_icmp .lt 8, 3, 0, 0, 0), (119, .bipush (-9), 2, 9, 1, 0), (121, .goto 4, 3, 0, 0, 0), (124, .iload_n 1, 1, 0, 0, 0), (125, .ireturn, 1, 0, 0, 0)]]
/-- WornSumsModel.leastAt(II)I -/
def pc_142 : List (List (Nat × smI)) := [[(0, .iload_n 1, 1, 0, 0, 0), (1, .aload_n 0, 1, 0, 0, 0), (2, .getfield 7, 3, 8, 0, 1), (5, .iconst 0, 1, 0, 0, 0), (6, .iaload, 1, 0, 0, 0), (7, .if_icmp .ne 14, 3, 0, 0, 0), (10, .iload_n 2, 1, 0, 0, 0), (11, .ifCond .ne 7, 3, 0, 0, 0), (14, .iconst 0, 1, 0, 0, 0), (15, .goto 5, 3, 0, 0, 0)],
  [(18, .ldc 194, 2, 100000, 0, 0), (20, .ireturn, 1, 0, 0, 0), (21, .iload_n 1, 1, 0, 0, 0), (22, .iconst 3, 1, 3, 0, 0), (23, .if_icmp .ge 18, 3, 0, 0, 0), (26, .aload_n 0, 1, 0, 0, 0), (27, .getfield 38, 3, 8, 12, 1), (30, .sipush 5995, 3, 5995, 0, 0)],
  [(33, .iload_n 1, 1, 0, 0, 0), (34, .imul, 1, 0, 0, 0), (35, .iload_n 2, 1, 0, 0, 0), (36, .iadd, 1, 0, 0, 0), (37, .iaload, 1, 0, 0, 0), (38, .goto 17, 3, 0, 0, 0), (41, .aload_n 0, 1, 0, 0, 0), (42, .getfield 41, 3, 8, 13, 1), (45, .sipush 5995, 3, 5995, 0, 0)],
  [(48, .iload_n 1, 1, 0, 0, 0), (49, .iconst 3, 1, 3, 0, 0), (50, .isub, 1, 0, 0, 0), (51, .imul, 1, 0, 0, 0), (52, .iload_n 2, 1, 0, 0, 0), (53, .iadd, 1, 0, 0, 0), (54, .iaload, 1, 0, 0, 0), (55, .ireturn, 1, 0, 0, 0)]]
/-- WornSumsModel.layLeast(II)V -/
def pc_143 : List (List (Nat × smI)) := [[(0, .ldc 194, 2, 100000, 0, 0), (2, .istore_n 3, 1, 0, 0, 0), (3, .sipush 1000, 3, 1000, 0, 0), (6, .iload_n 1, 1, 0, 0, 0), (7, .imul, 1, 0, 0, 0), (8, .istore 4, 2, 0, 0, 0), (10, .iload 4, 2, 0, 0, 0), (12, .istore 5, 2, 0, 0, 0), (14, .iload 5, 2, 0, 0, 0)],
  [(16, .iload 4, 2, 0, 0, 0), (18, .aload_n 0, 1, 0, 0, 0), (19, .getfield 35, 3, 8, 11, 1), (22, .iload_n 1, 1, 0, 0, 0), (23, .iaload, 1, 0, 0, 0), (24, .iadd, 1, 0, 0, 0), (25, .if_icmp .ge 59, 3, 0, 0, 0), (28, .aload_n 0, 1, 0, 0, 0), (29, .getfield 29, 3, 8, 9, 1)],
  [(32, .iload 5, 2, 0, 0, 0), (34, .iaload, 1, 0, 0, 0), (35, .iload_n 2, 1, 0, 0, 0), (36, .if_icmp .gt 48, 3, 0, 0, 0), (39, .aload_n 0, 1, 0, 0, 0), (40, .iload_n 1, 1, 0, 0, 0), (41, .iconst 1, 1, 1, 0, 0), (42, .iadd, 1, 0, 0, 0), (43, .iload_n 2, 1, 0, 0, 0), (44, .aload_n 0, 1, 0, 0, 0), (45, .getfield 29, 3, 8, 9, 1)],
  [(48, .iload 5, 2, 0, 0, 0), (50, .iaload, 1, 0, 0, 0), (51, .isub, 1, 0, 0, 0), (52, .invokevirtual 195, 3, 142, 2, 9), (55, .aload_n 0, 1, 0, 0, 0), (56, .getfield 32, 3, 8, 10, 1), (59, .iload 5, 2, 0, 0, 0), (61, .iaload, 1, 0, 0, 0), (62, .iadd, 1, 0, 0, 0), (63, .istore 6, 2, 0, 0, 0)],
  [(65, .iload 6, 2, 0, 0, 0), (67, .iload_n 3, 1, 0, 0, 0), (68, .if_icmp .ge 8, 3, 0, 0, 0), (71, .iload 6, 2, 0, 0, 0), (73, .goto 4, 3, 0, 0, 0), (76, .iload_n 3, 1, 0, 0, 0), (77, .istore_n 3, 1, 0, 0, 0), (78, .iinc 5 1, 3, 1, 0, 0)],
  [(81, .goto (-67), 3, 0, 0, 0), (84, .iload_n 1, 1, 0, 0, 0), (85, .iconst 3, 1, 3, 0, 0), (86, .if_icmp .ge 19, 3, 0, 0, 0), (89, .aload_n 0, 1, 0, 0, 0), (90, .getfield 38, 3, 8, 12, 1), (93, .sipush 5995, 3, 5995, 0, 0)],
  [(96, .iload_n 1, 1, 0, 0, 0), (97, .imul, 1, 0, 0, 0), (98, .iload_n 2, 1, 0, 0, 0), (99, .iadd, 1, 0, 0, 0), (100, .iload_n 3, 1, 0, 0, 0), (101, .iastore, 1, 0, 0, 0), (102, .goto 18, 3, 0, 0, 0), (105, .aload_n 0, 1, 0, 0, 0), (106, .getfield 41, 3, 8, 13, 1), (109, .sipush 5995, 3, 5995, 0, 0)],
  [(112, .iload_n 1, 1, 0, 0, 0), (113, .iconst 3, 1, 3, 0, 0), (114, .isub, 1, 0, 0, 0), (115, .imul, 1, 0, 0, 0), (116, .iload_n 2, 1, 0, 0, 0), (117, .iadd, 1, 0, 0, 0), (118, .iload_n 3, 1, 0, 0, 0), (119, .iastore, 1, 0, 0, 0), (120, .return_, 1, 0, 0, 0)]]
/-- WornSumsModel.findSum()I -/
def pc_144 : List (List (Nat × smI)) := [[(0, .aload_n 0, 1, 0, 0, 0), (1, .getfield 7, 3, 8, 0, 1), (4, .iconst 2, 1, 2, 0, 0), (5, .iaload, 1, 0, 0, 0), (6, .istore_n 1, 1, 0, 0, 0), (7, .iload_n 1, 1, 0, 0, 0), (8, .sipush 5995, 3, 5995, 0, 0), (11, .if_icmp .lt 6, 3, 0, 0, 0), (14, .bipush (-9), 2, 9, 1, 0)],
  [(16, .ireturn, 1, 0, 0, 0), (17, .aload_n 0, 1, 0, 0, 0), (18, .getfield 7, 3, 8, 0, 1), (21, .iconst 0, 1, 0, 0, 0), (22, .iaload, 1, 0, 0, 0), (23, .iconst 1, 1, 1, 0, 0), (24, .isub, 1, 0, 0, 0), (25, .istore_n 2, 1, 0, 0, 0), (26, .iload_n 2, 1, 0, 0, 0), (27, .ifCond .lt 28, 3, 0, 0, 0), (30, .iconst 0, 1, 0, 0, 0), (31, .istore_n 3, 1, 0, 0, 0)],
  [(32, .iload_n 3, 1, 0, 0, 0), (33, .iload_n 1, 1, 0, 0, 0), (34, .if_icmp .gt 15, 3, 0, 0, 0), (37, .aload_n 0, 1, 0, 0, 0), (38, .iload_n 2, 1, 0, 0, 0), (39, .iload_n 3, 1, 0, 0, 0), (40, .invokevirtual 207, 3, 143, 2, 9), (43, .iinc 3 1, 3, 1, 0, 0), (46, .goto (-14), 3, 0, 0, 0)],
  [(49, .iinc 2 (-1), 3, 1, 1, 0), (52, .goto (-26), 3, 0, 0, 0), (55, .aload_n 0, 1, 0, 0, 0), (56, .iconst 0, 1, 0, 0, 0), (57, .iload_n 1, 1, 0, 0, 0), (58, .invokevirtual 195, 3, 142, 2, 9), (61, .istore_n 2, 1, 0, 0, 0), (62, .iload_n 2, 1, 0, 0, 0), (63, .ldc 194, 2, 100000, 0, 0)],
  [(65, .if_icmp .lt 6, 3, 0, 0, 0), (68, .bipush (-9), 2, 9, 1, 0), (70, .ireturn, 1, 0, 0, 0), (71, .iload_n 1, 1, 0, 0, 0), (72, .istore_n 3, 1, 0, 0, 0), (73, .iconst 0, 1, 0, 0, 0), (74, .istore 4, 2, 0, 0, 0), (76, .iload 4, 2, 0, 0, 0), (78, .aload_n 0, 1, 0, 0, 0), (79, .getfield 7, 3, 8, 0, 1)],
  [(82, .iconst 0, 1, 0, 0, 0), (83, .iaload, 1, 0, 0, 0), (84, .if_icmp .ge 93, 3, 0, 0, 0), (87, .sipush 1000, 3, 1000, 0, 0), (90, .iload 4, 2, 0, 0, 0), (92, .imul, 1, 0, 0, 0), (93, .istore 5, 2, 0, 0, 0), (95, .aload_n 0, 1, 0, 0, 0)],
  [(96, .getfield 29, 3, 8, 9, 1), (99, .iload 5, 2, 0, 0, 0), (101, .iaload, 1, 0, 0, 0), (102, .iload_n 3, 1, 0, 0, 0), (103, .if_icmp .gt 38, 3, 0, 0, 0), (106, .aload_n 0, 1, 0, 0, 0), (107, .iload 4, 2, 0, 0, 0), (109, .iconst 1, 1, 1, 0, 0), (110, .iadd, 1, 0, 0, 0), (111, .iload_n 3, 1, 0, 0, 0)],
  [(112, .aload_n 0, 1, 0, 0, 0), (113, .getfield 29, 3, 8, 9, 1), (116, .iload 5, 2, 0, 0, 0), (118, .iaload, 1, 0, 0, 0), (119, .isub, 1, 0, 0, 0), (120, .invokevirtual 195, 3, 142, 2, 9), (123, .aload_n 0, 1, 0, 0, 0), (124, .getfield 32, 3, 8, 10, 1), (127, .iload 5, 2, 0, 0, 0)],
  [(129, .iaload, 1, 0, 0, 0), (130, .iadd, 1, 0, 0, 0), (131, .aload_n 0, 1, 0, 0, 0), (132, .iload 4, 2, 0, 0, 0), (134, .iload_n 3, 1, 0, 0, 0), (135, .invokevirtual 195, 3, 142, 2, 9), (138, .if_icmp .eq 9, 3, 0, 0, 0), (141, .iinc 5 1, 3, 1, 0, 0)],
  [(144, .goto (-49), 3, 0, 0, 0), (147, .aload_n 0, 1, 0, 0, 0), (148, .getfield 44, 3, 8, 14, 1), (151, .iload 4, 2, 0, 0, 0), (153, .aload_n 0, 1, 0, 0, 0), (154, .getfield 29, 3, 8, 9, 1), (157, .iload 5, 2, 0, 0, 0), (159, .iaload, 1, 0, 0, 0)],
  [(160, .iastore, 1, 0, 0, 0), (161, .iload_n 3, 1, 0, 0, 0), (162, .aload_n 0, 1, 0, 0, 0), (163, .getfield 29, 3, 8, 9, 1), (166, .iload 5, 2, 0, 0, 0), (168, .iaload, 1, 0, 0, 0), (169, .isub, 1, 0, 0, 0), (170, .istore_n 3, 1, 0, 0, 0), (171, .iinc 4 1, 3, 1, 0, 0), (174, .goto (-98), 3, 0, 0, 0)],
  [(177, .iload_n 2, 1, 0, 0, 0), (178, .ireturn, 1, 0, 0, 0)]]
/-- WornSumsModel.findLeast()I -/
def pc_145 : List (List (Nat × smI)) := [[(0, .aload_n 0, 1, 0, 0, 0), (1, .invokevirtual 198, 3, 140, 0, 9), (4, .aload_n 0, 1, 0, 0, 0), (5, .getfield 7, 3, 8, 0, 1), (8, .iconst 2, 1, 2, 0, 0), (9, .iaload, 1, 0, 0, 0), (10, .bipush (-9), 2, 9, 1, 0), (12, .if_icmp .ne 10, 3, 0, 0, 0), (15, .aload_n 0, 1, 0, 0, 0)],
  [(16, .invokevirtual 201, 3, 141, 0, 9), (19, .goto 7, 3, 0, 0, 0), (22, .aload_n 0, 1, 0, 0, 0), (23, .invokevirtual 204, 3, 144, 0, 9), (26, .ireturn, 1, 0, 0, 0)]]
/-- WornSumsModel.least(I)I -/
def pc_146 : List (List (Nat × smI)) := [[(0, .iload_n 1, 1, 0, 0, 0), (1, .iconst (-1), 1, 1, 1, 0), (2, .if_icmp .eq 13, 3, 0, 0, 0), (5, .aload_n 0, 1, 0, 0, 0), (6, .iload_n 1, 1, 0, 0, 0), (7, .invokevirtual 158, 3, 116, 1, 9), (10, .ifCond .ne 5, 3, 0, 0, 0), (13, .iconst (-1), 1, 1, 1, 0), (14, .ireturn, 1, 0, 0, 0), (15, .aload_n 0, 1, 0, 0, 0)],
  [(16, .invokevirtual 211, 3, 145, 0, 9), (19, .istore_n 2, 1, 0, 0, 0), (20, .iload_n 2, 1, 0, 0, 0), (21, .bipush (-9), 2, 9, 1, 0), (23, .if_icmp .eq 8, 3, 0, 0, 0), (26, .iload_n 1, 1, 0, 0, 0), (27, .iconst (-1), 1, 1, 1, 0), (28, .if_icmp .ne 7, 3, 0, 0, 0), (31, .iload_n 2, 1, 0, 0, 0)],
  [(32, .goto 9, 3, 0, 0, 0), (35, .aload_n 0, 1, 0, 0, 0), (36, .getfield 44, 3, 8, 14, 1), (39, .iload_n 1, 1, 0, 0, 0), (40, .iaload, 1, 0, 0, 0), (41, .ireturn, 1, 0, 0, 0)]]
/-- WornSumsModel.isAltered()Z -/
def pc_147 : List (List (Nat × smI)) := [[(0, .iconst 0, 1, 0, 0, 0), (1, .istore_n 1, 1, 0, 0, 0), (2, .iconst 0, 1, 0, 0, 0), (3, .istore_n 2, 1, 0, 0, 0), (4, .iload_n 2, 1, 0, 0, 0), (5, .aload_n 0, 1, 0, 0, 0), (6, .getfield 7, 3, 8, 0, 1), (9, .iconst 0, 1, 0, 0, 0), (10, .iaload, 1, 0, 0, 0), (11, .if_icmp .ge 28, 3, 0, 0, 0), (14, .iload_n 1, 1, 0, 0, 0), (15, .ifCond .ne 12, 3, 0, 0, 0)],
  [(18, .aload_n 0, 1, 0, 0, 0), (19, .getfield 35, 3, 8, 11, 1), (22, .iload_n 2, 1, 0, 0, 0), (23, .iaload, 1, 0, 0, 0), (24, .ifCond .ne 7, 3, 0, 0, 0), (27, .iconst 1, 1, 1, 0, 0), (28, .goto 4, 3, 0, 0, 0), (31, .iconst 0, 1, 0, 0, 0)],
  [(32, .istore_n 1, 1, 0, 0, 0), (33, .iinc 2 1, 3, 1, 0, 0), (36, .goto (-32), 3, 0, 0, 0), (39, .iload_n 1, 1, 0, 0, 0), (40, .ireturn, 1, 0, 0, 1)]]
/-- WornSumsModel.addOther(I)V -/
def pc_148 : List (List (Nat × smI)) := [[(0, .sipush 1000, 3, 1000, 0, 0), (3, .iload_n 1, 1, 0, 0, 0), (4, .imul, 1, 0, 0, 0), (5, .istore_n 2, 1, 0, 0, 0), (6, .iconst 0, 1, 0, 0, 0), (7, .istore_n 3, 1, 0, 0, 0), (8, .iload_n 3, 1, 0, 0, 0), (9, .sipush 5995, 3, 5995, 0, 0), (12, .if_icmp .ge 74, 3, 0, 0, 0), (15, .iconst 0, 1, 0, 0, 0)],
  [(16, .istore 4, 2, 0, 0, 0), (18, .iload_n 2, 1, 0, 0, 0), (19, .istore 5, 2, 0, 0, 0), (21, .iload 5, 2, 0, 0, 0), (23, .iload_n 2, 1, 0, 0, 0), (24, .aload_n 0, 1, 0, 0, 0), (25, .getfield 35, 3, 8, 11, 1), (28, .iload_n 1, 1, 0, 0, 0), (29, .iaload, 1, 0, 0, 0), (30, .iadd, 1, 0, 0, 0), (31, .if_icmp .ge 41, 3, 0, 0, 0)],
  [(34, .aload_n 0, 1, 0, 0, 0), (35, .getfield 29, 3, 8, 9, 1), (38, .iload 5, 2, 0, 0, 0), (40, .iaload, 1, 0, 0, 0), (41, .iload_n 3, 1, 0, 0, 0), (42, .if_icmp .gt 30, 3, 0, 0, 0), (45, .iload 4, 2, 0, 0, 0), (47, .ifCond .ne 25, 3, 0, 0, 0)],
  [(50, .aload_n 0, 1, 0, 0, 0), (51, .getfield 47, 3, 8, 15, 1), (54, .iload_n 3, 1, 0, 0, 0), (55, .aload_n 0, 1, 0, 0, 0), (56, .getfield 29, 3, 8, 9, 1), (59, .iload 5, 2, 0, 0, 0), (61, .iaload, 1, 0, 0, 0), (62, .isub, 1, 0, 0, 0), (63, .baload, 1, 0, 0, 0)],
  [(64, .istore 4, 2, 0, 0, 0), (66, .iinc 5 1, 3, 1, 0, 0), (69, .goto (-48), 3, 0, 0, 0), (72, .aload_n 0, 1, 0, 0, 0), (73, .getfield 50, 3, 8, 16, 1), (76, .iload_n 3, 1, 0, 0, 0), (77, .iload 4, 2, 0, 0, 0), (79, .bastore, 1, 0, 0, 0)],
  [(80, .iinc 3 1, 3, 1, 0, 0), (83, .goto (-75), 3, 0, 0, 0), (86, .iconst 0, 1, 0, 0, 0), (87, .istore_n 3, 1, 0, 0, 0), (88, .iload_n 3, 1, 0, 0, 0), (89, .sipush 5995, 3, 5995, 0, 0), (92, .if_icmp .ge 21, 3, 0, 0, 0), (95, .aload_n 0, 1, 0, 0, 0)],
  [(96, .getfield 47, 3, 8, 15, 1), (99, .iload_n 3, 1, 0, 0, 0), (100, .aload_n 0, 1, 0, 0, 0), (101, .getfield 50, 3, 8, 16, 1), (104, .iload_n 3, 1, 0, 0, 0), (105, .baload, 1, 0, 0, 0), (106, .bastore, 1, 0, 0, 0), (107, .iinc 3 1, 3, 1, 0, 0), (110, .goto (-22), 3, 0, 0, 0)],
  [(113, .return_, 1, 0, 0, 0)]]
/-- WornSumsModel.findOthers(I)V -/
def pc_149 : List (List (Nat × smI)) := [[(0, .iconst 0, 1, 0, 0, 0), (1, .istore_n 2, 1, 0, 0, 0), (2, .iload_n 2, 1, 0, 0, 0), (3, .sipush 5995, 3, 5995, 0, 0), (6, .if_icmp .ge 24, 3, 0, 0, 0), (9, .aload_n 0, 1, 0, 0, 0), (10, .getfield 47, 3, 8, 15, 1), (13, .iload_n 2, 1, 0, 0, 0), (14, .iload_n 2, 1, 0, 0, 0), (15, .ifCond .ne 7, 3, 0, 0, 0)],
  [(18, .iconst 1, 1, 1, 0, 0), (19, .goto 4, 3, 0, 0, 0), (22, .iconst 0, 1, 0, 0, 0), (23, .bastore, 1, 0, 0, 0), (24, .iinc 2 1, 3, 1, 0, 0), (27, .goto (-25), 3, 0, 0, 0), (30, .iconst 0, 1, 0, 0, 0), (31, .istore_n 2, 1, 0, 0, 0)],
  [(32, .iload_n 2, 1, 0, 0, 0), (33, .aload_n 0, 1, 0, 0, 0), (34, .getfield 7, 3, 8, 0, 1), (37, .iconst 0, 1, 0, 0, 0), (38, .iaload, 1, 0, 0, 0), (39, .if_icmp .ge 19, 3, 0, 0, 0), (42, .iload_n 2, 1, 0, 0, 0), (43, .iload_n 1, 1, 0, 0, 0), (44, .if_icmp .eq 8, 3, 0, 0, 0), (47, .aload_n 0, 1, 0, 0, 0)],
  [(48, .iload_n 2, 1, 0, 0, 0), (49, .invokevirtual 214, 3, 148, 1, 9), (52, .iinc 2 1, 3, 1, 0, 0), (55, .goto (-23), 3, 0, 0, 0), (58, .return_, 1, 0, 0, 0)]]
/-- WornSumsModel.sure(I)I -/
def pc_150 : List (List (Nat × smI)) := [[(0, .aload_n 0, 1, 0, 0, 0), (1, .iload_n 1, 1, 0, 0, 0), (2, .invokevirtual 158, 3, 116, 1, 9), (5, .ifCond .ne 5, 3, 0, 0, 0), (8, .iconst (-1), 1, 1, 1, 0), (9, .ireturn, 1, 0, 0, 0), (10, .aload_n 0, 1, 0, 0, 0), (11, .invokevirtual 198, 3, 140, 0, 9), (14, .sipush 1000, 3, 1000, 0, 0)],
  [(17, .iload_n 1, 1, 0, 0, 0), (18, .imul, 1, 0, 0, 0), (19, .istore_n 2, 1, 0, 0, 0), (20, .aload_n 0, 1, 0, 0, 0), (21, .getfield 7, 3, 8, 0, 1), (24, .iconst 2, 1, 2, 0, 0), (25, .iaload, 1, 0, 0, 0), (26, .istore_n 3, 1, 0, 0, 0), (27, .iload_n 3, 1, 0, 0, 0), (28, .bipush (-9), 2, 9, 1, 0), (30, .if_icmp .ne 32, 3, 0, 0, 0)],
  [(33, .aload_n 0, 1, 0, 0, 0), (34, .invokevirtual 217, 3, 147, 0, 9), (37, .ifCond .ne 13, 3, 0, 0, 0), (40, .aload_n 0, 1, 0, 0, 0), (41, .getfield 35, 3, 8, 11, 1), (44, .iload_n 1, 1, 0, 0, 0), (45, .iaload, 1, 0, 0, 0), (46, .iconst 1, 1, 1, 0, 0), (47, .if_icmp .eq 8, 3, 0, 0, 0)],
  [(50, .bipush (-9), 2, 9, 1, 0), (52, .goto 9, 3, 0, 0, 0), (55, .aload_n 0, 1, 0, 0, 0), (56, .getfield 29, 3, 8, 9, 1), (59, .iload_n 2, 1, 0, 0, 0), (60, .iaload, 1, 0, 0, 0), (61, .ireturn, 1, 0, 0, 0), (62, .aload_n 0, 1, 0, 0, 0), (63, .iload_n 1, 1, 0, 0, 0)],
  [(64, .invokevirtual 221, 3, 149, 1, 9), (67, .iconst 0, 1, 0, 0, 0), (68, .istore 4, 2, 0, 0, 0), (70, .bipush (-9), 2, 9, 1, 0), (72, .istore 5, 2, 0, 0, 0), (74, .iload_n 2, 1, 0, 0, 0), (75, .istore 6, 2, 0, 0, 0), (77, .iload 6, 2, 0, 0, 0), (79, .iload_n 2, 1, 0, 0, 0)],
  [(80, .aload_n 0, 1, 0, 0, 0), (81, .getfield 35, 3, 8, 11, 1), (84, .iload_n 1, 1, 0, 0, 0), (85, .iaload, 1, 0, 0, 0), (86, .iadd, 1, 0, 0, 0), (87, .if_icmp .ge 54, 3, 0, 0, 0), (90, .iload_n 3, 1, 0, 0, 0), (91, .aload_n 0, 1, 0, 0, 0), (92, .getfield 29, 3, 8, 9, 1), (95, .iload 6, 2, 0, 0, 0)],
  [(97, .iaload, 1, 0, 0, 0), (98, .isub, 1, 0, 0, 0), (99, .istore 7, 2, 0, 0, 0), (101, .iload 7, 2, 0, 0, 0), (103, .iconst 0, 1, 0, 0, 0), (104, .sipush 5994, 3, 5994, 0, 0), (107, .invokestatic 137, 3, 107, 3, 0), (110, .ifCond .eq 25, 3, 0, 0, 0)],
  [(113, .aload_n 0, 1, 0, 0, 0), (114, .getfield 47, 3, 8, 15, 1), (117, .iload 7, 2, 0, 0, 0), (119, .baload, 1, 0, 0, 0), (120, .ifCond .eq 15, 3, 0, 0, 0), (123, .iinc 4 1, 3, 1, 0, 0), (126, .aload_n 0, 1, 0, 0, 0), (127, .getfield 29, 3, 8, 9, 1)],
  [(130, .iload 6, 2, 0, 0, 0), (132, .iaload, 1, 0, 0, 0), (133, .istore 5, 2, 0, 0, 0), (135, .iinc 6 1, 3, 1, 0, 0), (138, .goto (-61), 3, 0, 0, 0), (141, .iload 4, 2, 0, 0, 0), (143, .iconst 1, 1, 1, 0, 0)],
  [(144, .if_icmp .ne 8, 3, 0, 0, 0), (147, .iload 5, 2, 0, 0, 0), (149, .goto 5, 3, 0, 0, 0), (152, .bipush (-9), 2, 9, 1, 0), (154, .ireturn, 1, 0, 0, 0)]]
/-- WornSumsModel.mostAt(II)I -/
def pc_151 : List (List (Nat × smI)) := [[(0, .iconst 0, 1, 0, 0, 0), (1, .istore_n 3, 1, 0, 0, 0), (2, .iload_n 3, 1, 0, 0, 0), (3, .bipush 26, 2, 26, 0, 0), (5, .if_icmp .ge 16, 3, 0, 0, 0), (8, .aload_n 0, 1, 0, 0, 0), (9, .getfield 53, 3, 8, 17, 1), (12, .iload_n 3, 1, 0, 0, 0), (13, .iconst 0, 1, 0, 0, 0), (14, .iastore, 1, 0, 0, 0), (15, .iinc 3 1, 3, 1, 0, 0)],
  [(18, .goto (-16), 3, 0, 0, 0), (21, .iconst 0, 1, 0, 0, 0), (22, .istore_n 3, 1, 0, 0, 0), (23, .sipush 1000, 3, 1000, 0, 0), (26, .iload_n 1, 1, 0, 0, 0), (27, .imul, 1, 0, 0, 0), (28, .istore 4, 2, 0, 0, 0), (30, .iload 4, 2, 0, 0, 0)],
  [(32, .sipush 1000, 3, 1000, 0, 0), (35, .iload_n 1, 1, 0, 0, 0), (36, .imul, 1, 0, 0, 0), (37, .aload_n 0, 1, 0, 0, 0), (38, .getfield 35, 3, 8, 11, 1), (41, .iload_n 1, 1, 0, 0, 0), (42, .iaload, 1, 0, 0, 0), (43, .iadd, 1, 0, 0, 0), (44, .if_icmp .ge 65, 3, 0, 0, 0), (47, .aload_n 0, 1, 0, 0, 0)],
  [(48, .aload_n 0, 1, 0, 0, 0), (49, .getfield 29, 3, 8, 9, 1), (52, .iload 4, 2, 0, 0, 0), (54, .iaload, 1, 0, 0, 0), (55, .invokevirtual 175, 3, 129, 1, 9), (58, .aload_n 0, 1, 0, 0, 0), (59, .getfield 26, 3, 8, 7, 1), (62, .iload_n 2, 1, 0, 0, 0), (63, .iaload, 1, 0, 0, 0)],
  [(64, .bipush 97, 2, 97, 0, 0), (66, .isub, 1, 0, 0, 0), (67, .istore 5, 2, 0, 0, 0), (69, .aload_n 0, 1, 0, 0, 0), (70, .getfield 53, 3, 8, 17, 1), (73, .iload 5, 2, 0, 0, 0), (75, .dup2, 1, 0, 0, 0), (76, .iaload, 1, 0, 0, 0), (77, .iconst 1, 1, 1, 0, 0), (78, .iadd, 1, 0, 0, 0), (79, .iastore, 1, 0, 0, 0)],
  [(80, .aload_n 0, 1, 0, 0, 0), (81, .getfield 53, 3, 8, 17, 1), (84, .iload 5, 2, 0, 0, 0), (86, .iaload, 1, 0, 0, 0), (87, .iload_n 3, 1, 0, 0, 0), (88, .if_icmp .le 13, 3, 0, 0, 0), (91, .aload_n 0, 1, 0, 0, 0), (92, .getfield 53, 3, 8, 17, 1), (95, .iload 5, 2, 0, 0, 0)],
  [(97, .iaload, 1, 0, 0, 0), (98, .goto 4, 3, 0, 0, 0), (101, .iload_n 3, 1, 0, 0, 0), (102, .istore_n 3, 1, 0, 0, 0), (103, .iinc 4 1, 3, 1, 0, 0), (106, .goto (-76), 3, 0, 0, 0), (109, .iload_n 3, 1, 0, 0, 0), (110, .ireturn, 1, 0, 0, 0)]]
/-- WornSumsModel.look(I)I -/
def pc_152 : List (List (Nat × smI)) := [[(0, .aload_n 0, 1, 0, 0, 0), (1, .iload_n 1, 1, 0, 0, 0), (2, .invokevirtual 158, 3, 116, 1, 9), (5, .ifCond .ne 5, 3, 0, 0, 0), (8, .iconst (-1), 1, 1, 1, 0), (9, .ireturn, 1, 0, 0, 0), (10, .aload_n 0, 1, 0, 0, 0), (11, .iload_n 1, 1, 0, 0, 0), (12, .invokevirtual 191, 3, 134, 1, 9), (15, .iload_n 1, 1, 0, 0, 0)],
  [(16, .iconst 0, 1, 0, 0, 0), (17, .invokestatic 161, 3, 118, 2, 0), (20, .istore_n 2, 1, 0, 0, 0), (21, .bipush (-9), 2, 9, 1, 0), (23, .istore_n 3, 1, 0, 0, 0), (24, .sipush 1001, 3, 1001, 0, 0), (27, .istore 4, 2, 0, 0, 0), (29, .iconst 0, 1, 0, 0, 0), (30, .istore 5, 2, 0, 0, 0)],
  [(32, .iload 5, 2, 0, 0, 0), (34, .aload_n 0, 1, 0, 0, 0), (35, .getfield 7, 3, 8, 0, 1), (38, .iload_n 2, 1, 0, 0, 0), (39, .iaload, 1, 0, 0, 0), (40, .if_icmp .ge 74, 3, 0, 0, 0), (43, .aload_n 0, 1, 0, 0, 0), (44, .getfield 35, 3, 8, 11, 1), (47, .iload_n 1, 1, 0, 0, 0)],
  [(48, .iaload, 1, 0, 0, 0), (49, .iconst 1, 1, 1, 0, 0), (50, .if_icmp .le 64, 3, 0, 0, 0), (53, .aload_n 0, 1, 0, 0, 0), (54, .getfield 7, 3, 8, 0, 1), (57, .iload_n 2, 1, 0, 0, 0), (58, .iconst 1, 1, 1, 0, 0), (59, .iadd, 1, 0, 0, 0), (60, .iload 5, 2, 0, 0, 0), (62, .iadd, 1, 0, 0, 0), (63, .iaload, 1, 0, 0, 0)],
  [(64, .bipush 63, 2, 63, 0, 0), (66, .if_icmp .ne 42, 3, 0, 0, 0), (69, .aload_n 0, 1, 0, 0, 0), (70, .iload_n 1, 1, 0, 0, 0), (71, .iload 5, 2, 0, 0, 0), (73, .invokevirtual 224, 3, 151, 2, 9), (76, .istore 6, 2, 0, 0, 0), (78, .iload 6, 2, 0, 0, 0)],
  [(80, .iload 4, 2, 0, 0, 0), (82, .if_icmp .ge 8, 3, 0, 0, 0), (85, .iload 5, 2, 0, 0, 0), (87, .goto 4, 3, 0, 0, 0), (90, .iload_n 3, 1, 0, 0, 0), (91, .istore_n 3, 1, 0, 0, 0), (92, .iload 6, 2, 0, 0, 0), (94, .iload 4, 2, 0, 0, 0)],
  [(96, .if_icmp .ge 8, 3, 0, 0, 0), (99, .iload 6, 2, 0, 0, 0), (101, .goto 5, 3, 0, 0, 0), (104, .iload 4, 2, 0, 0, 0), (106, .istore 4, 2, 0, 0, 0), (108, .iinc 5 1, 3, 1, 0, 0), (111, .goto (-79), 3, 0, 0, 0)],
  [(114, .iload_n 3, 1, 0, 0, 0), (115, .ireturn, 1, 0, 0, 0)]]
/-- WornSumsModel.keep(I)I -/
def pc_153 : List (List (Nat × smI)) := [[(0, .iload_n 1, 1, 0, 0, 0), (1, .iconst 0, 1, 0, 0, 0), (2, .iconst 1, 1, 1, 0, 0), (3, .invokestatic 137, 3, 107, 3, 0), (6, .ifCond .ne 5, 3, 0, 0, 0), (9, .iconst (-1), 1, 1, 1, 0), (10, .ireturn, 1, 0, 0, 0), (11, .aload_n 0, 1, 0, 0, 0), (12, .getfield 7, 3, 8, 0, 1), (15, .iconst 0, 1, 0, 0, 0)],
  [(16, .aload_n 0, 1, 0, 0, 0), (17, .getfield 16, 3, 8, 3, 1), (20, .sipush 219, 3, 219, 0, 0), (23, .iload_n 1, 1, 0, 0, 0), (24, .imul, 1, 0, 0, 0), (25, .sipush 219, 3, 219, 0, 0), (28, .invokestatic 60, 3, 113, 5, 0), (31, .aload_n 0, 1, 0, 0, 0)],
  [(32, .getfield 19, 3, 8, 4, 1), (35, .iload_n 1, 1, 0, 0, 0), (36, .iconst 1, 1, 1, 0, 0), (37, .bastore, 1, 0, 0, 0), (38, .aload_n 0, 1, 0, 0, 0), (39, .getfield 7, 3, 8, 0, 1), (42, .iconst 0, 1, 0, 0, 0), (43, .iaload, 1, 0, 0, 0), (44, .ireturn, 1, 0, 0, 0)]]
/-- WornSumsModel.back(I)I -/
def pc_154 : List (List (Nat × smI)) := [[(0, .iload_n 1, 1, 0, 0, 0), (1, .iconst 0, 1, 0, 0, 0), (2, .iconst 1, 1, 1, 0, 0), (3, .invokestatic 137, 3, 107, 3, 0), (6, .ifCond .ne 5, 3, 0, 0, 0), (9, .iconst (-1), 1, 1, 1, 0), (10, .ireturn, 1, 0, 0, 0), (11, .aload_n 0, 1, 0, 0, 0), (12, .getfield 19, 3, 8, 4, 1), (15, .iload_n 1, 1, 0, 0, 0)],
  [(16, .baload, 1, 0, 0, 0), (17, .ifCond .ne 6, 3, 0, 0, 0), (20, .bipush (-2), 2, 2, 1, 0), (22, .ireturn, 1, 0, 0, 0), (23, .aload_n 0, 1, 0, 0, 0), (24, .getfield 16, 3, 8, 3, 1), (27, .sipush 219, 3, 219, 0, 0), (30, .iload_n 1, 1, 0, 0, 0), (31, .imul, 1, 0, 0, 0)],
  [(32, .aload_n 0, 1, 0, 0, 0), (33, .getfield 7, 3, 8, 0, 1), (36, .iconst 0, 1, 0, 0, 0), (37, .sipush 219, 3, 219, 0, 0), (40, .invokestatic 60, 3, 113, 5, 0), (43, .aload_n 0, 1, 0, 0, 0), (44, .iconst 0, 1, 0, 0, 0), (45, .putfield 56, 3, 8, 2, 0)],
  [(48, .aload_n 0, 1, 0, 0, 0), (49, .getfield 7, 3, 8, 0, 1), (52, .iconst 0, 1, 0, 0, 0), (53, .iaload, 1, 0, 0, 0), (54, .ireturn, 1, 0, 0, 0)]]
/-- WornSumsModel.count(I)I -/
def pc_155 : List (List (Nat × smI)) := [[(0, .iconst 0, 1, 0, 0, 0), (1, .istore_n 2, 1, 0, 0, 0), (2, .iconst 0, 1, 0, 0, 0), (3, .istore_n 3, 1, 0, 0, 0), (4, .iload_n 1, 1, 0, 0, 0), (5, .iconst 1, 1, 1, 0, 0), (6, .if_icmp .eq 8, 3, 0, 0, 0), (9, .iload_n 1, 1, 0, 0, 0), (10, .iconst 4, 1, 4, 0, 0), (11, .if_icmp .ne 7, 3, 0, 0, 0), (14, .aload_n 0, 1, 0, 0, 0), (15, .invokevirtual 198, 3, 140, 0, 9)],
  [(18, .iconst 0, 1, 0, 0, 0), (19, .istore 4, 2, 0, 0, 0), (21, .iload 4, 2, 0, 0, 0), (23, .aload_n 0, 1, 0, 0, 0), (24, .getfield 7, 3, 8, 0, 1), (27, .iconst 0, 1, 0, 0, 0), (28, .iaload, 1, 0, 0, 0), (29, .if_icmp .ge 36, 3, 0, 0, 0)],
  [(32, .iload_n 2, 1, 0, 0, 0), (33, .aload_n 0, 1, 0, 0, 0), (34, .getfield 35, 3, 8, 11, 1), (37, .iload 4, 2, 0, 0, 0), (39, .iaload, 1, 0, 0, 0), (40, .ifCond .ne 7, 3, 0, 0, 0), (43, .iconst 1, 1, 1, 0, 0), (44, .goto 4, 3, 0, 0, 0), (47, .iconst 0, 1, 0, 0, 0)],
  [(48, .iadd, 1, 0, 0, 0), (49, .istore_n 2, 1, 0, 0, 0), (50, .iload_n 3, 1, 0, 0, 0), (51, .aload_n 0, 1, 0, 0, 0), (52, .iload 4, 2, 0, 0, 0), (54, .invokevirtual 168, 3, 121, 1, 9), (57, .iadd, 1, 0, 0, 0), (58, .istore_n 3, 1, 0, 0, 0), (59, .iinc 4 1, 3, 1, 0, 0), (62, .goto (-41), 3, 0, 0, 0)],
  [(65, .iload_n 1, 1, 0, 0, 0), (66, .tableswitch 77 0 6 #[42, 49, 51, 58, 65, 67, 72], 42, 0, 0, 0)],
  [],
  [(108, .aload_n 0, 1, 0, 0, 0), (109, .getfield 7, 3, 8, 0, 1)],
  [(112, .iconst 0, 1, 0, 0, 0), (113, .iaload, 1, 0, 0, 0), (114, .ireturn, 1, 0, 0, 0), (115, .iload_n 2, 1, 0, 0, 0), (116, .ireturn, 1, 0, 0, 0), (117, .aload_n 0, 1, 0, 0, 0), (118, .getfield 7, 3, 8, 0, 1), (121, .iconst 1, 1, 1, 0, 0), (122, .iaload, 1, 0, 0, 0), (123, .ireturn, 1, 0, 0, 0), (124, .aload_n 0, 1, 0, 0, 0), (125, .getfield 7, 3, 8, 0, 1)],
  [(128, .iconst 2, 1, 2, 0, 0), (129, .iaload, 1, 0, 0, 0), (130, .ireturn, 1, 0, 0, 0), (131, .iload_n 3, 1, 0, 0, 0), (132, .ireturn, 1, 0, 0, 0), (133, .aload_n 0, 1, 0, 0, 0), (134, .getfield 141, 3, 8, 6, 0), (137, .ireturn, 1, 0, 0, 0), (138, .aload_n 0, 1, 0, 0, 0), (139, .getfield 56, 3, 8, 2, 0), (142, .ireturn, 1, 0, 0, 0), (143, .iconst (-1), 1, 1, 1, 0)],
  [(144, .ireturn, 1, 0, 0, 0)]]
/-- WornSumsLaw.law([I)Z -/
def pc_156 : List (List (Nat × smI)) := [[(0, .new 7, 3, 7, 0, 0), (3, .dup, 1, 0, 0, 0), (4, .invokespecial 9, 3, 26, 0, 1), (7, .astore_n 1, 1, 0, 0, 0), (8, .new 10, 3, 8, 0, 0), (11, .dup, 1, 0, 0, 0), (12, .invokespecial 12, 3, 106, 0, 1), (15, .astore_n 2, 1, 0, 0, 0)],
  [(16, .iconst 0, 1, 0, 0, 0), (17, .istore_n 3, 1, 0, 0, 0), (18, .iload_n 3, 1, 0, 0, 0), (19, .aload_n 0, 1, 0, 0, 0), (20, .arraylength, 1, 0, 0, 0), (21, .iconst 5, 1, 5, 0, 0), (22, .isub, 1, 0, 0, 0), (23, .if_icmp .gt 671, 3, 0, 0, 0), (26, .aload_n 0, 1, 0, 0, 0), (27, .iload_n 3, 1, 0, 0, 0), (28, .iaload, 1, 0, 0, 0), (29, .bipush 31, 2, 31, 0, 0), (31, .iand, 1, 0, 0, 0)],
  [(32, .tableswitch 656 0 19 #[96, 119, 132, 145, 168, 211, 264, 287, 310, 323, 356, 399, 442, 485, 518, 541, 564, 587, 610, 633], 96, 0, 0, 0)],
  [],
  [],
  [],
  [],
  [],
  [(128, .aload_n 1, 1, 0, 0, 0), (129, .aload_n 0, 1, 0, 0, 0), (130, .iload_n 3, 1, 0, 0, 0), (131, .iconst 1, 1, 1, 0, 0), (132, .iadd, 1, 0, 0, 0), (133, .iaload, 1, 0, 0, 0), (134, .invokevirtual 13, 3, 28, 1, 8), (137, .aload_n 2, 1, 0, 0, 0), (138, .aload_n 0, 1, 0, 0, 0), (139, .iload_n 3, 1, 0, 0, 0), (140, .iconst 1, 1, 1, 0, 0), (141, .iadd, 1, 0, 0, 0), (142, .iaload, 1, 0, 0, 0), (143, .invokevirtual 17, 3, 108, 1, 9)],
  [(146, .if_icmp .eq 542, 3, 0, 0, 0), (149, .iconst 0, 1, 0, 0, 0), (150, .ireturn, 1, 0, 0, 1), (151, .aload_n 1, 1, 0, 0, 0), (152, .invokevirtual 18, 3, 29, 0, 8), (155, .aload_n 2, 1, 0, 0, 0), (156, .invokevirtual 22, 3, 109, 0, 9), (159, .if_icmp .eq 529, 3, 0, 0, 0)],
  [(162, .iconst 0, 1, 0, 0, 0), (163, .ireturn, 1, 0, 0, 1), (164, .aload_n 1, 1, 0, 0, 0), (165, .invokevirtual 23, 3, 47, 0, 8), (168, .aload_n 2, 1, 0, 0, 0), (169, .invokevirtual 26, 3, 115, 0, 9), (172, .if_icmp .eq 516, 3, 0, 0, 0), (175, .iconst 0, 1, 0, 0, 0)],
  [(176, .ireturn, 1, 0, 0, 1), (177, .aload_n 1, 1, 0, 0, 0), (178, .aload_n 0, 1, 0, 0, 0), (179, .iload_n 3, 1, 0, 0, 0), (180, .iconst 1, 1, 1, 0, 0), (181, .iadd, 1, 0, 0, 0), (182, .iaload, 1, 0, 0, 0), (183, .invokevirtual 27, 3, 50, 1, 8), (186, .aload_n 2, 1, 0, 0, 0), (187, .aload_n 0, 1, 0, 0, 0), (188, .iload_n 3, 1, 0, 0, 0), (189, .iconst 1, 1, 1, 0, 0), (190, .iadd, 1, 0, 0, 0), (191, .iaload, 1, 0, 0, 0)],
  [(192, .invokevirtual 30, 3, 117, 1, 9), (195, .if_icmp .eq 493, 3, 0, 0, 0), (198, .iconst 0, 1, 0, 0, 0), (199, .ireturn, 1, 0, 0, 1), (200, .aload_n 1, 1, 0, 0, 0), (201, .aload_n 0, 1, 0, 0, 0), (202, .iload_n 3, 1, 0, 0, 0), (203, .iconst 1, 1, 1, 0, 0), (204, .iadd, 1, 0, 0, 0), (205, .iaload, 1, 0, 0, 0), (206, .aload_n 0, 1, 0, 0, 0), (207, .iload_n 3, 1, 0, 0, 0)],
  [(208, .iconst 2, 1, 2, 0, 0), (209, .iadd, 1, 0, 0, 0), (210, .iaload, 1, 0, 0, 0), (211, .aload_n 0, 1, 0, 0, 0), (212, .iload_n 3, 1, 0, 0, 0), (213, .iconst 3, 1, 3, 0, 0), (214, .iadd, 1, 0, 0, 0), (215, .iaload, 1, 0, 0, 0), (216, .invokevirtual 31, 3, 52, 3, 8), (219, .aload_n 2, 1, 0, 0, 0), (220, .aload_n 0, 1, 0, 0, 0), (221, .iload_n 3, 1, 0, 0, 0), (222, .iconst 1, 1, 1, 0, 0), (223, .iadd, 1, 0, 0, 0)],
  [(224, .iaload, 1, 0, 0, 0), (225, .aload_n 0, 1, 0, 0, 0), (226, .iload_n 3, 1, 0, 0, 0), (227, .iconst 2, 1, 2, 0, 0), (228, .iadd, 1, 0, 0, 0), (229, .iaload, 1, 0, 0, 0), (230, .aload_n 0, 1, 0, 0, 0), (231, .iload_n 3, 1, 0, 0, 0), (232, .iconst 3, 1, 3, 0, 0), (233, .iadd, 1, 0, 0, 0), (234, .iaload, 1, 0, 0, 0), (235, .invokevirtual 35, 3, 120, 3, 9), (238, .if_icmp .eq 450, 3, 0, 0, 0)],
  [(241, .iconst 0, 1, 0, 0, 0), (242, .ireturn, 1, 0, 0, 1), (243, .aload_n 1, 1, 0, 0, 0), (244, .aload_n 0, 1, 0, 0, 0), (245, .iload_n 3, 1, 0, 0, 0), (246, .iconst 1, 1, 1, 0, 0), (247, .iadd, 1, 0, 0, 0), (248, .iaload, 1, 0, 0, 0), (249, .aload_n 0, 1, 0, 0, 0), (250, .iload_n 3, 1, 0, 0, 0), (251, .iconst 2, 1, 2, 0, 0), (252, .iadd, 1, 0, 0, 0), (253, .iaload, 1, 0, 0, 0), (254, .aload_n 0, 1, 0, 0, 0), (255, .iload_n 3, 1, 0, 0, 0)],
  [(256, .iconst 3, 1, 3, 0, 0), (257, .iadd, 1, 0, 0, 0), (258, .iaload, 1, 0, 0, 0), (259, .aload_n 0, 1, 0, 0, 0), (260, .iload_n 3, 1, 0, 0, 0), (261, .iconst 4, 1, 4, 0, 0), (262, .iadd, 1, 0, 0, 0), (263, .iaload, 1, 0, 0, 0), (264, .invokevirtual 36, 3, 56, 4, 8), (267, .aload_n 2, 1, 0, 0, 0), (268, .aload_n 0, 1, 0, 0, 0), (269, .iload_n 3, 1, 0, 0, 0), (270, .iconst 1, 1, 1, 0, 0), (271, .iadd, 1, 0, 0, 0)],
  [(272, .iaload, 1, 0, 0, 0), (273, .aload_n 0, 1, 0, 0, 0), (274, .iload_n 3, 1, 0, 0, 0), (275, .iconst 2, 1, 2, 0, 0), (276, .iadd, 1, 0, 0, 0), (277, .iaload, 1, 0, 0, 0), (278, .aload_n 0, 1, 0, 0, 0), (279, .iload_n 3, 1, 0, 0, 0), (280, .iconst 3, 1, 3, 0, 0), (281, .iadd, 1, 0, 0, 0), (282, .iaload, 1, 0, 0, 0), (283, .aload_n 0, 1, 0, 0, 0), (284, .iload_n 3, 1, 0, 0, 0), (285, .iconst 4, 1, 4, 0, 0), (286, .iadd, 1, 0, 0, 0), (287, .iaload, 1, 0, 0, 0)],
  [(288, .invokevirtual 40, 3, 122, 4, 9), (291, .if_icmp .eq 397, 3, 0, 0, 0), (294, .iconst 0, 1, 0, 0, 0), (295, .ireturn, 1, 0, 0, 1), (296, .aload_n 1, 1, 0, 0, 0), (297, .aload_n 0, 1, 0, 0, 0), (298, .iload_n 3, 1, 0, 0, 0), (299, .iconst 1, 1, 1, 0, 0), (300, .iadd, 1, 0, 0, 0), (301, .iaload, 1, 0, 0, 0), (302, .invokevirtual 41, 3, 57, 1, 8)],
  [(305, .aload_n 2, 1, 0, 0, 0), (306, .aload_n 0, 1, 0, 0, 0), (307, .iload_n 3, 1, 0, 0, 0), (308, .iconst 1, 1, 1, 0, 0), (309, .iadd, 1, 0, 0, 0), (310, .iaload, 1, 0, 0, 0), (311, .invokevirtual 44, 3, 124, 1, 9), (314, .if_icmp .eq 374, 3, 0, 0, 0), (317, .iconst 0, 1, 0, 0, 0), (318, .ireturn, 1, 0, 0, 1), (319, .aload_n 1, 1, 0, 0, 0)],
  [(320, .aload_n 0, 1, 0, 0, 0), (321, .iload_n 3, 1, 0, 0, 0), (322, .iconst 1, 1, 1, 0, 0), (323, .iadd, 1, 0, 0, 0), (324, .iaload, 1, 0, 0, 0), (325, .invokevirtual 45, 3, 58, 1, 8), (328, .aload_n 2, 1, 0, 0, 0), (329, .aload_n 0, 1, 0, 0, 0), (330, .iload_n 3, 1, 0, 0, 0), (331, .iconst 1, 1, 1, 0, 0), (332, .iadd, 1, 0, 0, 0), (333, .iaload, 1, 0, 0, 0), (334, .invokevirtual 48, 3, 125, 1, 9)],
  [(337, .if_icmp .eq 351, 3, 0, 0, 0), (340, .iconst 0, 1, 0, 0, 0), (341, .ireturn, 1, 0, 0, 1), (342, .aload_n 1, 1, 0, 0, 0), (343, .invokevirtual 49, 3, 60, 0, 8), (346, .aload_n 2, 1, 0, 0, 0), (347, .invokevirtual 52, 3, 126, 0, 9), (350, .if_icmp .eq 338, 3, 0, 0, 0)],
  [(353, .iconst 0, 1, 0, 0, 0), (354, .ireturn, 1, 0, 0, 1), (355, .aload_n 1, 1, 0, 0, 0), (356, .aload_n 0, 1, 0, 0, 0), (357, .iload_n 3, 1, 0, 0, 0), (358, .iconst 1, 1, 1, 0, 0), (359, .iadd, 1, 0, 0, 0), (360, .iaload, 1, 0, 0, 0), (361, .aload_n 0, 1, 0, 0, 0), (362, .iload_n 3, 1, 0, 0, 0), (363, .iconst 2, 1, 2, 0, 0), (364, .iadd, 1, 0, 0, 0), (365, .iaload, 1, 0, 0, 0), (366, .invokevirtual 53, 3, 71, 2, 8)],
  [(369, .aload_n 2, 1, 0, 0, 0), (370, .aload_n 0, 1, 0, 0, 0), (371, .iload_n 3, 1, 0, 0, 0), (372, .iconst 1, 1, 1, 0, 0), (373, .iadd, 1, 0, 0, 0), (374, .iaload, 1, 0, 0, 0), (375, .aload_n 0, 1, 0, 0, 0), (376, .iload_n 3, 1, 0, 0, 0), (377, .iconst 2, 1, 2, 0, 0), (378, .iadd, 1, 0, 0, 0), (379, .iaload, 1, 0, 0, 0), (380, .invokevirtual 57, 3, 135, 2, 9), (383, .if_icmp .eq 305, 3, 0, 0, 0)],
  [(386, .iconst 0, 1, 0, 0, 0), (387, .ireturn, 1, 0, 0, 1), (388, .aload_n 1, 1, 0, 0, 0), (389, .aload_n 0, 1, 0, 0, 0), (390, .iload_n 3, 1, 0, 0, 0), (391, .iconst 1, 1, 1, 0, 0), (392, .iadd, 1, 0, 0, 0), (393, .iaload, 1, 0, 0, 0), (394, .aload_n 0, 1, 0, 0, 0), (395, .iload_n 3, 1, 0, 0, 0), (396, .iconst 2, 1, 2, 0, 0), (397, .iadd, 1, 0, 0, 0), (398, .iaload, 1, 0, 0, 0), (399, .aload_n 0, 1, 0, 0, 0)],
  [(400, .iload_n 3, 1, 0, 0, 0), (401, .iconst 3, 1, 3, 0, 0), (402, .iadd, 1, 0, 0, 0), (403, .iaload, 1, 0, 0, 0), (404, .invokevirtual 58, 3, 72, 3, 8), (407, .aload_n 2, 1, 0, 0, 0), (408, .aload_n 0, 1, 0, 0, 0), (409, .iload_n 3, 1, 0, 0, 0), (410, .iconst 1, 1, 1, 0, 0), (411, .iadd, 1, 0, 0, 0), (412, .iaload, 1, 0, 0, 0), (413, .aload_n 0, 1, 0, 0, 0), (414, .iload_n 3, 1, 0, 0, 0), (415, .iconst 2, 1, 2, 0, 0)],
  [(416, .iadd, 1, 0, 0, 0), (417, .iaload, 1, 0, 0, 0), (418, .aload_n 0, 1, 0, 0, 0), (419, .iload_n 3, 1, 0, 0, 0), (420, .iconst 3, 1, 3, 0, 0), (421, .iadd, 1, 0, 0, 0), (422, .iaload, 1, 0, 0, 0), (423, .invokevirtual 61, 3, 136, 3, 9), (426, .if_icmp .eq 262, 3, 0, 0, 0), (429, .iconst 0, 1, 0, 0, 0), (430, .ireturn, 1, 0, 0, 1), (431, .aload_n 1, 1, 0, 0, 0)],
  [(432, .aload_n 0, 1, 0, 0, 0), (433, .iload_n 3, 1, 0, 0, 0), (434, .iconst 1, 1, 1, 0, 0), (435, .iadd, 1, 0, 0, 0), (436, .iaload, 1, 0, 0, 0), (437, .aload_n 0, 1, 0, 0, 0), (438, .iload_n 3, 1, 0, 0, 0), (439, .iconst 2, 1, 2, 0, 0), (440, .iadd, 1, 0, 0, 0), (441, .iaload, 1, 0, 0, 0), (442, .aload_n 0, 1, 0, 0, 0), (443, .iload_n 3, 1, 0, 0, 0), (444, .iconst 3, 1, 3, 0, 0), (445, .iadd, 1, 0, 0, 0), (446, .iaload, 1, 0, 0, 0), (447, .invokevirtual 62, 3, 73, 3, 8)],
  [(450, .aload_n 2, 1, 0, 0, 0), (451, .aload_n 0, 1, 0, 0, 0), (452, .iload_n 3, 1, 0, 0, 0), (453, .iconst 1, 1, 1, 0, 0), (454, .iadd, 1, 0, 0, 0), (455, .iaload, 1, 0, 0, 0), (456, .aload_n 0, 1, 0, 0, 0), (457, .iload_n 3, 1, 0, 0, 0), (458, .iconst 2, 1, 2, 0, 0), (459, .iadd, 1, 0, 0, 0), (460, .iaload, 1, 0, 0, 0), (461, .aload_n 0, 1, 0, 0, 0), (462, .iload_n 3, 1, 0, 0, 0), (463, .iconst 3, 1, 3, 0, 0)],
  [(464, .iadd, 1, 0, 0, 0), (465, .iaload, 1, 0, 0, 0), (466, .invokevirtual 65, 3, 137, 3, 9), (469, .if_icmp .eq 219, 3, 0, 0, 0), (472, .iconst 0, 1, 0, 0, 0), (473, .ireturn, 1, 0, 0, 1), (474, .aload_n 1, 1, 0, 0, 0), (475, .aload_n 0, 1, 0, 0, 0), (476, .iload_n 3, 1, 0, 0, 0), (477, .iconst 1, 1, 1, 0, 0), (478, .iadd, 1, 0, 0, 0), (479, .iaload, 1, 0, 0, 0)],
  [(480, .aload_n 0, 1, 0, 0, 0), (481, .iload_n 3, 1, 0, 0, 0), (482, .iconst 2, 1, 2, 0, 0), (483, .iadd, 1, 0, 0, 0), (484, .iaload, 1, 0, 0, 0), (485, .aload_n 0, 1, 0, 0, 0), (486, .iload_n 3, 1, 0, 0, 0), (487, .iconst 3, 1, 3, 0, 0), (488, .iadd, 1, 0, 0, 0), (489, .iaload, 1, 0, 0, 0), (490, .invokevirtual 66, 3, 78, 3, 8), (493, .aload_n 2, 1, 0, 0, 0), (494, .aload_n 0, 1, 0, 0, 0), (495, .iload_n 3, 1, 0, 0, 0)],
  [(496, .iconst 1, 1, 1, 0, 0), (497, .iadd, 1, 0, 0, 0), (498, .iaload, 1, 0, 0, 0), (499, .aload_n 0, 1, 0, 0, 0), (500, .iload_n 3, 1, 0, 0, 0), (501, .iconst 2, 1, 2, 0, 0), (502, .iadd, 1, 0, 0, 0), (503, .iaload, 1, 0, 0, 0), (504, .aload_n 0, 1, 0, 0, 0), (505, .iload_n 3, 1, 0, 0, 0), (506, .iconst 3, 1, 3, 0, 0), (507, .iadd, 1, 0, 0, 0), (508, .iaload, 1, 0, 0, 0), (509, .invokevirtual 69, 3, 138, 3, 9)],
  [(512, .if_icmp .eq 176, 3, 0, 0, 0), (515, .iconst 0, 1, 0, 0, 0), (516, .ireturn, 1, 0, 0, 1), (517, .aload_n 1, 1, 0, 0, 0), (518, .aload_n 0, 1, 0, 0, 0), (519, .iload_n 3, 1, 0, 0, 0), (520, .iconst 1, 1, 1, 0, 0), (521, .iadd, 1, 0, 0, 0), (522, .iaload, 1, 0, 0, 0), (523, .aload_n 0, 1, 0, 0, 0), (524, .iload_n 3, 1, 0, 0, 0), (525, .iconst 2, 1, 2, 0, 0), (526, .iadd, 1, 0, 0, 0), (527, .iaload, 1, 0, 0, 0)],
  [(528, .invokevirtual 70, 3, 79, 2, 8), (531, .aload_n 2, 1, 0, 0, 0), (532, .aload_n 0, 1, 0, 0, 0), (533, .iload_n 3, 1, 0, 0, 0), (534, .iconst 1, 1, 1, 0, 0), (535, .iadd, 1, 0, 0, 0), (536, .iaload, 1, 0, 0, 0), (537, .aload_n 0, 1, 0, 0, 0), (538, .iload_n 3, 1, 0, 0, 0), (539, .iconst 2, 1, 2, 0, 0), (540, .iadd, 1, 0, 0, 0), (541, .iaload, 1, 0, 0, 0), (542, .invokevirtual 73, 3, 139, 2, 9)],
  [(545, .if_icmp .eq 143, 3, 0, 0, 0), (548, .iconst 0, 1, 0, 0, 0), (549, .ireturn, 1, 0, 0, 1), (550, .aload_n 1, 1, 0, 0, 0), (551, .aload_n 0, 1, 0, 0, 0), (552, .iload_n 3, 1, 0, 0, 0), (553, .iconst 1, 1, 1, 0, 0), (554, .iadd, 1, 0, 0, 0), (555, .iaload, 1, 0, 0, 0), (556, .invokevirtual 74, 3, 91, 1, 8), (559, .aload_n 2, 1, 0, 0, 0)],
  [(560, .aload_n 0, 1, 0, 0, 0), (561, .iload_n 3, 1, 0, 0, 0), (562, .iconst 1, 1, 1, 0, 0), (563, .iadd, 1, 0, 0, 0), (564, .iaload, 1, 0, 0, 0), (565, .invokevirtual 77, 3, 146, 1, 9), (568, .if_icmp .eq 120, 3, 0, 0, 0), (571, .iconst 0, 1, 0, 0, 0), (572, .ireturn, 1, 0, 0, 1), (573, .aload_n 1, 1, 0, 0, 0), (574, .aload_n 0, 1, 0, 0, 0), (575, .iload_n 3, 1, 0, 0, 0)],
  [(576, .iconst 1, 1, 1, 0, 0), (577, .iadd, 1, 0, 0, 0), (578, .iaload, 1, 0, 0, 0), (579, .invokevirtual 78, 3, 98, 1, 8), (582, .aload_n 2, 1, 0, 0, 0), (583, .aload_n 0, 1, 0, 0, 0), (584, .iload_n 3, 1, 0, 0, 0), (585, .iconst 1, 1, 1, 0, 0), (586, .iadd, 1, 0, 0, 0), (587, .iaload, 1, 0, 0, 0), (588, .invokevirtual 81, 3, 150, 1, 9), (591, .if_icmp .eq 97, 3, 0, 0, 0)],
  [(594, .iconst 0, 1, 0, 0, 0), (595, .ireturn, 1, 0, 0, 1), (596, .aload_n 1, 1, 0, 0, 0), (597, .aload_n 0, 1, 0, 0, 0), (598, .iload_n 3, 1, 0, 0, 0), (599, .iconst 1, 1, 1, 0, 0), (600, .iadd, 1, 0, 0, 0), (601, .iaload, 1, 0, 0, 0), (602, .invokevirtual 82, 3, 101, 1, 8), (605, .aload_n 2, 1, 0, 0, 0), (606, .aload_n 0, 1, 0, 0, 0), (607, .iload_n 3, 1, 0, 0, 0)],
  [(608, .iconst 1, 1, 1, 0, 0), (609, .iadd, 1, 0, 0, 0), (610, .iaload, 1, 0, 0, 0), (611, .invokevirtual 85, 3, 152, 1, 9), (614, .if_icmp .eq 74, 3, 0, 0, 0), (617, .iconst 0, 1, 0, 0, 0), (618, .ireturn, 1, 0, 0, 1), (619, .aload_n 1, 1, 0, 0, 0), (620, .aload_n 0, 1, 0, 0, 0), (621, .iload_n 3, 1, 0, 0, 0), (622, .iconst 1, 1, 1, 0, 0), (623, .iadd, 1, 0, 0, 0)],
  [(624, .iaload, 1, 0, 0, 0), (625, .invokevirtual 86, 3, 102, 1, 8), (628, .aload_n 2, 1, 0, 0, 0), (629, .aload_n 0, 1, 0, 0, 0), (630, .iload_n 3, 1, 0, 0, 0), (631, .iconst 1, 1, 1, 0, 0), (632, .iadd, 1, 0, 0, 0), (633, .iaload, 1, 0, 0, 0), (634, .invokevirtual 89, 3, 153, 1, 9), (637, .if_icmp .eq 51, 3, 0, 0, 0)],
  [(640, .iconst 0, 1, 0, 0, 0), (641, .ireturn, 1, 0, 0, 1), (642, .aload_n 1, 1, 0, 0, 0), (643, .aload_n 0, 1, 0, 0, 0), (644, .iload_n 3, 1, 0, 0, 0), (645, .iconst 1, 1, 1, 0, 0), (646, .iadd, 1, 0, 0, 0), (647, .iaload, 1, 0, 0, 0), (648, .invokevirtual 90, 3, 103, 1, 8), (651, .aload_n 2, 1, 0, 0, 0), (652, .aload_n 0, 1, 0, 0, 0), (653, .iload_n 3, 1, 0, 0, 0), (654, .iconst 1, 1, 1, 0, 0), (655, .iadd, 1, 0, 0, 0)],
  [(656, .iaload, 1, 0, 0, 0), (657, .invokevirtual 93, 3, 154, 1, 9), (660, .if_icmp .eq 28, 3, 0, 0, 0), (663, .iconst 0, 1, 0, 0, 0), (664, .ireturn, 1, 0, 0, 1), (665, .aload_n 1, 1, 0, 0, 0), (666, .aload_n 0, 1, 0, 0, 0), (667, .iload_n 3, 1, 0, 0, 0), (668, .iconst 1, 1, 1, 0, 0), (669, .iadd, 1, 0, 0, 0), (670, .iaload, 1, 0, 0, 0), (671, .invokevirtual 94, 3, 105, 1, 8)],
  [(674, .aload_n 2, 1, 0, 0, 0), (675, .aload_n 0, 1, 0, 0, 0), (676, .iload_n 3, 1, 0, 0, 0), (677, .iconst 1, 1, 1, 0, 0), (678, .iadd, 1, 0, 0, 0), (679, .iaload, 1, 0, 0, 0), (680, .invokevirtual 97, 3, 155, 1, 9), (683, .if_icmp .eq 5, 3, 0, 0, 0), (686, .iconst 0, 1, 0, 0, 0), (687, .ireturn, 1, 0, 0, 1)],
  [(688, .iinc 3 5, 3, 5, 0, 0), (691, .goto (-673), 3, 0, 0, 0), (694, .iconst 1, 1, 1, 0, 0), (695, .ireturn, 1, 0, 0, 1)]]
def pp_pc : List (List (List (Nat × smI))) := [pc_0, pc_1, pc_2, pc_3, pc_4, pc_5, pc_6, pc_7, pc_8, pc_9, pc_10, pc_11, pc_12, pc_13, pc_14, pc_15, pc_16, pc_17, pc_18, pc_19, pc_20, pc_21, pc_22, pc_23, pc_24, pc_25, pc_26, pc_27, pc_28, pc_29, pc_30, pc_31, pc_32, pc_33, pc_34, pc_35, pc_36, pc_37, pc_38, pc_39, pc_40, pc_41, pc_42, pc_43, pc_44, pc_45, pc_46, pc_47, pc_48, pc_49, pc_50, pc_51, pc_52, pc_53, pc_54, pc_55, pc_56, pc_57, pc_58, pc_59, pc_60, pc_61, pc_62, pc_63, pc_64, pc_65, pc_66, pc_67, pc_68, pc_69, pc_70, pc_71, pc_72, pc_73, pc_74, pc_75, pc_76, pc_77, pc_78, pc_79, pc_80, pc_81, pc_82, pc_83, pc_84, pc_85, pc_86, pc_87, pc_88, pc_89, pc_90, pc_91, pc_92, pc_93, pc_94, pc_95, pc_96, pc_97, pc_98, pc_99, pc_100, pc_101, pc_102, pc_103, pc_104, pc_105, pc_106, pc_107, pc_108, pc_109, pc_110, pc_111, pc_112, pc_113, pc_114, pc_115, pc_116, pc_117, pc_118, pc_119, pc_120, pc_121, pc_122, pc_123, pc_124, pc_125, pc_126, pc_127, pc_128, pc_129, pc_130, pc_131, pc_132, pc_133, pc_134, pc_135, pc_136, pc_137, pc_138, pc_139, pc_140, pc_141, pc_142, pc_143, pc_144, pc_145, pc_146, pc_147, pc_148, pc_149, pc_150, pc_151, pc_152, pc_153, pc_154, pc_155, pc_156]
def pp_tr : List (List (Nat × List Nat)) := [[],
  [],
  [(8, [0, 1, 2]), (24, [0, 1, 2])],
  [(10, [0]), (18, [0])],
  [(11, [1, 2]), (26, [1, 2])],
  [(10, [0])],
  [(14, [])],
  [(9, [])],
  [(17, []), (18, [])],
  [(9, [0, 1, 2])],
  [(8, [])],
  [(6, [0, 1])],
  [(4, [0, 1]), (15, [])],
  [(15, []), (16, [])],
  [(4, [0, 1, 2]), (18, [])],
  [(6, [0, 1, 2, 3, 4, 5]), (12, [0, 1, 2, 3, 4, 5]), (21, [0, 1, 2, 3, 4, 5]), (49, [0, 1, 2, 3, 4, 5])],
  [(4, [0, 1]), (17, [])],
  [(4, [0, 1, 2]), (27, [])],
  [(5, [0, 1, 2]), (9, [0, 1, 2, 3, 4]), (24, [0, 1, 2, 3, 4]), (28, [0, 1, 2, 3, 4])],
  [(22, []), (31, [0, 1, 2]), (38, [0, 1, 2]), (44, [])],
  [(2, [0, 1, 2, 3]), (7, [0, 1, 2, 3]), (17, [0, 1, 2, 3]), (20, [0, 1, 2, 3])],
  [(14, [0, 1, 2]), (21, [0, 1, 2]), (32, [0, 1, 2]), (38, [])],
  [(14, []), (34, []), (48, []), (56, [])],
  [(24, [0, 1]), (36, [0, 1])],
  [],
  [(69, [0, 1]), (90, [0, 1])],
  [(12, [0]), (23, [0]), (34, [0]), (42, [0]), (60, [0]), (71, [])],
  [],
  [(11, []), (22, [0]), (37, [])],
  [],
  [(30, []), (31, [])],
  [(16, []), (17, [])],
  [(5, [0, 1]), (21, []), (47, [0, 1]), (59, []), (68, []), (69, []), (80, []), (83, []), (88, [])],
  [(16, []), (17, [])],
  [(15, []), (18, []), (22, []), (23, [])],
  [(5, [0, 1, 2]), (24, [0, 1, 2]), (35, [0, 1, 2]), (38, [0, 1, 2]), (50, [0, 1, 2]), (57, [0, 1, 2]), (79, [0]), (84, [0]), (98, [])],
  [(25, []), (26, [])],
  [(5, [0, 1]), (18, [])],
  [(5, [0, 1, 2]), (15, [])],
  [(18, [0, 1, 2]), (33, [0, 1, 2]), (36, [0, 1, 2])],
  [(31, [0, 1, 2]), (54, [0, 1, 2]), (69, [0, 1, 2])],
  [(13, [0]), (35, [0])],
  [],
  [(11, [0]), (18, [])],
  [(2, [0, 1]), (15, [0, 1])],
  [(22, [0, 1, 2, 4]), (42, [0, 1, 2, 4]), (45, [0, 1, 2, 4])],
  [(14, [0, 1]), (30, [0, 1, 2]), (50, [0])],
  [(22, [0]), (38, [0]), (49, [0])],
  [(22, []), (23, [])],
  [(5, [0, 1]), (11, [0, 2]), (43, [0, 2]), (60, [0, 2]), (66, [0])],
  [(8, [0, 1]), (17, [0, 1]), (25, [0])],
  [(5, [0, 1, 2]), (17, []), (38, [])],
  [(9, [0, 3]), (22, [0, 3, 4]), (25, []), (33, [0, 3, 4]), (49, []), (56, [3, 4, 5]), (64, [5])],
  [(8, []), (15, [])],
  [(4, [0, 1, 2]), (17, [0, 1, 2]), (25, [0, 1, 2])],
  [(5, [0, 1]), (17, [0, 1]), (26, []), (31, [])],
  [(9, [0, 1, 2, 3, 4]), (22, [0, 1, 2, 3, 4, 5]), (31, [0, 1, 3, 4, 5]), (34, []), (42, [0, 1, 3, 4, 5]), (54, [0, 1, 3, 4, 5]), (63, [0, 1]), (71, [])],
  [(9, []), (31, [0, 1, 2])],
  [(17, []), (19, [0, 1]), (39, [0, 1, 2])],
  [(27, [0, 1]), (43, [0])],
  [(24, [0]), (31, [0])],
  [(6, []), (19, [])],
  [(9, [0, 1, 2, 3]), (24, [0, 1, 2, 3, 4, 5, 6]), (39, [0, 1, 2, 3, 4, 5, 6]), (48, [0, 1, 2, 3, 4, 5, 6, 7]), (62, [0, 1, 2, 3, 4, 5, 6, 7, 8]), (74, [0, 1, 2, 3, 4, 5, 6, 7, 8]), (106, [0, 1, 2, 3, 4, 5, 6]), (125, [])],
  [(19, [])],
  [(15, [2, 3, 4]), (24, [2, 3, 4]), (34, [2, 3, 4]), (47, [2, 3, 4]), (53, [2, 3, 4])],
  [(8, [0, 1]), (26, [0, 2, 3, 4]), (37, [0, 2, 3, 4]), (73, [0, 2, 3, 4, 5, 6]), (92, [0, 2, 3, 4])],
  [(54, [])],
  [(18, [0, 1, 2, 3, 4, 5]), (35, [0, 1, 2, 3, 4, 5]), (43, [0, 1, 2, 3, 4, 5, 6]), (62, [0, 1, 2, 3, 4, 5, 6, 7]), (79, [0, 1, 2, 3, 4, 5, 6, 7]), (104, [0, 1, 2, 3, 4, 5])],
  [(10, [0, 1, 2, 3]), (50, [0, 1, 2, 3]), (56, [0])],
  [(18, []), (19, [])],
  [(15, [0, 1]), (23, [])],
  [(8, [0, 1, 2]), (52, [0, 1]), (61, []), (62, [0, 1]), (71, []), (72, [0, 1]), (80, []), (81, [0, 1]), (86, []), (90, [0, 1]), (95, []), (99, [0, 1]), (104, []), (108, [])],
  [(9, [3]), (22, [3, 4]), (25, []), (35, [])],
  [(9, [0, 2, 3]), (20, [0, 2, 3, 4]), (23, []), (46, []), (55, [])],
  [(30, []), (32, [])],
  [(4, [0, 1, 2, 3]), (17, [0, 1, 2, 3]), (22, [0, 1, 2, 3]), (30, [0, 1, 2, 3]), (37, [0, 1, 2, 3, 4]), (42, [0, 1, 2, 3, 4]), (54, [0, 1, 2, 3, 4]), (55, [0, 1, 2, 3, 4]), (67, [0, 1, 2, 3]), (70, [0, 1, 2, 3])],
  [(2, [0, 1, 2]), (15, [0, 1, 2])],
  [(30, []), (32, [])],
  [(8, [0, 1, 2, 3]), (24, []), (31, [2, 3]), (39, [3, 4]), (62, []), (72, [])],
  [(4, [0, 1, 2]), (12, []), (27, []), (39, [])],
  [(4, [0, 1, 2, 3]), (30, [0, 1, 2, 3]), (36, [2])],
  [(7, [0, 1, 2]), (28, [0, 1, 2]), (44, [0, 1, 2, 3]), (60, [0, 1, 2]), (70, [])],
  [(5, [0, 1, 2, 3])],
  [(21, [])],
  [(6, [0, 1, 2]), (29, []), (36, [2, 4])],
  [(5, [0, 1, 2, 3, 4]), (22, [0, 1, 2, 3, 4]), (41, [0, 1, 2, 4, 5]), (44, [0, 1, 2, 3, 4])],
  [(2, [0, 1, 2, 3]), (23, [0, 1, 2, 3]), (29, [0, 1, 2]), (48, [0, 1, 2]), (60, [0, 2, 3, 4]), (76, [0, 2, 4]), (91, [0, 2, 3, 4, 5]), (127, [0, 2, 3, 4, 5])],
  [(10, []), (15, [0, 1, 2, 3, 4]), (32, [0, 1, 2, 3, 4]), (54, []), (55, [0, 1, 2, 3, 4])],
  [(11, []), (18, [0, 1, 2]), (48, [0, 1, 3, 4]), (94, [0, 1, 3, 4]), (111, [])],
  [(14, [0, 1]), (35, [0, 1, 3]), (52, [0]), (64, [0])],
  [(23, [0, 1]), (24, [0, 1]), (40, [])],
  [(13, [0, 1]), (18, [0, 1]), (33, [0, 1]), (56, [])],
  [(5, [0, 1, 2, 3])],
  [(24, []), (25, [])],
  [(2, [0, 1, 2, 3]), (17, [0, 1, 2, 3]), (21, [0, 1, 2, 3])],
  [(8, [0, 1, 3]), (23, [0, 1, 3])],
  [(8, [0, 1, 2, 3]), (21, [0, 1, 2, 3, 4, 5]), (52, [0, 1, 2, 3, 5]), (78, [0, 1, 2, 3, 4, 5]), (84, [])],
  [(5, [0, 1, 2, 3]), (16, [0, 1, 2, 3]), (39, []), (44, []), (52, [0, 3, 4]), (59, [0, 3, 4, 5, 6]), (78, [0, 3, 4, 5, 6]), (82, [0, 3, 4, 5, 6]), (102, [0, 3, 4, 6]), (104, [0, 3, 4, 5, 6])],
  [(8, [0, 1]), (28, [0, 1]), (50, [])],
  [(8, [0, 1, 2, 3]), (14, [0, 1, 2, 3, 4, 5]), (30, [0, 1, 2, 3, 4, 5]), (34, [0, 1, 2, 3, 4, 5]), (76, [0, 1, 2, 3, 4, 5])],
  [(10, [0, 1, 2, 3, 4, 5, 6]), (25, [0, 1, 2, 3, 4, 5, 6]), (38, [0, 1, 2, 3, 4, 5, 6]), (54, [0, 1, 2, 3, 6, 7]), (62, [0, 1, 2, 3, 4, 5, 6])],
  [(9, [0, 1]), (21, [0, 2]), (48, [])],
  [(9, []), (24, [0, 1])],
  [(9, []), (36, [0]), (51, [0])],
  [(4, [0, 1, 2]), (18, [0, 2])],
  [(44, [0]), (52, [0]), (67, [0]), (81, []), (82, [0]), (90, [0]), (98, [0]), (105, []), (106, [0]), (114, [0]), (122, [])],
  [],
  [(14, []), (15, [])],
  [(8, [0, 1])],
  [],
  [(8, [0]), (17, []), (22, [])],
  [(8, [0]), (17, []), (22, [])],
  [(2, [0, 1]), (19, [0, 1]), (33, [0, 1]), (54, [0, 1]), (55, [0, 1]), (100, [1]), (102, [0, 1]), (108, [0, 1]), (131, [1]), (140, [0, 1, 2]), (157, [0, 1, 2]), (173, [0, 1, 2]), (186, [1]), (192, [])],
  [(3, [0, 1, 2, 3, 4, 5])],
  [(27, [0]), (37, [0]), (60, [0])],
  [(18, [0]), (34, [0]), (48, [0, 2, 3]), (88, [0, 2, 3]), (133, [0])],
  [(13, [])],
  [(5, [0, 1]), (14, [0, 1]), (21, [0, 2])],
  [(17, [])],
  [(5, [0, 1, 2, 3]), (14, [0, 1, 2, 3]), (28, []), (34, []), (41, []), (42, [])],
  [(7, [0, 1, 2, 3]), (17, [0, 3]), (46, []), (53, [0, 4, 5])],
  [(4, [0, 1, 2, 3]), (14, [0, 1, 2, 3]), (19, [0, 1, 2, 3, 4, 5]), (52, [0, 1, 3, 4, 5])],
  [(13, [0, 1, 2, 3, 4]), (25, [0, 1, 2, 3, 4]), (34, [0, 1, 2, 3, 4, 5]), (42, []), (49, [0, 1, 3, 4]), (74, [0, 1, 4, 6]), (88, [])],
  [(19, [0, 1, 2, 3])],
  [(6, [0, 1]), (15, []), (19, [])],
  [(8, [0, 1]), (17, [0, 1]), (23, []), (27, [])],
  [(43, [0])],
  [(136, []), (140, []), (144, []), (148, []), (152, []), (156, []), (160, []), (164, []), (168, []), (172, []), (176, []), (180, []), (184, []), (188, []), (192, []), (196, []), (200, []), (204, []), (208, []), (212, []), (216, []), (220, []), (224, []), (228, []), (232, []), (236, []), (240, []), (244, []), (248, []), (252, []), (256, [])],
  [(28, [0, 1]), (32, [0]), (33, [0, 2])],
  [(24, [0, 1, 2]), (30, [0, 1, 2]), (40, [0, 1, 2]), (50, [0, 2]), (68, [0, 2]), (71, [0, 2]), (92, [])],
  [(5, [0, 2]), (11, [0, 3]), (36, [0, 3, 4, 5, 6]), (70, [0, 3, 4, 5, 6, 7]), (87, [0, 3, 4, 5, 6, 7]), (118, [0, 3, 4, 6, 7]), (119, [0, 3, 4, 6, 7]), (152, [0, 3, 5, 6]), (179, [])],
  [(10, [0, 1]), (21, [2]), (79, []), (84, [])],
  [(5, [0, 2]), (27, [0, 2, 3]), (53, [0, 3, 5, 6, 7]), (110, [0, 3, 5, 6, 7, 8, 9]), (116, [0, 3, 5, 6, 7, 8, 9]), (144, [0, 3, 6, 7])],
  [(5, [0, 1, 2, 3, 4]), (25, [0, 1, 2, 4]), (35, [0, 1, 2, 4]), (45, [0, 1, 2, 4])],
  [(4, [0, 1, 2, 3]), (17, [0, 1, 2, 3]), (37, [0, 1, 2, 3, 4]), (79, [0, 1, 2, 3])],
  [(5, [0, 1, 2]), (14, [0, 1, 2]), (17, []), (33, []), (45, []), (59, []), (65, [0, 1])],
  [(7, [0, 1, 2, 3]), (19, [3]), (28, [])],
  [(5, [0, 1, 2, 3]), (16, [0, 1, 2, 3]), (25, [0, 1, 2, 3]), (28, []), (40, []), (49, [])],
  [(5, [0, 1, 2, 3]), (18, [0, 1, 2, 3]), (21, []), (28, [0, 1, 2, 3]), (39, [0, 1, 2, 3, 4, 5]), (60, [0, 1, 2, 3, 4, 5, 6, 7]), (117, [0, 1, 2, 3, 4, 5, 7]), (121, [0, 1, 2, 3, 4, 5, 7]), (122, [0, 1, 2, 3, 4, 5, 7]), (158, [])],
  [(8, [0, 1, 2]), (16, []), (23, [0, 2]), (54, [])],
  [(2, [0, 1]), (17, [0, 1])],
  [(4, [0, 1, 2]), (24, [0, 1, 2, 3, 4]), (73, [0, 1, 2, 3, 4]), (96, [0, 1, 2, 4]), (125, [])],
  [(20, []), (55, [])],
  [(14, [0, 1, 2, 3, 4, 5]), (55, [0, 1, 2, 3, 4, 5]), (77, [0, 1, 2, 4, 5]), (84, [0, 1, 2, 3]), (120, [])],
  [(26, [0, 1, 2]), (32, [0, 1, 2, 3]), (43, [0, 1, 2, 3]), (61, [0, 1]), (76, [0, 2, 3, 4]), (95, [0, 2, 3, 4, 5]), (123, [0, 2, 3, 4, 5]), (138, [0, 2, 3, 4, 5]), (141, [0, 2, 3, 4, 5])],
  [(4, [0]), (19, []), (26, [])],
  [(10, [0, 1]), (15, [0, 1]), (19, [0, 1]), (31, [2]), (41, [])],
  [(4, [0, 1, 2]), (27, [0, 2]), (32, [0, 2])],
  [(8, [0, 1, 2, 3]), (21, [0, 1, 2, 3, 4, 5]), (72, [0, 1, 2, 3, 4]), (88, [0, 3])],
  [(2, [0, 1, 2]), (23, [0, 1, 2]), (32, [0, 1, 2]), (52, [0, 1, 2])],
  [(5, [0, 1]), (14, [0, 1]), (37, [0, 1, 2]), (50, []), (61, []), (67, [0, 1, 2, 3]), (77, [0, 1, 2, 3, 4, 5, 6]), (110, [0, 1, 2, 3, 4, 5, 6, 7]), (135, [0, 1, 2, 3, 4, 5, 6]), (154, [])],
  [(2, [0, 1, 2, 3]), (30, [0, 1, 2, 3, 4]), (58, [0, 1, 2, 3, 4]), (102, [0, 1, 2, 4])],
  [(5, [0, 1]), (15, [0, 1]), (20, [0, 1]), (32, [0, 1, 2, 3, 4, 5]), (76, [0, 1, 2, 3, 4, 5]), (91, [0, 1, 2, 4, 5, 6]), (106, [0, 1, 2, 3, 5]), (108, [0, 1, 2, 3, 4, 5]), (114, [3])],
  [(6, [0, 1]), (31, [0, 1])],
  [(6, [0, 1]), (43, [0])],
  [(14, [0, 1, 2, 3]), (18, [0, 1, 2, 3]), (21, [0, 1, 2, 3, 4]), (48, [0, 1, 3, 4]), (57, [0, 1, 2, 4]), (108, [0]), (115, [2]), (117, [0]), (124, [0]), (131, [3]), (133, [0]), (138, [0]), (143, [])],
  [(7, [0]), (15, [0, 1]), (18, [0, 1, 2, 3]), (128, [0, 1, 2, 3]), (137, [0, 1, 2, 3]), (146, [0, 1, 2, 3]), (151, [0, 1, 2, 3]), (155, [0, 1, 2, 3]), (159, [0, 1, 2, 3]), (164, [0, 1, 2, 3]), (168, [0, 1, 2, 3]), (172, [0, 1, 2, 3]), (177, [0, 1, 2, 3]), (186, [0, 1, 2, 3]), (195, [0, 1, 2, 3]), (200, [0, 1, 2, 3]), (219, [0, 1, 2, 3]), (238, [0, 1, 2, 3]), (243, [0, 1, 2, 3]), (267, [0, 1, 2, 3]), (291, [0, 1, 2, 3]), (296, [0, 1, 2, 3]), (305, [0, 1, 2, 3]), (314, [0, 1, 2, 3]), (319, [0, 1, 2, 3]), (328, [0, 1, 2, 3]), (337, [0, 1, 2, 3]), (342, [0, 1, 2, 3]), (346, [0, 1, 2, 3]), (350, [0, 1, 2, 3]), (355, [0, 1, 2, 3]), (369, [0, 1, 2, 3]), (383, [0, 1, 2, 3]), (388, [0, 1, 2, 3]), (407, [0, 1, 2, 3]), (426, [0, 1, 2, 3]), (431, [0, 1, 2, 3]), (450, [0, 1, 2, 3]), (469, [0, 1, 2, 3]), (474, [0, 1, 2, 3]), (493, [0, 1, 2, 3]), (512, [0, 1, 2, 3]), (517, [0, 1, 2, 3]), (531, [0, 1, 2, 3]), (545, [0, 1, 2, 3]), (550, [0, 1, 2, 3]), (559, [0, 1, 2, 3]), (568, [0, 1, 2, 3]), (573, [0, 1, 2, 3]), (582, [0, 1, 2, 3]), (591, [0, 1, 2, 3]), (596, [0, 1, 2, 3]), (605, [0, 1, 2, 3]), (614, [0, 1, 2, 3]), (619, [0, 1, 2, 3]), (628, [0, 1, 2, 3]), (637, [0, 1, 2, 3]), (642, [0, 1, 2, 3]), (651, [0, 1, 2, 3]), (660, [0, 1, 2, 3]), (665, [0, 1, 2, 3]), (674, [0, 1, 2, 3]), (683, [0, 1, 2, 3]), (688, [0, 1, 2, 3])]]
def pp_nm : List MethodName := [⟨"WornSums$Text", "<init>", "()V"⟩,
  ⟨"WornSums$Row", "<init>", "(I)V"⟩,
  ⟨"WornSums$Sheet", "newRows", "(I)[LWornSums$Row;"⟩,
  ⟨"WornSums$Sheet", "<init>", "()V"⟩,
  ⟨"WornSums", "newSheets", "(I)[LWornSums$Sheet;"⟩,
  ⟨"WornSums$History", "<init>", "()V"⟩,
  ⟨"java/lang/String", "coder", "()B"⟩,
  ⟨"java/lang/String", "length", "()I"⟩,
  ⟨"java/lang/String", "isLatin1", "()Z"⟩,
  ⟨"jdk/internal/util/Preconditions", "checkIndex", "(IILjava/util/function/BiFunction;)I"⟩,
  ⟨"java/lang/String", "checkIndex", "(II)V"⟩,
  ⟨"java/lang/StringLatin1", "charAt", "([BI)C"⟩,
  ⟨"java/lang/String", "charAt", "(I)C"⟩,
  ⟨"WornSums", "isNumber", "(I)Z"⟩,
  ⟨"WornSums$NumberWords", "addSign", "(IC)V"⟩,
  ⟨"WornSums$NumberWords", "addName", "(ILjava/lang/String;I)V"⟩,
  ⟨"WornSums$NumberWords", "lengthOf", "(I)I"⟩,
  ⟨"WornSums$NumberWords", "at", "(II)I"⟩,
  ⟨"WornSums$NumberWords", "addNumber", "(II)V"⟩,
  ⟨"WornSums$NumberWords", "writeTens", "(I)V"⟩,
  ⟨"WornSums$NumberWords", "addAll", "(ILjava/lang/String;)V"⟩,
  ⟨"WornSums$NumberWords", "writeHundreds", "(I)V"⟩,
  ⟨"WornSums$NumberWords", "write", "(I)V"⟩,
  ⟨"WornSums$NumberWords", "<init>", "()V"⟩,
  ⟨"WornSums$Agreeing", "<init>", "()V"⟩,
  ⟨"WornSums$Findings", "<init>", "()V"⟩,
  ⟨"WornSums", "<init>", "()V"⟩,
  ⟨"WornSums$Text", "add", "(C)Z"⟩,
  ⟨"WornSums", "type", "(I)I"⟩,
  ⟨"WornSums", "clear", "()I"⟩,
  ⟨"WornSums$Text", "at", "(I)C"⟩,
  ⟨"WornSums", "isLetter", "(I)Z"⟩,
  ⟨"WornSums$Text", "standsInWords", "(I)Z"⟩,
  ⟨"WornSums", "isFigureSign", "(I)Z"⟩,
  ⟨"WornSums$Text", "standsInFigures", "(IC)Z"⟩,
  ⟨"WornSums$Text", "fault", "()I"⟩,
  ⟨"WornSums$Row", "hasPlace", "(I)Z"⟩,
  ⟨"WornSums$Row", "at", "(I)C"⟩,
  ⟨"WornSums$Row", "put", "(IC)V"⟩,
  ⟨"WornSums$Row", "copyFrom", "(LWornSums$Row;)V"⟩,
  ⟨"WornSums$Sheet", "copyFrom", "(LWornSums$Sheet;)V"⟩,
  ⟨"WornSums$History", "remember", "(LWornSums$Sheet;)V"⟩,
  ⟨"WornSums$Findings", "forget", "()V"⟩,
  ⟨"WornSums", "startChange", "()V"⟩,
  ⟨"WornSums$Text", "equalsPlace", "()I"⟩,
  ⟨"WornSums$Row", "takeFrom", "(LWornSums$Text;II)V"⟩,
  ⟨"WornSums$Sheet", "addEntry", "(LWornSums$Text;)V"⟩,
  ⟨"WornSums", "tells", "()I"⟩,
  ⟨"WornSums$Sheet", "hasEntry", "(I)Z"⟩,
  ⟨"WornSums$Sheet", "removeEntry", "(I)V"⟩,
  ⟨"WornSums", "drops", "(I)I"⟩,
  ⟨"WornSums$Sheet", "rowOf", "(II)LWornSums$Row;"⟩,
  ⟨"WornSums", "wears", "(III)I"⟩,
  ⟨"WornSums", "canBeMadeOut", "(II)Z"⟩,
  ⟨"WornSums$Row", "worn", "()I"⟩,
  ⟨"WornSums$Sheet", "wornIn", "(I)I"⟩,
  ⟨"WornSums", "makes", "(IIII)I"⟩,
  ⟨"WornSums", "slacks", "(I)I"⟩,
  ⟨"WornSums", "totals", "(I)I"⟩,
  ⟨"WornSums$History", "takeBack", "(LWornSums$Sheet;)V"⟩,
  ⟨"WornSums", "undo", "()I"⟩,
  ⟨"WornSums$Sheet", "lengthOf", "(II)I"⟩,
  ⟨"WornSums$NumberWords", "doubtOf", "(LWornSums$Row;II)I"⟩,
  ⟨"WornSums$Figures", "lengthOf", "(I)I"⟩,
  ⟨"WornSums$Figures", "areAlike", "(II)Z"⟩,
  ⟨"WornSums$Figures", "doubtOf", "(LWornSums$Row;I)I"⟩,
  ⟨"WornSums$Agreeing", "add", "(II)V"⟩,
  ⟨"WornSums$Agreeing", "find", "(LWornSums$Row;LWornSums$Row;ILWornSums$NumberWords;)V"⟩,
  ⟨"WornSums$Findings", "refresh", "(LWornSums$Sheet;LWornSums$NumberWords;)V"⟩,
  ⟨"WornSums$Findings", "agreeingAt", "(I)LWornSums$Agreeing;"⟩,
  ⟨"WornSums", "agreeingOf", "(I)LWornSums$Agreeing;"⟩,
  ⟨"WornSums", "entry", "(II)I"⟩,
  ⟨"WornSums", "sign", "(III)I"⟩,
  ⟨"WornSums", "doubt", "(III)I"⟩,
  ⟨"WornSums$Agreeing", "doubtAt", "(I)I"⟩,
  ⟨"WornSums$Agreeing", "rankOf", "(I)I"⟩,
  ⟨"WornSums$Agreeing", "indexOfRank", "(I)I"⟩,
  ⟨"WornSums$Agreeing", "numberAt", "(I)I"⟩,
  ⟨"WornSums", "ranked", "(III)I"⟩,
  ⟨"WornSums", "word", "(II)I"⟩,
  ⟨"WornSums$Findings", "alteredAmong", "(I)I"⟩,
  ⟨"WornSums$Findings", "findLeastOfAnySum", "(I)V"⟩,
  ⟨"java/util/Arrays", "fill", "([II)V"⟩,
  ⟨"WornSums$Agreeing", "highest", "()I"⟩,
  ⟨"WornSums$Findings", "doubtWith", "(LWornSums$Agreeing;I[II)I"⟩,
  ⟨"WornSums$Findings", "leastAt", "(LWornSums$Agreeing;[II)I"⟩,
  ⟨"WornSums$Findings", "fillLeastBySum", "(II)V"⟩,
  ⟨"WornSums$Findings", "lowestOfLeast", "(LWornSums$Agreeing;[I[II)I"⟩,
  ⟨"WornSums$Findings", "findLeastOfTotal", "(II)V"⟩,
  ⟨"WornSums$Findings", "refreshLeast", "(LWornSums$Sheet;LWornSums$NumberWords;)V"⟩,
  ⟨"WornSums$Findings", "leastNumber", "(I)I"⟩,
  ⟨"WornSums", "least", "(I)I"⟩,
  ⟨"java/util/Arrays", "fill", "([ZZ)V"⟩,
  ⟨"WornSums$Findings", "isReached", "(I)Z"⟩,
  ⟨"WornSums$Findings", "isReachedBy", "(LWornSums$Agreeing;I)Z"⟩,
  ⟨"WornSums$Findings", "reachOn", "(LWornSums$Agreeing;I)V"⟩,
  ⟨"WornSums$Findings", "reachWithout", "(III)V"⟩,
  ⟨"WornSums$Findings", "sureNumber", "(III)I"⟩,
  ⟨"WornSums", "sure", "(I)I"⟩,
  ⟨"WornSums$Findings", "mostOfOneLetter", "(LWornSums$Agreeing;ILWornSums$NumberWords;)I"⟩,
  ⟨"WornSums$Findings", "bestPlace", "(LWornSums$Row;LWornSums$Agreeing;LWornSums$NumberWords;)I"⟩,
  ⟨"WornSums", "look", "(I)I"⟩,
  ⟨"WornSums", "keep", "(I)I"⟩,
  ⟨"WornSums", "back", "(I)I"⟩,
  ⟨"WornSums$Sheet", "wornInAll", "()I"⟩,
  ⟨"WornSums", "count", "(I)I"⟩,
  ⟨"WornSumsModel", "<init>", "()V"⟩,
  ⟨"WornSumsModel", "in", "(III)Z"⟩,
  ⟨"WornSumsModel", "type", "(I)I"⟩,
  ⟨"WornSumsModel", "clear", "()I"⟩,
  ⟨"WornSumsModel", "isLetter", "(I)Z"⟩,
  ⟨"WornSumsModel", "isFigure", "(I)Z"⟩,
  ⟨"WornSumsModel", "readText", "()I"⟩,
  ⟨"WornSumsModel", "bring", "([II[III)V"⟩,
  ⟨"WornSumsModel", "note", "()V"⟩,
  ⟨"WornSumsModel", "tells", "()I"⟩,
  ⟨"WornSumsModel", "isEntry", "(I)Z"⟩,
  ⟨"WornSumsModel", "drops", "(I)I"⟩,
  ⟨"WornSumsModel", "partOf", "(II)I"⟩,
  ⟨"WornSumsModel", "isPlace", "(III)Z"⟩,
  ⟨"WornSumsModel", "wears", "(III)I"⟩,
  ⟨"WornSumsModel", "wornIn", "(I)I"⟩,
  ⟨"WornSumsModel", "makes", "(IIII)I"⟩,
  ⟨"WornSumsModel", "change", "(II)I"⟩,
  ⟨"WornSumsModel", "slacks", "(I)I"⟩,
  ⟨"WornSumsModel", "totals", "(I)I"⟩,
  ⟨"WornSumsModel", "undo", "()I"⟩,
  ⟨"WornSumsModel", "lettersOf", "(I)J"⟩,
  ⟨"WornSumsModel", "say", "(I)V"⟩,
  ⟨"WornSumsModel", "spell", "(I)V"⟩,
  ⟨"WornSumsModel", "doubtByWords", "(II)I"⟩,
  ⟨"WornSumsModel", "areAlike", "(II)Z"⟩,
  ⟨"WornSumsModel", "doubtByFigures", "(II)I"⟩,
  ⟨"WornSumsModel", "manyBy", "(II)I"⟩,
  ⟨"WornSumsModel", "findAgreeing", "(I)V"⟩,
  ⟨"WornSumsModel", "entry", "(II)I"⟩,
  ⟨"WornSumsModel", "sign", "(III)I"⟩,
  ⟨"WornSumsModel", "doubt", "(III)I"⟩,
  ⟨"WornSumsModel", "ranked", "(III)I"⟩,
  ⟨"WornSumsModel", "word", "(II)I"⟩,
  ⟨"WornSumsModel", "findAll", "()V"⟩,
  ⟨"WornSumsModel", "findFree", "()I"⟩,
  ⟨"WornSumsModel", "leastAt", "(II)I"⟩,
  ⟨"WornSumsModel", "layLeast", "(II)V"⟩,
  ⟨"WornSumsModel", "findSum", "()I"⟩,
  ⟨"WornSumsModel", "findLeast", "()I"⟩,
  ⟨"WornSumsModel", "least", "(I)I"⟩,
  ⟨"WornSumsModel", "isAltered", "()Z"⟩,
  ⟨"WornSumsModel", "addOther", "(I)V"⟩,
  ⟨"WornSumsModel", "findOthers", "(I)V"⟩,
  ⟨"WornSumsModel", "sure", "(I)I"⟩,
  ⟨"WornSumsModel", "mostAt", "(II)I"⟩,
  ⟨"WornSumsModel", "look", "(I)I"⟩,
  ⟨"WornSumsModel", "keep", "(I)I"⟩,
  ⟨"WornSumsModel", "back", "(I)I"⟩,
  ⟨"WornSumsModel", "count", "(I)I"⟩,
  ⟨"WornSumsLaw", "law", "([I)Z"⟩]
def pp_by : List ByteArray := [prog_9_method_1_code, prog_7_method_1_code, prog_8_method_2_code, prog_8_method_1_code, prog_1_method_28_code, prog_5_method_1_code, prog_13_method_152_code, prog_13_method_54_code, prog_13_method_154_code, prog_17_method_11_code, prog_13_method_155_code, prog_14_method_2_code, prog_13_method_56_code, prog_1_method_24_code, prog_6_method_8_code, prog_6_method_5_code, prog_6_method_9_code, prog_6_method_10_code, prog_6_method_7_code, prog_6_method_3_code, prog_6_method_6_code, prog_6_method_4_code, prog_6_method_2_code, prog_6_method_1_code, prog_2_method_1_code, prog_4_method_1_code, prog_1_method_1_code, prog_9_method_2_code, prog_1_method_2_code, prog_1_method_3_code, prog_9_method_3_code, prog_1_method_25_code, prog_9_method_5_code, prog_1_method_26_code, prog_9_method_6_code, prog_9_method_4_code, prog_7_method_2_code, prog_7_method_3_code, prog_7_method_4_code, prog_7_method_6_code, prog_8_method_10_code, prog_5_method_2_code, prog_4_method_2_code, prog_1_method_22_code, prog_9_method_7_code, prog_7_method_5_code, prog_8_method_8_code, prog_1_method_4_code, prog_8_method_3_code, prog_8_method_9_code, prog_1_method_5_code, prog_8_method_4_code, prog_1_method_6_code, prog_1_method_27_code, prog_7_method_7_code, prog_8_method_6_code, prog_1_method_7_code, prog_1_method_8_code, prog_1_method_9_code, prog_5_method_3_code, prog_1_method_10_code, prog_8_method_5_code, prog_6_method_11_code, prog_3_method_3_code, prog_3_method_4_code, prog_3_method_2_code, prog_2_method_3_code, prog_2_method_2_code, prog_4_method_3_code, prog_4_method_4_code, prog_1_method_23_code, prog_1_method_11_code, prog_1_method_12_code, prog_1_method_13_code, prog_2_method_5_code, prog_2_method_8_code, prog_2_method_7_code, prog_2_method_4_code, prog_1_method_14_code, prog_1_method_15_code, prog_4_method_5_code, prog_4_method_8_code, prog_16_method_103_code, prog_2_method_6_code, prog_4_method_12_code, prog_4_method_11_code, prog_4_method_10_code, prog_4_method_13_code, prog_4_method_9_code, prog_4_method_6_code, prog_4_method_7_code, prog_1_method_16_code, prog_16_method_111_code, prog_4_method_15_code, prog_4_method_18_code, prog_4_method_17_code, prog_4_method_16_code, prog_4_method_14_code, prog_1_method_17_code, prog_4_method_20_code, prog_4_method_19_code, prog_1_method_18_code, prog_1_method_19_code, prog_1_method_20_code, prog_8_method_7_code, prog_1_method_21_code, prog_11_method_1_code, prog_11_method_2_code, prog_11_method_11_code, prog_11_method_12_code, prog_11_method_8_code, prog_11_method_9_code, prog_11_method_10_code, prog_11_method_3_code, prog_11_method_4_code, prog_11_method_13_code, prog_11_method_14_code, prog_11_method_17_code, prog_11_method_15_code, prog_11_method_16_code, prog_11_method_18_code, prog_11_method_19_code, prog_11_method_20_code, prog_11_method_21_code, prog_11_method_22_code, prog_11_method_23_code, prog_11_method_24_code, prog_11_method_5_code, prog_11_method_6_code, prog_11_method_7_code, prog_11_method_25_code, prog_11_method_26_code, prog_11_method_27_code, prog_11_method_29_code, prog_11_method_28_code, prog_11_method_30_code, prog_11_method_31_code, prog_11_method_32_code, prog_11_method_33_code, prog_11_method_34_code, prog_11_method_37_code, prog_11_method_39_code, prog_11_method_35_code, prog_11_method_36_code, prog_11_method_40_code, prog_11_method_38_code, prog_11_method_41_code, prog_11_method_44_code, prog_11_method_43_code, prog_11_method_42_code, prog_11_method_45_code, prog_11_method_46_code, prog_11_method_47_code, prog_11_method_48_code, prog_11_method_49_code, prog_11_method_50_code, code]
def pp_mL : List Nat := [1, 2, 3, 1, 3, 1, 1, 1, 1, 3, 2, 2, 2, 1, 3, 7, 2, 3, 5, 3, 4, 3, 2, 2, 1, 2, 1, 2, 2, 2, 2, 1, 3, 1, 2, 4, 2, 2, 3, 3, 3, 2, 1, 1, 2, 5, 3, 2, 2, 3, 2, 3, 6, 2, 3, 2, 6, 3, 3, 2, 1, 4, 9, 1, 5, 7, 3, 8, 4, 2, 2, 3, 5, 5, 2, 6, 3, 2, 6, 3, 4, 4, 4, 1, 5, 6, 6, 6, 5, 4, 3, 2, 4, 2, 4, 4, 6, 7, 2, 7, 8, 4, 2, 2, 3, 2, 1, 3, 2, 2, 1, 1, 3, 6, 1, 4, 2, 3, 2, 4, 6, 6, 7, 4, 2, 2, 1, 1, 4, 3, 8, 5, 10, 5, 6, 3, 4, 4, 8, 3, 2, 5, 3, 7, 6, 1, 3, 3, 6, 3, 8, 6, 7, 2, 2, 5, 4]
def pp_rt : List (Option FieldType) := [(Option.none : Option Jvm.ClassFile.FieldType), (Option.none : Option Jvm.ClassFile.FieldType), (Option.some (Jvm.ClassFile.FieldType.array (Jvm.ClassFile.FieldType.object "WornSums$Row"))), (Option.none : Option Jvm.ClassFile.FieldType), (Option.some (Jvm.ClassFile.FieldType.array (Jvm.ClassFile.FieldType.object "WornSums$Sheet"))), (Option.none : Option Jvm.ClassFile.FieldType), (Option.some Jvm.ClassFile.FieldType.byte), (Option.some Jvm.ClassFile.FieldType.int), (Option.some Jvm.ClassFile.FieldType.boolean), (Option.some Jvm.ClassFile.FieldType.int), (Option.none : Option Jvm.ClassFile.FieldType), (Option.some Jvm.ClassFile.FieldType.char), (Option.some Jvm.ClassFile.FieldType.char), (Option.some Jvm.ClassFile.FieldType.boolean), (Option.none : Option Jvm.ClassFile.FieldType), (Option.none : Option Jvm.ClassFile.FieldType), (Option.some Jvm.ClassFile.FieldType.int), (Option.some Jvm.ClassFile.FieldType.int), (Option.none : Option Jvm.ClassFile.FieldType), (Option.none : Option Jvm.ClassFile.FieldType), (Option.none : Option Jvm.ClassFile.FieldType), (Option.none : Option Jvm.ClassFile.FieldType), (Option.none : Option Jvm.ClassFile.FieldType), (Option.none : Option Jvm.ClassFile.FieldType), (Option.none : Option Jvm.ClassFile.FieldType), (Option.none : Option Jvm.ClassFile.FieldType), (Option.none : Option Jvm.ClassFile.FieldType), (Option.some Jvm.ClassFile.FieldType.boolean), (Option.some Jvm.ClassFile.FieldType.int), (Option.some Jvm.ClassFile.FieldType.int), (Option.some Jvm.ClassFile.FieldType.char), (Option.some Jvm.ClassFile.FieldType.boolean), (Option.some Jvm.ClassFile.FieldType.boolean), (Option.some Jvm.ClassFile.FieldType.boolean), (Option.some Jvm.ClassFile.FieldType.boolean), (Option.some Jvm.ClassFile.FieldType.int), (Option.some Jvm.ClassFile.FieldType.boolean), (Option.some Jvm.ClassFile.FieldType.char), (Option.none : Option Jvm.ClassFile.FieldType), (Option.none : Option Jvm.ClassFile.FieldType), (Option.none : Option Jvm.ClassFile.FieldType), (Option.none : Option Jvm.ClassFile.FieldType), (Option.none : Option Jvm.ClassFile.FieldType), (Option.none : Option Jvm.ClassFile.FieldType), (Option.some Jvm.ClassFile.FieldType.int), (Option.none : Option Jvm.ClassFile.FieldType), (Option.none : Option Jvm.ClassFile.FieldType), (Option.some Jvm.ClassFile.FieldType.int), (Option.some Jvm.ClassFile.FieldType.boolean), (Option.none : Option Jvm.ClassFile.FieldType), (Option.some Jvm.ClassFile.FieldType.int), (Option.some (Jvm.ClassFile.FieldType.object "WornSums$Row")), (Option.some Jvm.ClassFile.FieldType.int), (Option.some Jvm.ClassFile.FieldType.boolean), (Option.some Jvm.ClassFile.FieldType.int), (Option.some Jvm.ClassFile.FieldType.int), (Option.some Jvm.ClassFile.FieldType.int), (Option.some Jvm.ClassFile.FieldType.int), (Option.some Jvm.ClassFile.FieldType.int), (Option.none : Option Jvm.ClassFile.FieldType), (Option.some Jvm.ClassFile.FieldType.int), (Option.some Jvm.ClassFile.FieldType.int), (Option.some Jvm.ClassFile.FieldType.int), (Option.some Jvm.ClassFile.FieldType.int), (Option.some Jvm.ClassFile.FieldType.boolean), (Option.some Jvm.ClassFile.FieldType.int), (Option.none : Option Jvm.ClassFile.FieldType), (Option.none : Option Jvm.ClassFile.FieldType), (Option.none : Option Jvm.ClassFile.FieldType), (Option.some (Jvm.ClassFile.FieldType.object "WornSums$Agreeing")), (Option.some (Jvm.ClassFile.FieldType.object "WornSums$Agreeing")), (Option.some Jvm.ClassFile.FieldType.int), (Option.some Jvm.ClassFile.FieldType.int), (Option.some Jvm.ClassFile.FieldType.int), (Option.some Jvm.ClassFile.FieldType.int), (Option.some Jvm.ClassFile.FieldType.int), (Option.some Jvm.ClassFile.FieldType.int), (Option.some Jvm.ClassFile.FieldType.int), (Option.some Jvm.ClassFile.FieldType.int), (Option.some Jvm.ClassFile.FieldType.int), (Option.some Jvm.ClassFile.FieldType.int), (Option.none : Option Jvm.ClassFile.FieldType), (Option.none : Option Jvm.ClassFile.FieldType), (Option.some Jvm.ClassFile.FieldType.int), (Option.some Jvm.ClassFile.FieldType.int), (Option.some Jvm.ClassFile.FieldType.int), (Option.none : Option Jvm.ClassFile.FieldType), (Option.some Jvm.ClassFile.FieldType.int), (Option.none : Option Jvm.ClassFile.FieldType), (Option.none : Option Jvm.ClassFile.FieldType), (Option.some Jvm.ClassFile.FieldType.int), (Option.some Jvm.ClassFile.FieldType.int), (Option.none : Option Jvm.ClassFile.FieldType), (Option.some Jvm.ClassFile.FieldType.boolean), (Option.some Jvm.ClassFile.FieldType.boolean), (Option.none : Option Jvm.ClassFile.FieldType), (Option.none : Option Jvm.ClassFile.FieldType), (Option.some Jvm.ClassFile.FieldType.int), (Option.some Jvm.ClassFile.FieldType.int), (Option.some Jvm.ClassFile.FieldType.int), (Option.some Jvm.ClassFile.FieldType.int), (Option.some Jvm.ClassFile.FieldType.int), (Option.some Jvm.ClassFile.FieldType.int), (Option.some Jvm.ClassFile.FieldType.int), (Option.some Jvm.ClassFile.FieldType.int), (Option.some Jvm.ClassFile.FieldType.int), (Option.none : Option Jvm.ClassFile.FieldType), (Option.some Jvm.ClassFile.FieldType.boolean), (Option.some Jvm.ClassFile.FieldType.int), (Option.some Jvm.ClassFile.FieldType.int), (Option.some Jvm.ClassFile.FieldType.boolean), (Option.some Jvm.ClassFile.FieldType.boolean), (Option.some Jvm.ClassFile.FieldType.int), (Option.none : Option Jvm.ClassFile.FieldType), (Option.none : Option Jvm.ClassFile.FieldType), (Option.some Jvm.ClassFile.FieldType.int), (Option.some Jvm.ClassFile.FieldType.boolean), (Option.some Jvm.ClassFile.FieldType.int), (Option.some Jvm.ClassFile.FieldType.int), (Option.some Jvm.ClassFile.FieldType.boolean), (Option.some Jvm.ClassFile.FieldType.int), (Option.some Jvm.ClassFile.FieldType.int), (Option.some Jvm.ClassFile.FieldType.int), (Option.some Jvm.ClassFile.FieldType.int), (Option.some Jvm.ClassFile.FieldType.int), (Option.some Jvm.ClassFile.FieldType.int), (Option.some Jvm.ClassFile.FieldType.int), (Option.some Jvm.ClassFile.FieldType.long), (Option.none : Option Jvm.ClassFile.FieldType), (Option.none : Option Jvm.ClassFile.FieldType), (Option.some Jvm.ClassFile.FieldType.int), (Option.some Jvm.ClassFile.FieldType.boolean), (Option.some Jvm.ClassFile.FieldType.int), (Option.some Jvm.ClassFile.FieldType.int), (Option.none : Option Jvm.ClassFile.FieldType), (Option.some Jvm.ClassFile.FieldType.int), (Option.some Jvm.ClassFile.FieldType.int), (Option.some Jvm.ClassFile.FieldType.int), (Option.some Jvm.ClassFile.FieldType.int), (Option.some Jvm.ClassFile.FieldType.int), (Option.none : Option Jvm.ClassFile.FieldType), (Option.some Jvm.ClassFile.FieldType.int), (Option.some Jvm.ClassFile.FieldType.int), (Option.none : Option Jvm.ClassFile.FieldType), (Option.some Jvm.ClassFile.FieldType.int), (Option.some Jvm.ClassFile.FieldType.int), (Option.some Jvm.ClassFile.FieldType.int), (Option.some Jvm.ClassFile.FieldType.boolean), (Option.none : Option Jvm.ClassFile.FieldType), (Option.none : Option Jvm.ClassFile.FieldType), (Option.some Jvm.ClassFile.FieldType.int), (Option.some Jvm.ClassFile.FieldType.int), (Option.some Jvm.ClassFile.FieldType.int), (Option.some Jvm.ClassFile.FieldType.int), (Option.some Jvm.ClassFile.FieldType.int), (Option.some Jvm.ClassFile.FieldType.int), (Option.some Jvm.ClassFile.FieldType.boolean)]
def pp_fr : List Nat := [1, 1, 2, 3, 4, 5, 0, 1, 0, 0, 1, 2, 3, 0, 1, 4, 1, 1, 2, 5, 4, 5, 6, 7, 1, 2, 8, 0, 1, 0, 0, 0, 1, 0, 1, 2, 0, 1, 1, 2, 3, 4, 0, 5, 1, 2, 3, 6, 0, 3, 6, 1, 6, 1, 2, 3, 6, 6, 6, 4, 5, 2, 2, 0, 4, 5, 0, 6, 7, 0, 8, 9, 2, 6, 0, 1, 2, 0, 9, 2, 0, 3, 0, 1, 1, 2, 3, 2, 4, 8, 0, 9, 0, 0, 1, 2, 3, 4, 8, 2, 3, 9, 4, 4, 4, 8, 1, 0, 1, 0, 1, 1, 2, 0, 1, 3, 1, 2, 0, 2, 3, 1, 3, 2, 3, 3, 1, 0, 1, 2, 3, 0, 1, 4, 4, 5, 3, 4, 5, 3, 5, 0, 0, 1, 2, 6, 7, 0, 0, 1, 6, 3, 5, 1, 1, 6, 13]
def pp_lo : List Nat := [20, 21, 42, 64, 84, 106, 0, 20, 0, 0, 22, 43, 64, 0, 20, 85, 20, 20, 42, 111, 85, 108, 133, 154, 20, 40, 175, 0, 21, 0, 0, 0, 21, 0, 20, 43, 0, 21, 21, 43, 65, 87, 0, 108, 21, 43, 67, 128, 0, 65, 128, 21, 128, 20, 42, 64, 128, 128, 128, 87, 108, 43, 42, 0, 85, 109, 0, 135, 162, 0, 185, 206, 43, 135, 0, 21, 46, 0, 206, 42, 0, 68, 0, 21, 21, 45, 70, 45, 95, 185, 0, 208, 0, 0, 21, 44, 67, 92, 185, 42, 68, 206, 87, 87, 85, 185, 20, 0, 22, 0, 22, 22, 42, 0, 25, 64, 22, 45, 0, 43, 66, 21, 66, 45, 68, 68, 25, 0, 20, 43, 65, 0, 24, 92, 92, 117, 66, 92, 117, 65, 117, 0, 0, 22, 48, 138, 158, 0, 0, 25, 138, 65, 117, 25, 25, 138, 504]
def pp_ST : List (String × String × String × Value) := [("java/lang/String", "COMPACT_STRINGS", "Z", .int 1), ("jdk/internal/util/Preconditions", "SIOOBE_FORMATTER", "Ljava/util/function/BiFunction;", .retAddr 41)]
def pp_SC : List (String × Nat × String × Nat) := [("WornSums$NumberWords", 23, "zero one two three four five six seven eight nine", 0), ("WornSums$NumberWords", 29, "ten eleven twelve thirteen fourteen fifteen sixteen seventeen eighteen nineteen", 1), ("WornSums$NumberWords", 37, "twenty thirty forty fifty sixty seventy eighty ninety", 2), ("WornSums$NumberWords", 47, " hundred", 3), ("WornSums$NumberWords", 53, " and ", 4), ("WornSums$Figures", 38, "06081738495668", 5)]
def pp_nw : List Cond := [(Jvm.Cond.methodLinkNest "WornSums" (11 : Nat) ({ cls := "WornSums$Text", name := "<init>", desc := "()V" } : Jvm.MethodName) "WornSums"),
  (Jvm.Cond.fieldLinkNest "WornSums" (60 : Nat) "WornSums$Text" "length" "I" "WornSums"),
  (Jvm.Cond.fieldLinkNest "WornSums$Sheet" (65 : Nat) "WornSums$Text" "length" "I" "WornSums"),
  (Jvm.Cond.methodLinkNest "WornSums" (18 : Nat) ({ cls := "WornSums$Sheet", name := "<init>", desc := "()V" } : Jvm.MethodName) "WornSums"),
  (Jvm.Cond.fieldLinkNest "WornSums$Figures" (9 : Nat) "WornSums$Row" "length" "I" "WornSums"),
  (Jvm.Cond.fieldLinkNest "WornSums$Sheet" (45 : Nat) "WornSums$Row" "length" "I" "WornSums"),
  (Jvm.Cond.fieldLinkNest "WornSums$NumberWords" (77 : Nat) "WornSums$Row" "length" "I" "WornSums"),
  (Jvm.Cond.fieldLinkNest "WornSums$Findings" (147 : Nat) "WornSums$Row" "length" "I" "WornSums"),
  (Jvm.Cond.fieldLinkNest "WornSums$Findings" (50 : Nat) "WornSums$Sheet" "words" "[LWornSums$Row;" "WornSums"),
  (Jvm.Cond.fieldLinkNest "WornSums$Findings" (54 : Nat) "WornSums$Sheet" "figures" "[LWornSums$Row;" "WornSums"),
  (Jvm.Cond.fieldLinkNest "WornSums$Findings" (45 : Nat) "WornSums$Sheet" "size" "I" "WornSums"),
  (Jvm.Cond.fieldLinkNest "WornSums" (64 : Nat) "WornSums$Sheet" "size" "I" "WornSums"),
  (Jvm.Cond.fieldLinkNest "WornSums$Findings" (57 : Nat) "WornSums$Sheet" "slack" "I" "WornSums"),
  (Jvm.Cond.fieldLinkNest "WornSums" (111 : Nat) "WornSums$Sheet" "slack" "I" "WornSums"),
  (Jvm.Cond.fieldLinkNest "WornSums$Findings" (79 : Nat) "WornSums$Sheet" "total" "I" "WornSums"),
  (Jvm.Cond.fieldLinkNest "WornSums" (114 : Nat) "WornSums$Sheet" "total" "I" "WornSums"),
  (Jvm.Cond.methodLinkNest "WornSums" (25 : Nat) ({ cls := "WornSums$History", name := "<init>", desc := "()V" } : Jvm.MethodName) "WornSums"),
  (Jvm.Cond.methodLinkNest "WornSums$History" (9 : Nat) ({ cls := "WornSums", name := "newSheets", desc := "(I)[LWornSums$Sheet;" } : Jvm.MethodName) "WornSums"),
  (Jvm.Cond.fieldLinkNest "WornSums" (117 : Nat) "WornSums$History" "size" "I" "WornSums"),
  (Jvm.Cond.methodLinkNest "WornSums$NumberWords" (73 : Nat) ({ cls := "WornSums", name := "isNumber", desc := "(I)Z" } : Jvm.MethodName) "WornSums"),
  (Jvm.Cond.methodLinkNest "WornSums$Findings" (44 : Nat) ({ cls := "WornSums$Agreeing", name := "<init>", desc := "()V" } : Jvm.MethodName) "WornSums"),
  (Jvm.Cond.fieldLinkNest "WornSums$Findings" (64 : Nat) "WornSums$Agreeing" "size" "I" "WornSums"),
  (Jvm.Cond.fieldLinkNest "WornSums" (141 : Nat) "WornSums$Agreeing" "size" "I" "WornSums"),
  (Jvm.Cond.fieldLinkNest "WornSums" (133 : Nat) "WornSums$Agreeing" "byWords" "I" "WornSums"),
  (Jvm.Cond.fieldLinkNest "WornSums" (138 : Nat) "WornSums$Agreeing" "byFigures" "I" "WornSums"),
  (Jvm.Cond.fieldLinkNest "WornSums" (171 : Nat) "WornSums$Findings" "leastDoubt" "I" "WornSums"),
  (Jvm.Cond.methodLinkNest "WornSums$Text" (31 : Nat) ({ cls := "WornSums", name := "isLetter", desc := "(I)Z" } : Jvm.MethodName) "WornSums"),
  (Jvm.Cond.methodLinkNest "WornSums$Text" (34 : Nat) ({ cls := "WornSums", name := "isFigureSign", desc := "(I)Z" } : Jvm.MethodName) "WornSums"),
  (Jvm.Cond.arrayOver (Jvm.ClassFile.FieldType.object "WornSums$Row")),
  (Jvm.Cond.arrayOver (Jvm.ClassFile.FieldType.object "WornSums$Sheet")),
  (Jvm.Cond.arrayOver (Jvm.ClassFile.FieldType.object "WornSums$Agreeing")),
  (Jvm.Cond.arrayOver (Jvm.ClassFile.FieldType.array Jvm.ClassFile.FieldType.int))]
def PP : smP := (fun m => pp_pc.getD m [], fun c k => (pp_ty.getD c []).getD k .int, fun c => pp_df.getD c [], fun c => .object (pp_cn.getD c ""), pp_st, fun m => pp_tr.getD m [])
def PZ : smZ := (tbG, pp_nw, pp_cl, fun m => pp_nm.getD m ⟨"", "", ""⟩, fun m => pp_by.getD m ByteArray.empty, fun m => pp_mL.getD m 0, fun m => pp_rt.getD m none, fun m => (pp_nm.getD m ⟨"", "", ""⟩).cls, fun m => pp_fr.getD m 0, fun m => pp_lo.getD m 0, pp_ST, pp_SC, 157)
end
section
/-! what the tables say of every instruction of every method; printed by wip/whole/gen.py -/
theorem okobj : Cond.instanceMethod objectInit ∈ tbG ∧ Cond.code objectInit ⟨#[0xb1]⟩ 1 none ∈ tbG := ⟨(tb1 23 rfl rfl), (tb1 24 rfl rfl)⟩
theorem okm_0 : 0 < znM PZ ∧ ((znm PZ 0).cls ≠ "java/lang/invoke/MethodHandle" ∧ (znm PZ 0).cls ≠ "java/lang/invoke/VarHandle" ∧ (parseMethodDescriptor (znm PZ 0).desc).map (fun d => d.parameters.length) = some 0) ∧ Cond.code (znm PZ 0) (zby PZ 0) (zmL PZ 0) (zrt PZ 0) ∈ zTB PZ ∧ Cond.initialized (znm PZ 0).cls ∈ zTB PZ := ⟨Nat.le_of_ble_eq_true rfl, ⟨by decide +kernel, by decide +kernel, by decide +kernel⟩, (tb1 29 rfl rfl), (tb1 2 rfl rfl)⟩
theorem oki_0 : Cond.instanceMethod (znm PZ 0) ∈ zTB PZ := (tb1 28 rfl rfl)
theorem okm_1 : 1 < znM PZ ∧ ((znm PZ 1).cls ≠ "java/lang/invoke/MethodHandle" ∧ (znm PZ 1).cls ≠ "java/lang/invoke/VarHandle" ∧ (parseMethodDescriptor (znm PZ 1).desc).map (fun d => d.parameters.length) = some 1) ∧ Cond.code (znm PZ 1) (zby PZ 1) (zmL PZ 1) (zrt PZ 1) ∈ zTB PZ ∧ Cond.initialized (znm PZ 1).cls ∈ zTB PZ := ⟨Nat.le_of_ble_eq_true rfl, ⟨by decide +kernel, by decide +kernel, by decide +kernel⟩, (tb1 55 rfl rfl), (tb1 4 rfl rfl)⟩
theorem oki_1 : Cond.instanceMethod (znm PZ 1) ∈ zTB PZ := (tb1 54 rfl rfl)
theorem okm_2 : 2 < znM PZ ∧ ((znm PZ 2).cls ≠ "java/lang/invoke/MethodHandle" ∧ (znm PZ 2).cls ≠ "java/lang/invoke/VarHandle" ∧ (parseMethodDescriptor (znm PZ 2).desc).map (fun d => d.parameters.length) = some 1) ∧ Cond.code (znm PZ 2) (zby PZ 2) (zmL PZ 2) (zrt PZ 2) ∈ zTB PZ ∧ Cond.initialized (znm PZ 2).cls ∈ zTB PZ := ⟨Nat.le_of_ble_eq_true rfl, ⟨by decide +kernel, by decide +kernel, by decide +kernel⟩, (tb1 49 rfl rfl), (tb1 3 rfl rfl)⟩
theorem oks_2 : Cond.static (znm PZ 2) ∈ zTB PZ := (tb1 48 rfl rfl)
theorem okm_3 : 3 < znM PZ ∧ ((znm PZ 3).cls ≠ "java/lang/invoke/MethodHandle" ∧ (znm PZ 3).cls ≠ "java/lang/invoke/VarHandle" ∧ (parseMethodDescriptor (znm PZ 3).desc).map (fun d => d.parameters.length) = some 0) ∧ Cond.code (znm PZ 3) (zby PZ 3) (zmL PZ 3) (zrt PZ 3) ∈ zTB PZ ∧ Cond.initialized (znm PZ 3).cls ∈ zTB PZ := ⟨Nat.le_of_ble_eq_true rfl, ⟨by decide +kernel, by decide +kernel, by decide +kernel⟩, (tb1 45 rfl rfl), (tb1 3 rfl rfl)⟩
theorem oki_3 : Cond.instanceMethod (znm PZ 3) ∈ zTB PZ := (tb1 44 rfl rfl)
theorem okm_4 : 4 < znM PZ ∧ ((znm PZ 4).cls ≠ "java/lang/invoke/MethodHandle" ∧ (znm PZ 4).cls ≠ "java/lang/invoke/VarHandle" ∧ (parseMethodDescriptor (znm PZ 4).desc).map (fun d => d.parameters.length) = some 1) ∧ Cond.code (znm PZ 4) (zby PZ 4) (zmL PZ 4) (zrt PZ 4) ∈ zTB PZ ∧ Cond.initialized (znm PZ 4).cls ∈ zTB PZ := ⟨Nat.le_of_ble_eq_true rfl, ⟨by decide +kernel, by decide +kernel, by decide +kernel⟩, (tb1 103 rfl rfl), (tb1 1 rfl rfl)⟩
theorem oks_4 : Cond.static (znm PZ 4) ∈ zTB PZ := (tb1 102 rfl rfl)
theorem okm_5 : 5 < znM PZ ∧ ((znm PZ 5).cls ≠ "java/lang/invoke/MethodHandle" ∧ (znm PZ 5).cls ≠ "java/lang/invoke/VarHandle" ∧ (parseMethodDescriptor (znm PZ 5).desc).map (fun d => d.parameters.length) = some 0) ∧ Cond.code (znm PZ 5) (zby PZ 5) (zmL PZ 5) (zrt PZ 5) ∈ zTB PZ ∧ Cond.initialized (znm PZ 5).cls ∈ zTB PZ := ⟨Nat.le_of_ble_eq_true rfl, ⟨by decide +kernel, by decide +kernel, by decide +kernel⟩, (tb1 99 rfl rfl), (tb1 6 rfl rfl)⟩
theorem oki_5 : Cond.instanceMethod (znm PZ 5) ∈ zTB PZ := (tb1 98 rfl rfl)
theorem okm_6 : 6 < znM PZ ∧ ((znm PZ 6).cls ≠ "java/lang/invoke/MethodHandle" ∧ (znm PZ 6).cls ≠ "java/lang/invoke/VarHandle" ∧ (parseMethodDescriptor (znm PZ 6).desc).map (fun d => d.parameters.length) = some 0) ∧ Cond.code (znm PZ 6) (zby PZ 6) (zmL PZ 6) (zrt PZ 6) ∈ zTB PZ ∧ Cond.initialized (znm PZ 6).cls ∈ zTB PZ := ⟨Nat.le_of_ble_eq_true rfl, ⟨by decide +kernel, by decide +kernel, by decide +kernel⟩, (tb1 140 rfl rfl), (tb1 8 rfl rfl)⟩
theorem oki_6 : Cond.instanceMethod (znm PZ 6) ∈ zTB PZ := (tb1 138 rfl rfl)
theorem okv_6 : Cond.selects (znm PZ 6).cls (znm PZ 6) (znm PZ 6) ∈ zTB PZ := (tb1 139 rfl rfl)
theorem okm_7 : 7 < znM PZ ∧ ((znm PZ 7).cls ≠ "java/lang/invoke/MethodHandle" ∧ (znm PZ 7).cls ≠ "java/lang/invoke/VarHandle" ∧ (parseMethodDescriptor (znm PZ 7).desc).map (fun d => d.parameters.length) = some 0) ∧ Cond.code (znm PZ 7) (zby PZ 7) (zmL PZ 7) (zrt PZ 7) ∈ zTB PZ ∧ Cond.initialized (znm PZ 7).cls ∈ zTB PZ := ⟨Nat.le_of_ble_eq_true rfl, ⟨by decide +kernel, by decide +kernel, by decide +kernel⟩, (tb1 136 rfl rfl), (tb1 8 rfl rfl)⟩
theorem oki_7 : Cond.instanceMethod (znm PZ 7) ∈ zTB PZ := (tb1 134 rfl rfl)
theorem okv_7 : Cond.selects (znm PZ 7).cls (znm PZ 7) (znm PZ 7) ∈ zTB PZ := (tb1 135 rfl rfl)
theorem okm_8 : 8 < znM PZ ∧ ((znm PZ 8).cls ≠ "java/lang/invoke/MethodHandle" ∧ (znm PZ 8).cls ≠ "java/lang/invoke/VarHandle" ∧ (parseMethodDescriptor (znm PZ 8).desc).map (fun d => d.parameters.length) = some 0) ∧ Cond.code (znm PZ 8) (zby PZ 8) (zmL PZ 8) (zrt PZ 8) ∈ zTB PZ ∧ Cond.initialized (znm PZ 8).cls ∈ zTB PZ := ⟨Nat.le_of_ble_eq_true rfl, ⟨by decide +kernel, by decide +kernel, by decide +kernel⟩, (tb1 150 rfl rfl), (tb1 8 rfl rfl)⟩
theorem oki_8 : Cond.instanceMethod (znm PZ 8) ∈ zTB PZ := (tb1 148 rfl rfl)
theorem okv_8 : Cond.selects (znm PZ 8).cls (znm PZ 8) (znm PZ 8) ∈ zTB PZ := (tb1 149 rfl rfl)
theorem okm_9 : 9 < znM PZ ∧ ((znm PZ 9).cls ≠ "java/lang/invoke/MethodHandle" ∧ (znm PZ 9).cls ≠ "java/lang/invoke/VarHandle" ∧ (parseMethodDescriptor (znm PZ 9).desc).map (fun d => d.parameters.length) = some 3) ∧ Cond.code (znm PZ 9) (zby PZ 9) (zmL PZ 9) (zrt PZ 9) ∈ zTB PZ ∧ Cond.initialized (znm PZ 9).cls ∈ zTB PZ := ⟨Nat.le_of_ble_eq_true rfl, ⟨by decide +kernel, by decide +kernel, by decide +kernel⟩, (tb1 161 rfl rfl), (tb1 10 rfl rfl)⟩
theorem oks_9 : Cond.static (znm PZ 9) ∈ zTB PZ := (tb1 160 rfl rfl)
theorem okm_10 : 10 < znM PZ ∧ ((znm PZ 10).cls ≠ "java/lang/invoke/MethodHandle" ∧ (znm PZ 10).cls ≠ "java/lang/invoke/VarHandle" ∧ (parseMethodDescriptor (znm PZ 10).desc).map (fun d => d.parameters.length) = some 2) ∧ Cond.code (znm PZ 10) (zby PZ 10) (zmL PZ 10) (zrt PZ 10) ∈ zTB PZ ∧ Cond.initialized (znm PZ 10).cls ∈ zTB PZ := ⟨Nat.le_of_ble_eq_true rfl, ⟨by decide +kernel, by decide +kernel, by decide +kernel⟩, (tb1 156 rfl rfl), (tb1 8 rfl rfl)⟩
theorem oks_10 : Cond.static (znm PZ 10) ∈ zTB PZ := (tb1 155 rfl rfl)
theorem okm_11 : 11 < znM PZ ∧ ((znm PZ 11).cls ≠ "java/lang/invoke/MethodHandle" ∧ (znm PZ 11).cls ≠ "java/lang/invoke/VarHandle" ∧ (parseMethodDescriptor (znm PZ 11).desc).map (fun d => d.parameters.length) = some 2) ∧ Cond.code (znm PZ 11) (zby PZ 11) (zmL PZ 11) (zrt PZ 11) ∈ zTB PZ ∧ Cond.initialized (znm PZ 11).cls ∈ zTB PZ := ⟨Nat.le_of_ble_eq_true rfl, ⟨by decide +kernel, by decide +kernel, by decide +kernel⟩, (tb1 153 rfl rfl), (tb1 9 rfl rfl)⟩
theorem oks_11 : Cond.static (znm PZ 11) ∈ zTB PZ := (tb1 152 rfl rfl)
theorem okm_12 : 12 < znM PZ ∧ ((znm PZ 12).cls ≠ "java/lang/invoke/MethodHandle" ∧ (znm PZ 12).cls ≠ "java/lang/invoke/VarHandle" ∧ (parseMethodDescriptor (znm PZ 12).desc).map (fun d => d.parameters.length) = some 1) ∧ Cond.code (znm PZ 12) (zby PZ 12) (zmL PZ 12) (zrt PZ 12) ∈ zTB PZ ∧ Cond.initialized (znm PZ 12).cls ∈ zTB PZ := ⟨Nat.le_of_ble_eq_true rfl, ⟨by decide +kernel, by decide +kernel, by decide +kernel⟩, (tb1 146 rfl rfl), (tb1 8 rfl rfl)⟩
theorem oki_12 : Cond.instanceMethod (znm PZ 12) ∈ zTB PZ := (tb1 144 rfl rfl)
theorem okv_12 : Cond.selects (znm PZ 12).cls (znm PZ 12) (znm PZ 12) ∈ zTB PZ := (tb1 145 rfl rfl)
theorem okm_13 : 13 < znM PZ ∧ ((znm PZ 13).cls ≠ "java/lang/invoke/MethodHandle" ∧ (znm PZ 13).cls ≠ "java/lang/invoke/VarHandle" ∧ (parseMethodDescriptor (znm PZ 13).desc).map (fun d => d.parameters.length) = some 1) ∧ Cond.code (znm PZ 13) (zby PZ 13) (zmL PZ 13) (zrt PZ 13) ∈ zTB PZ ∧ Cond.initialized (znm PZ 13).cls ∈ zTB PZ := ⟨Nat.le_of_ble_eq_true rfl, ⟨by decide +kernel, by decide +kernel, by decide +kernel⟩, (tb1 187 rfl rfl), (tb1 1 rfl rfl)⟩
theorem oks_13 : Cond.static (znm PZ 13) ∈ zTB PZ := (tb1 186 rfl rfl)
theorem okm_14 : 14 < znM PZ ∧ ((znm PZ 14).cls ≠ "java/lang/invoke/MethodHandle" ∧ (znm PZ 14).cls ≠ "java/lang/invoke/VarHandle" ∧ (parseMethodDescriptor (znm PZ 14).desc).map (fun d => d.parameters.length) = some 2) ∧ Cond.code (znm PZ 14) (zby PZ 14) (zmL PZ 14) (zrt PZ 14) ∈ zTB PZ ∧ Cond.initialized (znm PZ 14).cls ∈ zTB PZ := ⟨Nat.le_of_ble_eq_true rfl, ⟨by decide +kernel, by decide +kernel, by decide +kernel⟩, (tb1 184 rfl rfl), (tb1 7 rfl rfl)⟩
theorem oki_14 : Cond.instanceMethod (znm PZ 14) ∈ zTB PZ := (tb1 183 rfl rfl)
theorem okv_14 : Cond.selects (znm PZ 14).cls (znm PZ 14) (znm PZ 14) ∈ zTB PZ := (tbs 2 rfl rfl)
theorem okm_15 : 15 < znM PZ ∧ ((znm PZ 15).cls ≠ "java/lang/invoke/MethodHandle" ∧ (znm PZ 15).cls ≠ "java/lang/invoke/VarHandle" ∧ (parseMethodDescriptor (znm PZ 15).desc).map (fun d => d.parameters.length) = some 3) ∧ Cond.code (znm PZ 15) (zby PZ 15) (zmL PZ 15) (zrt PZ 15) ∈ zTB PZ ∧ Cond.initialized (znm PZ 15).cls ∈ zTB PZ := ⟨Nat.le_of_ble_eq_true rfl, ⟨by decide +kernel, by decide +kernel, by decide +kernel⟩, (tb1 132 rfl rfl), (tb1 7 rfl rfl)⟩
theorem oki_15 : Cond.instanceMethod (znm PZ 15) ∈ zTB PZ := (tb1 131 rfl rfl)
theorem okv_15 : Cond.selects (znm PZ 15).cls (znm PZ 15) (znm PZ 15) ∈ zTB PZ := (tbs 1 rfl rfl)
theorem okm_16 : 16 < znM PZ ∧ ((znm PZ 16).cls ≠ "java/lang/invoke/MethodHandle" ∧ (znm PZ 16).cls ≠ "java/lang/invoke/VarHandle" ∧ (parseMethodDescriptor (znm PZ 16).desc).map (fun d => d.parameters.length) = some 1) ∧ Cond.code (znm PZ 16) (zby PZ 16) (zmL PZ 16) (zrt PZ 16) ∈ zTB PZ ∧ Cond.initialized (znm PZ 16).cls ∈ zTB PZ := ⟨Nat.le_of_ble_eq_true rfl, ⟨by decide +kernel, by decide +kernel, by decide +kernel⟩, (tb1 201 rfl rfl), (tb1 7 rfl rfl)⟩
theorem oki_16 : Cond.instanceMethod (znm PZ 16) ∈ zTB PZ := (tb1 199 rfl rfl)
theorem okv_16 : Cond.selects (znm PZ 16).cls (znm PZ 16) (znm PZ 16) ∈ zTB PZ := (tb1 200 rfl rfl)
theorem okm_17 : 17 < znM PZ ∧ ((znm PZ 17).cls ≠ "java/lang/invoke/MethodHandle" ∧ (znm PZ 17).cls ≠ "java/lang/invoke/VarHandle" ∧ (parseMethodDescriptor (znm PZ 17).desc).map (fun d => d.parameters.length) = some 2) ∧ Cond.code (znm PZ 17) (zby PZ 17) (zmL PZ 17) (zrt PZ 17) ∈ zTB PZ ∧ Cond.initialized (znm PZ 17).cls ∈ zTB PZ := ⟨Nat.le_of_ble_eq_true rfl, ⟨by decide +kernel, by decide +kernel, by decide +kernel⟩, (tb1 205 rfl rfl), (tb1 7 rfl rfl)⟩
theorem oki_17 : Cond.instanceMethod (znm PZ 17) ∈ zTB PZ := (tb1 203 rfl rfl)
theorem okv_17 : Cond.selects (znm PZ 17).cls (znm PZ 17) (znm PZ 17) ∈ zTB PZ := (tb1 204 rfl rfl)
theorem okm_18 : 18 < znM PZ ∧ ((znm PZ 18).cls ≠ "java/lang/invoke/MethodHandle" ∧ (znm PZ 18).cls ≠ "java/lang/invoke/VarHandle" ∧ (parseMethodDescriptor (znm PZ 18).desc).map (fun d => d.parameters.length) = some 2) ∧ Cond.code (znm PZ 18) (zby PZ 18) (zmL PZ 18) (zrt PZ 18) ∈ zTB PZ ∧ Cond.initialized (znm PZ 18).cls ∈ zTB PZ := ⟨Nat.le_of_ble_eq_true rfl, ⟨by decide +kernel, by decide +kernel, by decide +kernel⟩, (tb1 197 rfl rfl), (tb1 7 rfl rfl)⟩
theorem oki_18 : Cond.instanceMethod (znm PZ 18) ∈ zTB PZ := (tb1 196 rfl rfl)
theorem okv_18 : Cond.selects (znm PZ 18).cls (znm PZ 18) (znm PZ 18) ∈ zTB PZ := (tbs 4 rfl rfl)
theorem okm_19 : 19 < znM PZ ∧ ((znm PZ 19).cls ≠ "java/lang/invoke/MethodHandle" ∧ (znm PZ 19).cls ≠ "java/lang/invoke/VarHandle" ∧ (parseMethodDescriptor (znm PZ 19).desc).map (fun d => d.parameters.length) = some 1) ∧ Cond.code (znm PZ 19) (zby PZ 19) (zmL PZ 19) (zrt PZ 19) ∈ zTB PZ ∧ Cond.initialized (znm PZ 19).cls ∈ zTB PZ := ⟨Nat.le_of_ble_eq_true rfl, ⟨by decide +kernel, by decide +kernel, by decide +kernel⟩, (tb1 192 rfl rfl), (tb1 7 rfl rfl)⟩
theorem oki_19 : Cond.instanceMethod (znm PZ 19) ∈ zTB PZ := (tb1 191 rfl rfl)
theorem okv_19 : Cond.selects (znm PZ 19).cls (znm PZ 19) (znm PZ 19) ∈ zTB PZ := (tbs 3 rfl rfl)
theorem okm_20 : 20 < znM PZ ∧ ((znm PZ 20).cls ≠ "java/lang/invoke/MethodHandle" ∧ (znm PZ 20).cls ≠ "java/lang/invoke/VarHandle" ∧ (parseMethodDescriptor (znm PZ 20).desc).map (fun d => d.parameters.length) = some 2) ∧ Cond.code (znm PZ 20) (zby PZ 20) (zmL PZ 20) (zrt PZ 20) ∈ zTB PZ ∧ Cond.initialized (znm PZ 20).cls ∈ zTB PZ := ⟨Nat.le_of_ble_eq_true rfl, ⟨by decide +kernel, by decide +kernel, by decide +kernel⟩, (tb1 214 rfl rfl), (tb1 7 rfl rfl)⟩
theorem oki_20 : Cond.instanceMethod (znm PZ 20) ∈ zTB PZ := (tb1 213 rfl rfl)
theorem okv_20 : Cond.selects (znm PZ 20).cls (znm PZ 20) (znm PZ 20) ∈ zTB PZ := (tbs 6 rfl rfl)
theorem okm_21 : 21 < znM PZ ∧ ((znm PZ 21).cls ≠ "java/lang/invoke/MethodHandle" ∧ (znm PZ 21).cls ≠ "java/lang/invoke/VarHandle" ∧ (parseMethodDescriptor (znm PZ 21).desc).map (fun d => d.parameters.length) = some 1) ∧ Cond.code (znm PZ 21) (zby PZ 21) (zmL PZ 21) (zrt PZ 21) ∈ zTB PZ ∧ Cond.initialized (znm PZ 21).cls ∈ zTB PZ := ⟨Nat.le_of_ble_eq_true rfl, ⟨by decide +kernel, by decide +kernel, by decide +kernel⟩, (tb1 209 rfl rfl), (tb1 7 rfl rfl)⟩
theorem oki_21 : Cond.instanceMethod (znm PZ 21) ∈ zTB PZ := (tb1 208 rfl rfl)
theorem okv_21 : Cond.selects (znm PZ 21).cls (znm PZ 21) (znm PZ 21) ∈ zTB PZ := (tbs 5 rfl rfl)
theorem okm_22 : 22 < znM PZ ∧ ((znm PZ 22).cls ≠ "java/lang/invoke/MethodHandle" ∧ (znm PZ 22).cls ≠ "java/lang/invoke/VarHandle" ∧ (parseMethodDescriptor (znm PZ 22).desc).map (fun d => d.parameters.length) = some 1) ∧ Cond.code (znm PZ 22) (zby PZ 22) (zmL PZ 22) (zrt PZ 22) ∈ zTB PZ ∧ Cond.initialized (znm PZ 22).cls ∈ zTB PZ := ⟨Nat.le_of_ble_eq_true rfl, ⟨by decide +kernel, by decide +kernel, by decide +kernel⟩, (tb1 127 rfl rfl), (tb1 7 rfl rfl)⟩
theorem oki_22 : Cond.instanceMethod (znm PZ 22) ∈ zTB PZ := (tb1 126 rfl rfl)
theorem okv_22 : Cond.selects (znm PZ 22).cls (znm PZ 22) (znm PZ 22) ∈ zTB PZ := (tbs 0 rfl rfl)
theorem okm_23 : 23 < znM PZ ∧ ((znm PZ 23).cls ≠ "java/lang/invoke/MethodHandle" ∧ (znm PZ 23).cls ≠ "java/lang/invoke/VarHandle" ∧ (parseMethodDescriptor (znm PZ 23).desc).map (fun d => d.parameters.length) = some 0) ∧ Cond.code (znm PZ 23) (zby PZ 23) (zmL PZ 23) (zrt PZ 23) ∈ zTB PZ ∧ Cond.initialized (znm PZ 23).cls ∈ zTB PZ := ⟨Nat.le_of_ble_eq_true rfl, ⟨by decide +kernel, by decide +kernel, by decide +kernel⟩, (tb1 122 rfl rfl), (tb1 7 rfl rfl)⟩
theorem oki_23 : Cond.instanceMethod (znm PZ 23) ∈ zTB PZ := (tb1 121 rfl rfl)
theorem okm_24 : 24 < znM PZ ∧ ((znm PZ 24).cls ≠ "java/lang/invoke/MethodHandle" ∧ (znm PZ 24).cls ≠ "java/lang/invoke/VarHandle" ∧ (parseMethodDescriptor (znm PZ 24).desc).map (fun d => d.parameters.length) = some 0) ∧ Cond.code (znm PZ 24) (zby PZ 24) (zmL PZ 24) (zrt PZ 24) ∈ zTB PZ ∧ Cond.initialized (znm PZ 24).cls ∈ zTB PZ := ⟨Nat.le_of_ble_eq_true rfl, ⟨by decide +kernel, by decide +kernel, by decide +kernel⟩, (tb1 239 rfl rfl), (tb1 13 rfl rfl)⟩
theorem oki_24 : Cond.instanceMethod (znm PZ 24) ∈ zTB PZ := (tb1 238 rfl rfl)
theorem okm_25 : 25 < znM PZ ∧ ((znm PZ 25).cls ≠ "java/lang/invoke/MethodHandle" ∧ (znm PZ 25).cls ≠ "java/lang/invoke/VarHandle" ∧ (parseMethodDescriptor (znm PZ 25).desc).map (fun d => d.parameters.length) = some 0) ∧ Cond.code (znm PZ 25) (zby PZ 25) (zmL PZ 25) (zrt PZ 25) ∈ zTB PZ ∧ Cond.initialized (znm PZ 25).cls ∈ zTB PZ := ⟨Nat.le_of_ble_eq_true rfl, ⟨by decide +kernel, by decide +kernel, by decide +kernel⟩, (tb1 230 rfl rfl), (tb1 12 rfl rfl)⟩
theorem oki_25 : Cond.instanceMethod (znm PZ 25) ∈ zTB PZ := (tb1 229 rfl rfl)
theorem okm_26 : 26 < znM PZ ∧ ((znm PZ 26).cls ≠ "java/lang/invoke/MethodHandle" ∧ (znm PZ 26).cls ≠ "java/lang/invoke/VarHandle" ∧ (parseMethodDescriptor (znm PZ 26).desc).map (fun d => d.parameters.length) = some 0) ∧ Cond.code (znm PZ 26) (zby PZ 26) (zmL PZ 26) (zrt PZ 26) ∈ zTB PZ ∧ Cond.initialized (znm PZ 26).cls ∈ zTB PZ := ⟨Nat.le_of_ble_eq_true rfl, ⟨by decide +kernel, by decide +kernel, by decide +kernel⟩, (tb1 21 rfl rfl), (tb1 1 rfl rfl)⟩
theorem oki_26 : Cond.instanceMethod (znm PZ 26) ∈ zTB PZ := (tb1 20 rfl rfl)
theorem okm_27 : 27 < znM PZ ∧ ((znm PZ 27).cls ≠ "java/lang/invoke/MethodHandle" ∧ (znm PZ 27).cls ≠ "java/lang/invoke/VarHandle" ∧ (parseMethodDescriptor (znm PZ 27).desc).map (fun d => d.parameters.length) = some 1) ∧ Cond.code (znm PZ 27) (zby PZ 27) (zmL PZ 27) (zrt PZ 27) ∈ zTB PZ ∧ Cond.initialized (znm PZ 27).cls ∈ zTB PZ := ⟨Nat.le_of_ble_eq_true rfl, ⟨by decide +kernel, by decide +kernel, by decide +kernel⟩, (tb2 76 rfl rfl), (tb1 2 rfl rfl)⟩
theorem oki_27 : Cond.instanceMethod (znm PZ 27) ∈ zTB PZ := (tb2 74 rfl rfl)
theorem okv_27 : Cond.selects (znm PZ 27).cls (znm PZ 27) (znm PZ 27) ∈ zTB PZ := (tb2 75 rfl rfl)
theorem okm_28 : 28 < znM PZ ∧ ((znm PZ 28).cls ≠ "java/lang/invoke/MethodHandle" ∧ (znm PZ 28).cls ≠ "java/lang/invoke/VarHandle" ∧ (parseMethodDescriptor (znm PZ 28).desc).map (fun d => d.parameters.length) = some 1) ∧ Cond.code (znm PZ 28) (zby PZ 28) (zmL PZ 28) (zrt PZ 28) ∈ zTB PZ ∧ Cond.initialized (znm PZ 28).cls ∈ zTB PZ := ⟨Nat.le_of_ble_eq_true rfl, ⟨by decide +kernel, by decide +kernel, by decide +kernel⟩, (tb2 72 rfl rfl), (tb1 1 rfl rfl)⟩
theorem oki_28 : Cond.instanceMethod (znm PZ 28) ∈ zTB PZ := (tb2 70 rfl rfl)
theorem okv_28 : Cond.selects (znm PZ 28).cls (znm PZ 28) (znm PZ 28) ∈ zTB PZ := (tb2 71 rfl rfl)
theorem okm_29 : 29 < znM PZ ∧ ((znm PZ 29).cls ≠ "java/lang/invoke/MethodHandle" ∧ (znm PZ 29).cls ≠ "java/lang/invoke/VarHandle" ∧ (parseMethodDescriptor (znm PZ 29).desc).map (fun d => d.parameters.length) = some 0) ∧ Cond.code (znm PZ 29) (zby PZ 29) (zmL PZ 29) (zrt PZ 29) ∈ zTB PZ ∧ Cond.initialized (znm PZ 29).cls ∈ zTB PZ := ⟨Nat.le_of_ble_eq_true rfl, ⟨by decide +kernel, by decide +kernel, by decide +kernel⟩, (tb2 80 rfl rfl), (tb1 1 rfl rfl)⟩
theorem oki_29 : Cond.instanceMethod (znm PZ 29) ∈ zTB PZ := (tb2 78 rfl rfl)
theorem okv_29 : Cond.selects (znm PZ 29).cls (znm PZ 29) (znm PZ 29) ∈ zTB PZ := (tb2 79 rfl rfl)
theorem okm_30 : 30 < znM PZ ∧ ((znm PZ 30).cls ≠ "java/lang/invoke/MethodHandle" ∧ (znm PZ 30).cls ≠ "java/lang/invoke/VarHandle" ∧ (parseMethodDescriptor (znm PZ 30).desc).map (fun d => d.parameters.length) = some 1) ∧ Cond.code (znm PZ 30) (zby PZ 30) (zmL PZ 30) (zrt PZ 30) ∈ zTB PZ ∧ Cond.initialized (znm PZ 30).cls ∈ zTB PZ := ⟨Nat.le_of_ble_eq_true rfl, ⟨by decide +kernel, by decide +kernel, by decide +kernel⟩, (tb2 96 rfl rfl), (tb1 2 rfl rfl)⟩
theorem oki_30 : Cond.instanceMethod (znm PZ 30) ∈ zTB PZ := (tb2 94 rfl rfl)
theorem okv_30 : Cond.selects (znm PZ 30).cls (znm PZ 30) (znm PZ 30) ∈ zTB PZ := (tb2 95 rfl rfl)
theorem okm_31 : 31 < znM PZ ∧ ((znm PZ 31).cls ≠ "java/lang/invoke/MethodHandle" ∧ (znm PZ 31).cls ≠ "java/lang/invoke/VarHandle" ∧ (parseMethodDescriptor (znm PZ 31).desc).map (fun d => d.parameters.length) = some 1) ∧ Cond.code (znm PZ 31) (zby PZ 31) (zmL PZ 31) (zrt PZ 31) ∈ zTB PZ ∧ Cond.initialized (znm PZ 31).cls ∈ zTB PZ := ⟨Nat.le_of_ble_eq_true rfl, ⟨by decide +kernel, by decide +kernel, by decide +kernel⟩, (tb2 99 rfl rfl), (tb1 1 rfl rfl)⟩
theorem oks_31 : Cond.static (znm PZ 31) ∈ zTB PZ := (tb2 98 rfl rfl)
theorem okm_32 : 32 < znM PZ ∧ ((znm PZ 32).cls ≠ "java/lang/invoke/MethodHandle" ∧ (znm PZ 32).cls ≠ "java/lang/invoke/VarHandle" ∧ (parseMethodDescriptor (znm PZ 32).desc).map (fun d => d.parameters.length) = some 1) ∧ Cond.code (znm PZ 32) (zby PZ 32) (zmL PZ 32) (zrt PZ 32) ∈ zTB PZ ∧ Cond.initialized (znm PZ 32).cls ∈ zTB PZ := ⟨Nat.le_of_ble_eq_true rfl, ⟨by decide +kernel, by decide +kernel, by decide +kernel⟩, (tb2 92 rfl rfl), (tb1 2 rfl rfl)⟩
theorem oki_32 : Cond.instanceMethod (znm PZ 32) ∈ zTB PZ := (tb2 91 rfl rfl)
theorem okv_32 : Cond.selects (znm PZ 32).cls (znm PZ 32) (znm PZ 32) ∈ zTB PZ := (tbs 7 rfl rfl)
theorem okm_33 : 33 < znM PZ ∧ ((znm PZ 33).cls ≠ "java/lang/invoke/MethodHandle" ∧ (znm PZ 33).cls ≠ "java/lang/invoke/VarHandle" ∧ (parseMethodDescriptor (znm PZ 33).desc).map (fun d => d.parameters.length) = some 1) ∧ Cond.code (znm PZ 33) (zby PZ 33) (zmL PZ 33) (zrt PZ 33) ∈ zTB PZ ∧ Cond.initialized (znm PZ 33).cls ∈ zTB PZ := ⟨Nat.le_of_ble_eq_true rfl, ⟨by decide +kernel, by decide +kernel, by decide +kernel⟩, (tb2 105 rfl rfl), (tb1 1 rfl rfl)⟩
theorem oks_33 : Cond.static (znm PZ 33) ∈ zTB PZ := (tb2 104 rfl rfl)
theorem okm_34 : 34 < znM PZ ∧ ((znm PZ 34).cls ≠ "java/lang/invoke/MethodHandle" ∧ (znm PZ 34).cls ≠ "java/lang/invoke/VarHandle" ∧ (parseMethodDescriptor (znm PZ 34).desc).map (fun d => d.parameters.length) = some 2) ∧ Cond.code (znm PZ 34) (zby PZ 34) (zmL PZ 34) (zrt PZ 34) ∈ zTB PZ ∧ Cond.initialized (znm PZ 34).cls ∈ zTB PZ := ⟨Nat.le_of_ble_eq_true rfl, ⟨by decide +kernel, by decide +kernel, by decide +kernel⟩, (tb2 102 rfl rfl), (tb1 2 rfl rfl)⟩
theorem oks_34 : Cond.static (znm PZ 34) ∈ zTB PZ := (tb2 101 rfl rfl)
theorem okm_35 : 35 < znM PZ ∧ ((znm PZ 35).cls ≠ "java/lang/invoke/MethodHandle" ∧ (znm PZ 35).cls ≠ "java/lang/invoke/VarHandle" ∧ (parseMethodDescriptor (znm PZ 35).desc).map (fun d => d.parameters.length) = some 0) ∧ Cond.code (znm PZ 35) (zby PZ 35) (zmL PZ 35) (zrt PZ 35) ∈ zTB PZ ∧ Cond.initialized (znm PZ 35).cls ∈ zTB PZ := ⟨Nat.le_of_ble_eq_true rfl, ⟨by decide +kernel, by decide +kernel, by decide +kernel⟩, (tb2 88 rfl rfl), (tb1 2 rfl rfl)⟩
theorem oki_35 : Cond.instanceMethod (znm PZ 35) ∈ zTB PZ := (tb2 86 rfl rfl)
theorem okv_35 : Cond.selects (znm PZ 35).cls (znm PZ 35) (znm PZ 35) ∈ zTB PZ := (tb2 87 rfl rfl)
theorem okm_36 : 36 < znM PZ ∧ ((znm PZ 36).cls ≠ "java/lang/invoke/MethodHandle" ∧ (znm PZ 36).cls ≠ "java/lang/invoke/VarHandle" ∧ (parseMethodDescriptor (znm PZ 36).desc).map (fun d => d.parameters.length) = some 1) ∧ Cond.code (znm PZ 36) (zby PZ 36) (zmL PZ 36) (zrt PZ 36) ∈ zTB PZ ∧ Cond.initialized (znm PZ 36).cls ∈ zTB PZ := ⟨Nat.le_of_ble_eq_true rfl, ⟨by decide +kernel, by decide +kernel, by decide +kernel⟩, (tb2 133 rfl rfl), (tb1 4 rfl rfl)⟩
theorem oki_36 : Cond.instanceMethod (znm PZ 36) ∈ zTB PZ := (tb2 131 rfl rfl)
theorem okv_36 : Cond.selects (znm PZ 36).cls (znm PZ 36) (znm PZ 36) ∈ zTB PZ := (tb2 132 rfl rfl)
theorem okm_37 : 37 < znM PZ ∧ ((znm PZ 37).cls ≠ "java/lang/invoke/MethodHandle" ∧ (znm PZ 37).cls ≠ "java/lang/invoke/VarHandle" ∧ (parseMethodDescriptor (znm PZ 37).desc).map (fun d => d.parameters.length) = some 1) ∧ Cond.code (znm PZ 37) (zby PZ 37) (zmL PZ 37) (zrt PZ 37) ∈ zTB PZ ∧ Cond.initialized (znm PZ 37).cls ∈ zTB PZ := ⟨Nat.le_of_ble_eq_true rfl, ⟨by decide +kernel, by decide +kernel, by decide +kernel⟩, (tb2 129 rfl rfl), (tb1 4 rfl rfl)⟩
theorem oki_37 : Cond.instanceMethod (znm PZ 37) ∈ zTB PZ := (tb2 127 rfl rfl)
theorem okv_37 : Cond.selects (znm PZ 37).cls (znm PZ 37) (znm PZ 37) ∈ zTB PZ := (tb2 128 rfl rfl)
theorem okm_38 : 38 < znM PZ ∧ ((znm PZ 38).cls ≠ "java/lang/invoke/MethodHandle" ∧ (znm PZ 38).cls ≠ "java/lang/invoke/VarHandle" ∧ (parseMethodDescriptor (znm PZ 38).desc).map (fun d => d.parameters.length) = some 2) ∧ Cond.code (znm PZ 38) (zby PZ 38) (zmL PZ 38) (zrt PZ 38) ∈ zTB PZ ∧ Cond.initialized (znm PZ 38).cls ∈ zTB PZ := ⟨Nat.le_of_ble_eq_true rfl, ⟨by decide +kernel, by decide +kernel, by decide +kernel⟩, (tb2 137 rfl rfl), (tb1 4 rfl rfl)⟩
theorem oki_38 : Cond.instanceMethod (znm PZ 38) ∈ zTB PZ := (tb2 135 rfl rfl)
theorem okv_38 : Cond.selects (znm PZ 38).cls (znm PZ 38) (znm PZ 38) ∈ zTB PZ := (tb2 136 rfl rfl)
theorem okm_39 : 39 < znM PZ ∧ ((znm PZ 39).cls ≠ "java/lang/invoke/MethodHandle" ∧ (znm PZ 39).cls ≠ "java/lang/invoke/VarHandle" ∧ (parseMethodDescriptor (znm PZ 39).desc).map (fun d => d.parameters.length) = some 1) ∧ Cond.code (znm PZ 39) (zby PZ 39) (zmL PZ 39) (zrt PZ 39) ∈ zTB PZ ∧ Cond.initialized (znm PZ 39).cls ∈ zTB PZ := ⟨Nat.le_of_ble_eq_true rfl, ⟨by decide +kernel, by decide +kernel, by decide +kernel⟩, (tb2 124 rfl rfl), (tb1 4 rfl rfl)⟩
theorem oki_39 : Cond.instanceMethod (znm PZ 39) ∈ zTB PZ := (tb2 122 rfl rfl)
theorem okv_39 : Cond.selects (znm PZ 39).cls (znm PZ 39) (znm PZ 39) ∈ zTB PZ := (tb2 123 rfl rfl)
theorem okm_40 : 40 < znM PZ ∧ ((znm PZ 40).cls ≠ "java/lang/invoke/MethodHandle" ∧ (znm PZ 40).cls ≠ "java/lang/invoke/VarHandle" ∧ (parseMethodDescriptor (znm PZ 40).desc).map (fun d => d.parameters.length) = some 1) ∧ Cond.code (znm PZ 40) (zby PZ 40) (zmL PZ 40) (zrt PZ 40) ∈ zTB PZ ∧ Cond.initialized (znm PZ 40).cls ∈ zTB PZ := ⟨Nat.le_of_ble_eq_true rfl, ⟨by decide +kernel, by decide +kernel, by decide +kernel⟩, (tb2 117 rfl rfl), (tb1 3 rfl rfl)⟩
theorem oki_40 : Cond.instanceMethod (znm PZ 40) ∈ zTB PZ := (tb2 115 rfl rfl)
theorem okv_40 : Cond.selects (znm PZ 40).cls (znm PZ 40) (znm PZ 40) ∈ zTB PZ := (tb2 116 rfl rfl)
theorem okm_41 : 41 < znM PZ ∧ ((znm PZ 41).cls ≠ "java/lang/invoke/MethodHandle" ∧ (znm PZ 41).cls ≠ "java/lang/invoke/VarHandle" ∧ (parseMethodDescriptor (znm PZ 41).desc).map (fun d => d.parameters.length) = some 1) ∧ Cond.code (znm PZ 41) (zby PZ 41) (zmL PZ 41) (zrt PZ 41) ∈ zTB PZ ∧ Cond.initialized (znm PZ 41).cls ∈ zTB PZ := ⟨Nat.le_of_ble_eq_true rfl, ⟨by decide +kernel, by decide +kernel, by decide +kernel⟩, (tb2 113 rfl rfl), (tb1 6 rfl rfl)⟩
theorem oki_41 : Cond.instanceMethod (znm PZ 41) ∈ zTB PZ := (tb2 111 rfl rfl)
theorem okv_41 : Cond.selects (znm PZ 41).cls (znm PZ 41) (znm PZ 41) ∈ zTB PZ := (tb2 112 rfl rfl)
theorem okm_42 : 42 < znM PZ ∧ ((znm PZ 42).cls ≠ "java/lang/invoke/MethodHandle" ∧ (znm PZ 42).cls ≠ "java/lang/invoke/VarHandle" ∧ (parseMethodDescriptor (znm PZ 42).desc).map (fun d => d.parameters.length) = some 0) ∧ Cond.code (znm PZ 42) (zby PZ 42) (zmL PZ 42) (zrt PZ 42) ∈ zTB PZ ∧ Cond.initialized (znm PZ 42).cls ∈ zTB PZ := ⟨Nat.le_of_ble_eq_true rfl, ⟨by decide +kernel, by decide +kernel, by decide +kernel⟩, (tb2 142 rfl rfl), (tb1 12 rfl rfl)⟩
theorem oki_42 : Cond.instanceMethod (znm PZ 42) ∈ zTB PZ := (tb2 140 rfl rfl)
theorem okv_42 : Cond.selects (znm PZ 42).cls (znm PZ 42) (znm PZ 42) ∈ zTB PZ := (tb2 141 rfl rfl)
theorem okm_43 : 43 < znM PZ ∧ ((znm PZ 43).cls ≠ "java/lang/invoke/MethodHandle" ∧ (znm PZ 43).cls ≠ "java/lang/invoke/VarHandle" ∧ (parseMethodDescriptor (znm PZ 43).desc).map (fun d => d.parameters.length) = some 0) ∧ Cond.code (znm PZ 43) (zby PZ 43) (zmL PZ 43) (zrt PZ 43) ∈ zTB PZ ∧ Cond.initialized (znm PZ 43).cls ∈ zTB PZ := ⟨Nat.le_of_ble_eq_true rfl, ⟨by decide +kernel, by decide +kernel, by decide +kernel⟩, (tb2 109 rfl rfl), (tb1 1 rfl rfl)⟩
theorem oki_43 : Cond.instanceMethod (znm PZ 43) ∈ zTB PZ := (tb2 108 rfl rfl)
theorem okv_43 : Cond.selects (znm PZ 43).cls (znm PZ 43) (znm PZ 43) ∈ zTB PZ := (tbs 8 rfl rfl)
theorem okm_44 : 44 < znM PZ ∧ ((znm PZ 44).cls ≠ "java/lang/invoke/MethodHandle" ∧ (znm PZ 44).cls ≠ "java/lang/invoke/VarHandle" ∧ (parseMethodDescriptor (znm PZ 44).desc).map (fun d => d.parameters.length) = some 0) ∧ Cond.code (znm PZ 44) (zby PZ 44) (zmL PZ 44) (zrt PZ 44) ∈ zTB PZ ∧ Cond.initialized (znm PZ 44).cls ∈ zTB PZ := ⟨Nat.le_of_ble_eq_true rfl, ⟨by decide +kernel, by decide +kernel, by decide +kernel⟩, (tb2 150 rfl rfl), (tb1 2 rfl rfl)⟩
theorem oki_44 : Cond.instanceMethod (znm PZ 44) ∈ zTB PZ := (tb2 148 rfl rfl)
theorem okv_44 : Cond.selects (znm PZ 44).cls (znm PZ 44) (znm PZ 44) ∈ zTB PZ := (tb2 149 rfl rfl)
theorem okm_45 : 45 < znM PZ ∧ ((znm PZ 45).cls ≠ "java/lang/invoke/MethodHandle" ∧ (znm PZ 45).cls ≠ "java/lang/invoke/VarHandle" ∧ (parseMethodDescriptor (znm PZ 45).desc).map (fun d => d.parameters.length) = some 3) ∧ Cond.code (znm PZ 45) (zby PZ 45) (zmL PZ 45) (zrt PZ 45) ∈ zTB PZ ∧ Cond.initialized (znm PZ 45).cls ∈ zTB PZ := ⟨Nat.le_of_ble_eq_true rfl, ⟨by decide +kernel, by decide +kernel, by decide +kernel⟩, (tb2 154 rfl rfl), (tb1 4 rfl rfl)⟩
theorem oki_45 : Cond.instanceMethod (znm PZ 45) ∈ zTB PZ := (tb2 152 rfl rfl)
theorem okv_45 : Cond.selects (znm PZ 45).cls (znm PZ 45) (znm PZ 45) ∈ zTB PZ := (tb2 153 rfl rfl)
theorem okm_46 : 46 < znM PZ ∧ ((znm PZ 46).cls ≠ "java/lang/invoke/MethodHandle" ∧ (znm PZ 46).cls ≠ "java/lang/invoke/VarHandle" ∧ (parseMethodDescriptor (znm PZ 46).desc).map (fun d => d.parameters.length) = some 1) ∧ Cond.code (znm PZ 46) (zby PZ 46) (zmL PZ 46) (zrt PZ 46) ∈ zTB PZ ∧ Cond.initialized (znm PZ 46).cls ∈ zTB PZ := ⟨Nat.le_of_ble_eq_true rfl, ⟨by decide +kernel, by decide +kernel, by decide +kernel⟩, (tb2 146 rfl rfl), (tb1 3 rfl rfl)⟩
theorem oki_46 : Cond.instanceMethod (znm PZ 46) ∈ zTB PZ := (tb2 144 rfl rfl)
theorem okv_46 : Cond.selects (znm PZ 46).cls (znm PZ 46) (znm PZ 46) ∈ zTB PZ := (tb2 145 rfl rfl)
theorem okm_47 : 47 < znM PZ ∧ ((znm PZ 47).cls ≠ "java/lang/invoke/MethodHandle" ∧ (znm PZ 47).cls ≠ "java/lang/invoke/VarHandle" ∧ (parseMethodDescriptor (znm PZ 47).desc).map (fun d => d.parameters.length) = some 0) ∧ Cond.code (znm PZ 47) (zby PZ 47) (zmL PZ 47) (zrt PZ 47) ∈ zTB PZ ∧ Cond.initialized (znm PZ 47).cls ∈ zTB PZ := ⟨Nat.le_of_ble_eq_true rfl, ⟨by decide +kernel, by decide +kernel, by decide +kernel⟩, (tb2 84 rfl rfl), (tb1 1 rfl rfl)⟩
theorem oki_47 : Cond.instanceMethod (znm PZ 47) ∈ zTB PZ := (tb2 82 rfl rfl)
theorem okv_47 : Cond.selects (znm PZ 47).cls (znm PZ 47) (znm PZ 47) ∈ zTB PZ := (tb2 83 rfl rfl)
theorem okm_48 : 48 < znM PZ ∧ ((znm PZ 48).cls ≠ "java/lang/invoke/MethodHandle" ∧ (znm PZ 48).cls ≠ "java/lang/invoke/VarHandle" ∧ (parseMethodDescriptor (znm PZ 48).desc).map (fun d => d.parameters.length) = some 1) ∧ Cond.code (znm PZ 48) (zby PZ 48) (zmL PZ 48) (zrt PZ 48) ∈ zTB PZ ∧ Cond.initialized (znm PZ 48).cls ∈ zTB PZ := ⟨Nat.le_of_ble_eq_true rfl, ⟨by decide +kernel, by decide +kernel, by decide +kernel⟩, (tb2 163 rfl rfl), (tb1 3 rfl rfl)⟩
theorem oki_48 : Cond.instanceMethod (znm PZ 48) ∈ zTB PZ := (tb2 161 rfl rfl)
theorem okv_48 : Cond.selects (znm PZ 48).cls (znm PZ 48) (znm PZ 48) ∈ zTB PZ := (tb2 162 rfl rfl)
theorem okm_49 : 49 < znM PZ ∧ ((znm PZ 49).cls ≠ "java/lang/invoke/MethodHandle" ∧ (znm PZ 49).cls ≠ "java/lang/invoke/VarHandle" ∧ (parseMethodDescriptor (znm PZ 49).desc).map (fun d => d.parameters.length) = some 1) ∧ Cond.code (znm PZ 49) (zby PZ 49) (zmL PZ 49) (zrt PZ 49) ∈ zTB PZ ∧ Cond.initialized (znm PZ 49).cls ∈ zTB PZ := ⟨Nat.le_of_ble_eq_true rfl, ⟨by decide +kernel, by decide +kernel, by decide +kernel⟩, (tb2 167 rfl rfl), (tb1 3 rfl rfl)⟩
theorem oki_49 : Cond.instanceMethod (znm PZ 49) ∈ zTB PZ := (tb2 165 rfl rfl)
theorem okv_49 : Cond.selects (znm PZ 49).cls (znm PZ 49) (znm PZ 49) ∈ zTB PZ := (tb2 166 rfl rfl)
theorem okm_50 : 50 < znM PZ ∧ ((znm PZ 50).cls ≠ "java/lang/invoke/MethodHandle" ∧ (znm PZ 50).cls ≠ "java/lang/invoke/VarHandle" ∧ (parseMethodDescriptor (znm PZ 50).desc).map (fun d => d.parameters.length) = some 1) ∧ Cond.code (znm PZ 50) (zby PZ 50) (zmL PZ 50) (zrt PZ 50) ∈ zTB PZ ∧ Cond.initialized (znm PZ 50).cls ∈ zTB PZ := ⟨Nat.le_of_ble_eq_true rfl, ⟨by decide +kernel, by decide +kernel, by decide +kernel⟩, (tb2 159 rfl rfl), (tb1 1 rfl rfl)⟩
theorem oki_50 : Cond.instanceMethod (znm PZ 50) ∈ zTB PZ := (tb2 157 rfl rfl)
theorem okv_50 : Cond.selects (znm PZ 50).cls (znm PZ 50) (znm PZ 50) ∈ zTB PZ := (tb2 158 rfl rfl)
theorem okm_51 : 51 < znM PZ ∧ ((znm PZ 51).cls ≠ "java/lang/invoke/MethodHandle" ∧ (znm PZ 51).cls ≠ "java/lang/invoke/VarHandle" ∧ (parseMethodDescriptor (znm PZ 51).desc).map (fun d => d.parameters.length) = some 2) ∧ Cond.code (znm PZ 51) (zby PZ 51) (zmL PZ 51) (zrt PZ 51) ∈ zTB PZ ∧ Cond.initialized (znm PZ 51).cls ∈ zTB PZ := ⟨Nat.le_of_ble_eq_true rfl, ⟨by decide +kernel, by decide +kernel, by decide +kernel⟩, (tb2 176 rfl rfl), (tb1 3 rfl rfl)⟩
theorem oki_51 : Cond.instanceMethod (znm PZ 51) ∈ zTB PZ := (tb2 174 rfl rfl)
theorem okv_51 : Cond.selects (znm PZ 51).cls (znm PZ 51) (znm PZ 51) ∈ zTB PZ := (tb2 175 rfl rfl)
theorem okm_52 : 52 < znM PZ ∧ ((znm PZ 52).cls ≠ "java/lang/invoke/MethodHandle" ∧ (znm PZ 52).cls ≠ "java/lang/invoke/VarHandle" ∧ (parseMethodDescriptor (znm PZ 52).desc).map (fun d => d.parameters.length) = some 3) ∧ Cond.code (znm PZ 52) (zby PZ 52) (zmL PZ 52) (zrt PZ 52) ∈ zTB PZ ∧ Cond.initialized (znm PZ 52).cls ∈ zTB PZ := ⟨Nat.le_of_ble_eq_true rfl, ⟨by decide +kernel, by decide +kernel, by decide +kernel⟩, (tb2 172 rfl rfl), (tb1 1 rfl rfl)⟩
theorem oki_52 : Cond.instanceMethod (znm PZ 52) ∈ zTB PZ := (tb2 170 rfl rfl)
theorem okv_52 : Cond.selects (znm PZ 52).cls (znm PZ 52) (znm PZ 52) ∈ zTB PZ := (tb2 171 rfl rfl)
theorem okm_53 : 53 < znM PZ ∧ ((znm PZ 53).cls ≠ "java/lang/invoke/MethodHandle" ∧ (znm PZ 53).cls ≠ "java/lang/invoke/VarHandle" ∧ (parseMethodDescriptor (znm PZ 53).desc).map (fun d => d.parameters.length) = some 2) ∧ Cond.code (znm PZ 53) (zby PZ 53) (zmL PZ 53) (zrt PZ 53) ∈ zTB PZ ∧ Cond.initialized (znm PZ 53).cls ∈ zTB PZ := ⟨Nat.le_of_ble_eq_true rfl, ⟨by decide +kernel, by decide +kernel, by decide +kernel⟩, (tb2 186 rfl rfl), (tb1 1 rfl rfl)⟩
theorem oks_53 : Cond.static (znm PZ 53) ∈ zTB PZ := (tb2 185 rfl rfl)
theorem okm_54 : 54 < znM PZ ∧ ((znm PZ 54).cls ≠ "java/lang/invoke/MethodHandle" ∧ (znm PZ 54).cls ≠ "java/lang/invoke/VarHandle" ∧ (parseMethodDescriptor (znm PZ 54).desc).map (fun d => d.parameters.length) = some 0) ∧ Cond.code (znm PZ 54) (zby PZ 54) (zmL PZ 54) (zrt PZ 54) ∈ zTB PZ ∧ Cond.initialized (znm PZ 54).cls ∈ zTB PZ := ⟨Nat.le_of_ble_eq_true rfl, ⟨by decide +kernel, by decide +kernel, by decide +kernel⟩, (tb2 196 rfl rfl), (tb1 4 rfl rfl)⟩
theorem oki_54 : Cond.instanceMethod (znm PZ 54) ∈ zTB PZ := (tb2 194 rfl rfl)
theorem okv_54 : Cond.selects (znm PZ 54).cls (znm PZ 54) (znm PZ 54) ∈ zTB PZ := (tb2 195 rfl rfl)
theorem okm_55 : 55 < znM PZ ∧ ((znm PZ 55).cls ≠ "java/lang/invoke/MethodHandle" ∧ (znm PZ 55).cls ≠ "java/lang/invoke/VarHandle" ∧ (parseMethodDescriptor (znm PZ 55).desc).map (fun d => d.parameters.length) = some 1) ∧ Cond.code (znm PZ 55) (zby PZ 55) (zmL PZ 55) (zrt PZ 55) ∈ zTB PZ ∧ Cond.initialized (znm PZ 55).cls ∈ zTB PZ := ⟨Nat.le_of_ble_eq_true rfl, ⟨by decide +kernel, by decide +kernel, by decide +kernel⟩, (tb2 192 rfl rfl), (tb1 3 rfl rfl)⟩
theorem oki_55 : Cond.instanceMethod (znm PZ 55) ∈ zTB PZ := (tb2 190 rfl rfl)
theorem okv_55 : Cond.selects (znm PZ 55).cls (znm PZ 55) (znm PZ 55) ∈ zTB PZ := (tb2 191 rfl rfl)
theorem okm_56 : 56 < znM PZ ∧ ((znm PZ 56).cls ≠ "java/lang/invoke/MethodHandle" ∧ (znm PZ 56).cls ≠ "java/lang/invoke/VarHandle" ∧ (parseMethodDescriptor (znm PZ 56).desc).map (fun d => d.parameters.length) = some 4) ∧ Cond.code (znm PZ 56) (zby PZ 56) (zmL PZ 56) (zrt PZ 56) ∈ zTB PZ ∧ Cond.initialized (znm PZ 56).cls ∈ zTB PZ := ⟨Nat.le_of_ble_eq_true rfl, ⟨by decide +kernel, by decide +kernel, by decide +kernel⟩, (tb2 183 rfl rfl), (tb1 1 rfl rfl)⟩
theorem oki_56 : Cond.instanceMethod (znm PZ 56) ∈ zTB PZ := (tb2 181 rfl rfl)
theorem okv_56 : Cond.selects (znm PZ 56).cls (znm PZ 56) (znm PZ 56) ∈ zTB PZ := (tb2 182 rfl rfl)
theorem okm_57 : 57 < znM PZ ∧ ((znm PZ 57).cls ≠ "java/lang/invoke/MethodHandle" ∧ (znm PZ 57).cls ≠ "java/lang/invoke/VarHandle" ∧ (parseMethodDescriptor (znm PZ 57).desc).map (fun d => d.parameters.length) = some 1) ∧ Cond.code (znm PZ 57) (zby PZ 57) (zmL PZ 57) (zrt PZ 57) ∈ zTB PZ ∧ Cond.initialized (znm PZ 57).cls ∈ zTB PZ := ⟨Nat.le_of_ble_eq_true rfl, ⟨by decide +kernel, by decide +kernel, by decide +kernel⟩, (tb2 200 rfl rfl), (tb1 1 rfl rfl)⟩
theorem oki_57 : Cond.instanceMethod (znm PZ 57) ∈ zTB PZ := (tb2 198 rfl rfl)
theorem okv_57 : Cond.selects (znm PZ 57).cls (znm PZ 57) (znm PZ 57) ∈ zTB PZ := (tb2 199 rfl rfl)
theorem okm_58 : 58 < znM PZ ∧ ((znm PZ 58).cls ≠ "java/lang/invoke/MethodHandle" ∧ (znm PZ 58).cls ≠ "java/lang/invoke/VarHandle" ∧ (parseMethodDescriptor (znm PZ 58).desc).map (fun d => d.parameters.length) = some 1) ∧ Cond.code (znm PZ 58) (zby PZ 58) (zmL PZ 58) (zrt PZ 58) ∈ zTB PZ ∧ Cond.initialized (znm PZ 58).cls ∈ zTB PZ := ⟨Nat.le_of_ble_eq_true rfl, ⟨by decide +kernel, by decide +kernel, by decide +kernel⟩, (tb2 204 rfl rfl), (tb1 1 rfl rfl)⟩
theorem oki_58 : Cond.instanceMethod (znm PZ 58) ∈ zTB PZ := (tb2 202 rfl rfl)
theorem okv_58 : Cond.selects (znm PZ 58).cls (znm PZ 58) (znm PZ 58) ∈ zTB PZ := (tb2 203 rfl rfl)
theorem okm_59 : 59 < znM PZ ∧ ((znm PZ 59).cls ≠ "java/lang/invoke/MethodHandle" ∧ (znm PZ 59).cls ≠ "java/lang/invoke/VarHandle" ∧ (parseMethodDescriptor (znm PZ 59).desc).map (fun d => d.parameters.length) = some 1) ∧ Cond.code (znm PZ 59) (zby PZ 59) (zmL PZ 59) (zrt PZ 59) ∈ zTB PZ ∧ Cond.initialized (znm PZ 59).cls ∈ zTB PZ := ⟨Nat.le_of_ble_eq_true rfl, ⟨by decide +kernel, by decide +kernel, by decide +kernel⟩, (tb2 212 rfl rfl), (tb1 6 rfl rfl)⟩
theorem oki_59 : Cond.instanceMethod (znm PZ 59) ∈ zTB PZ := (tb2 210 rfl rfl)
theorem okv_59 : Cond.selects (znm PZ 59).cls (znm PZ 59) (znm PZ 59) ∈ zTB PZ := (tb2 211 rfl rfl)
theorem okm_60 : 60 < znM PZ ∧ ((znm PZ 60).cls ≠ "java/lang/invoke/MethodHandle" ∧ (znm PZ 60).cls ≠ "java/lang/invoke/VarHandle" ∧ (parseMethodDescriptor (znm PZ 60).desc).map (fun d => d.parameters.length) = some 0) ∧ Cond.code (znm PZ 60) (zby PZ 60) (zmL PZ 60) (zrt PZ 60) ∈ zTB PZ ∧ Cond.initialized (znm PZ 60).cls ∈ zTB PZ := ⟨Nat.le_of_ble_eq_true rfl, ⟨by decide +kernel, by decide +kernel, by decide +kernel⟩, (tb2 208 rfl rfl), (tb1 1 rfl rfl)⟩
theorem oki_60 : Cond.instanceMethod (znm PZ 60) ∈ zTB PZ := (tb2 206 rfl rfl)
theorem okv_60 : Cond.selects (znm PZ 60).cls (znm PZ 60) (znm PZ 60) ∈ zTB PZ := (tb2 207 rfl rfl)
theorem okm_61 : 61 < znM PZ ∧ ((znm PZ 61).cls ≠ "java/lang/invoke/MethodHandle" ∧ (znm PZ 61).cls ≠ "java/lang/invoke/VarHandle" ∧ (parseMethodDescriptor (znm PZ 61).desc).map (fun d => d.parameters.length) = some 2) ∧ Cond.code (znm PZ 61) (zby PZ 61) (zmL PZ 61) (zrt PZ 61) ∈ zTB PZ ∧ Cond.initialized (znm PZ 61).cls ∈ zTB PZ := ⟨Nat.le_of_ble_eq_true rfl, ⟨by decide +kernel, by decide +kernel, by decide +kernel⟩, (tb2 220 rfl rfl), (tb1 3 rfl rfl)⟩
theorem oki_61 : Cond.instanceMethod (znm PZ 61) ∈ zTB PZ := (tb2 218 rfl rfl)
theorem okv_61 : Cond.selects (znm PZ 61).cls (znm PZ 61) (znm PZ 61) ∈ zTB PZ := (tb2 219 rfl rfl)
theorem okm_62 : 62 < znM PZ ∧ ((znm PZ 62).cls ≠ "java/lang/invoke/MethodHandle" ∧ (znm PZ 62).cls ≠ "java/lang/invoke/VarHandle" ∧ (parseMethodDescriptor (znm PZ 62).desc).map (fun d => d.parameters.length) = some 3) ∧ Cond.code (znm PZ 62) (zby PZ 62) (zmL PZ 62) (zrt PZ 62) ∈ zTB PZ ∧ Cond.initialized (znm PZ 62).cls ∈ zTB PZ := ⟨Nat.le_of_ble_eq_true rfl, ⟨by decide +kernel, by decide +kernel, by decide +kernel⟩, (tb2 237 rfl rfl), (tb1 7 rfl rfl)⟩
theorem oki_62 : Cond.instanceMethod (znm PZ 62) ∈ zTB PZ := (tb2 235 rfl rfl)
theorem okv_62 : Cond.selects (znm PZ 62).cls (znm PZ 62) (znm PZ 62) ∈ zTB PZ := (tb2 236 rfl rfl)
theorem okm_63 : 63 < znM PZ ∧ ((znm PZ 63).cls ≠ "java/lang/invoke/MethodHandle" ∧ (znm PZ 63).cls ≠ "java/lang/invoke/VarHandle" ∧ (parseMethodDescriptor (znm PZ 63).desc).map (fun d => d.parameters.length) = some 1) ∧ Cond.code (znm PZ 63) (zby PZ 63) (zmL PZ 63) (zrt PZ 63) ∈ zTB PZ ∧ Cond.initialized (znm PZ 63).cls ∈ zTB PZ := ⟨Nat.le_of_ble_eq_true rfl, ⟨by decide +kernel, by decide +kernel, by decide +kernel⟩, (tb3 4 rfl rfl), (tb1 15 rfl rfl)⟩
theorem oks_63 : Cond.static (znm PZ 63) ∈ zTB PZ := (tb3 3 rfl rfl)
theorem okm_64 : 64 < znM PZ ∧ ((znm PZ 64).cls ≠ "java/lang/invoke/MethodHandle" ∧ (znm PZ 64).cls ≠ "java/lang/invoke/VarHandle" ∧ (parseMethodDescriptor (znm PZ 64).desc).map (fun d => d.parameters.length) = some 2) ∧ Cond.code (znm PZ 64) (zby PZ 64) (zmL PZ 64) (zrt PZ 64) ∈ zTB PZ ∧ Cond.initialized (znm PZ 64).cls ∈ zTB PZ := ⟨Nat.le_of_ble_eq_true rfl, ⟨by decide +kernel, by decide +kernel, by decide +kernel⟩, (tb3 8 rfl rfl), (tb1 15 rfl rfl)⟩
theorem oks_64 : Cond.static (znm PZ 64) ∈ zTB PZ := (tb3 7 rfl rfl)
theorem okm_65 : 65 < znM PZ ∧ ((znm PZ 65).cls ≠ "java/lang/invoke/MethodHandle" ∧ (znm PZ 65).cls ≠ "java/lang/invoke/VarHandle" ∧ (parseMethodDescriptor (znm PZ 65).desc).map (fun d => d.parameters.length) = some 2) ∧ Cond.code (znm PZ 65) (zby PZ 65) (zmL PZ 65) (zrt PZ 65) ∈ zTB PZ ∧ Cond.initialized (znm PZ 65).cls ∈ zTB PZ := ⟨Nat.le_of_ble_eq_true rfl, ⟨by decide +kernel, by decide +kernel, by decide +kernel⟩, (tb3 1 rfl rfl), (tb1 15 rfl rfl)⟩
theorem oks_65 : Cond.static (znm PZ 65) ∈ zTB PZ := (tb3 0 rfl rfl)
theorem okm_66 : 66 < znM PZ ∧ ((znm PZ 66).cls ≠ "java/lang/invoke/MethodHandle" ∧ (znm PZ 66).cls ≠ "java/lang/invoke/VarHandle" ∧ (parseMethodDescriptor (znm PZ 66).desc).map (fun d => d.parameters.length) = some 2) ∧ Cond.code (znm PZ 66) (zby PZ 66) (zmL PZ 66) (zrt PZ 66) ∈ zTB PZ ∧ Cond.initialized (znm PZ 66).cls ∈ zTB PZ := ⟨Nat.le_of_ble_eq_true rfl, ⟨by decide +kernel, by decide +kernel, by decide +kernel⟩, (tb3 17 rfl rfl), (tb1 13 rfl rfl)⟩
theorem oki_66 : Cond.instanceMethod (znm PZ 66) ∈ zTB PZ := (tb3 16 rfl rfl)
theorem okv_66 : Cond.selects (znm PZ 66).cls (znm PZ 66) (znm PZ 66) ∈ zTB PZ := (tbs 10 rfl rfl)
theorem okm_67 : 67 < znM PZ ∧ ((znm PZ 67).cls ≠ "java/lang/invoke/MethodHandle" ∧ (znm PZ 67).cls ≠ "java/lang/invoke/VarHandle" ∧ (parseMethodDescriptor (znm PZ 67).desc).map (fun d => d.parameters.length) = some 4) ∧ Cond.code (znm PZ 67) (zby PZ 67) (zmL PZ 67) (zrt PZ 67) ∈ zTB PZ ∧ Cond.initialized (znm PZ 67).cls ∈ zTB PZ := ⟨Nat.le_of_ble_eq_true rfl, ⟨by decide +kernel, by decide +kernel, by decide +kernel⟩, (tb2 233 rfl rfl), (tb1 13 rfl rfl)⟩
theorem oki_67 : Cond.instanceMethod (znm PZ 67) ∈ zTB PZ := (tb2 231 rfl rfl)
theorem okv_67 : Cond.selects (znm PZ 67).cls (znm PZ 67) (znm PZ 67) ∈ zTB PZ := (tb2 232 rfl rfl)
theorem okm_68 : 68 < znM PZ ∧ ((znm PZ 68).cls ≠ "java/lang/invoke/MethodHandle" ∧ (znm PZ 68).cls ≠ "java/lang/invoke/VarHandle" ∧ (parseMethodDescriptor (znm PZ 68).desc).map (fun d => d.parameters.length) = some 2) ∧ Cond.code (znm PZ 68) (zby PZ 68) (zmL PZ 68) (zrt PZ 68) ∈ zTB PZ ∧ Cond.initialized (znm PZ 68).cls ∈ zTB PZ := ⟨Nat.le_of_ble_eq_true rfl, ⟨by decide +kernel, by decide +kernel, by decide +kernel⟩, (tb2 229 rfl rfl), (tb1 12 rfl rfl)⟩
theorem oki_68 : Cond.instanceMethod (znm PZ 68) ∈ zTB PZ := (tb2 227 rfl rfl)
theorem okv_68 : Cond.selects (znm PZ 68).cls (znm PZ 68) (znm PZ 68) ∈ zTB PZ := (tb2 228 rfl rfl)
theorem okm_69 : 69 < znM PZ ∧ ((znm PZ 69).cls ≠ "java/lang/invoke/MethodHandle" ∧ (znm PZ 69).cls ≠ "java/lang/invoke/VarHandle" ∧ (parseMethodDescriptor (znm PZ 69).desc).map (fun d => d.parameters.length) = some 1) ∧ Cond.code (znm PZ 69) (zby PZ 69) (zmL PZ 69) (zrt PZ 69) ∈ zTB PZ ∧ Cond.initialized (znm PZ 69).cls ∈ zTB PZ := ⟨Nat.le_of_ble_eq_true rfl, ⟨by decide +kernel, by decide +kernel, by decide +kernel⟩, (tb3 21 rfl rfl), (tb1 12 rfl rfl)⟩
theorem oki_69 : Cond.instanceMethod (znm PZ 69) ∈ zTB PZ := (tb3 19 rfl rfl)
theorem okv_69 : Cond.selects (znm PZ 69).cls (znm PZ 69) (znm PZ 69) ∈ zTB PZ := (tb3 20 rfl rfl)
theorem okm_70 : 70 < znM PZ ∧ ((znm PZ 70).cls ≠ "java/lang/invoke/MethodHandle" ∧ (znm PZ 70).cls ≠ "java/lang/invoke/VarHandle" ∧ (parseMethodDescriptor (znm PZ 70).desc).map (fun d => d.parameters.length) = some 1) ∧ Cond.code (znm PZ 70) (zby PZ 70) (zmL PZ 70) (zrt PZ 70) ∈ zTB PZ ∧ Cond.initialized (znm PZ 70).cls ∈ zTB PZ := ⟨Nat.le_of_ble_eq_true rfl, ⟨by decide +kernel, by decide +kernel, by decide +kernel⟩, (tb2 225 rfl rfl), (tb1 1 rfl rfl)⟩
theorem oki_70 : Cond.instanceMethod (znm PZ 70) ∈ zTB PZ := (tb2 224 rfl rfl)
theorem okv_70 : Cond.selects (znm PZ 70).cls (znm PZ 70) (znm PZ 70) ∈ zTB PZ := (tbs 9 rfl rfl)
theorem okm_71 : 71 < znM PZ ∧ ((znm PZ 71).cls ≠ "java/lang/invoke/MethodHandle" ∧ (znm PZ 71).cls ≠ "java/lang/invoke/VarHandle" ∧ (parseMethodDescriptor (znm PZ 71).desc).map (fun d => d.parameters.length) = some 2) ∧ Cond.code (znm PZ 71) (zby PZ 71) (zmL PZ 71) (zrt PZ 71) ∈ zTB PZ ∧ Cond.initialized (znm PZ 71).cls ∈ zTB PZ := ⟨Nat.le_of_ble_eq_true rfl, ⟨by decide +kernel, by decide +kernel, by decide +kernel⟩, (tb2 216 rfl rfl), (tb1 1 rfl rfl)⟩
theorem oki_71 : Cond.instanceMethod (znm PZ 71) ∈ zTB PZ := (tb2 214 rfl rfl)
theorem okv_71 : Cond.selects (znm PZ 71).cls (znm PZ 71) (znm PZ 71) ∈ zTB PZ := (tb2 215 rfl rfl)
theorem okm_72 : 72 < znM PZ ∧ ((znm PZ 72).cls ≠ "java/lang/invoke/MethodHandle" ∧ (znm PZ 72).cls ≠ "java/lang/invoke/VarHandle" ∧ (parseMethodDescriptor (znm PZ 72).desc).map (fun d => d.parameters.length) = some 3) ∧ Cond.code (znm PZ 72) (zby PZ 72) (zmL PZ 72) (zrt PZ 72) ∈ zTB PZ ∧ Cond.initialized (znm PZ 72).cls ∈ zTB PZ := ⟨Nat.le_of_ble_eq_true rfl, ⟨by decide +kernel, by decide +kernel, by decide +kernel⟩, (tb3 25 rfl rfl), (tb1 1 rfl rfl)⟩
theorem oki_72 : Cond.instanceMethod (znm PZ 72) ∈ zTB PZ := (tb3 23 rfl rfl)
theorem okv_72 : Cond.selects (znm PZ 72).cls (znm PZ 72) (znm PZ 72) ∈ zTB PZ := (tb3 24 rfl rfl)
theorem okm_73 : 73 < znM PZ ∧ ((znm PZ 73).cls ≠ "java/lang/invoke/MethodHandle" ∧ (znm PZ 73).cls ≠ "java/lang/invoke/VarHandle" ∧ (parseMethodDescriptor (znm PZ 73).desc).map (fun d => d.parameters.length) = some 3) ∧ Cond.code (znm PZ 73) (zby PZ 73) (zmL PZ 73) (zrt PZ 73) ∈ zTB PZ ∧ Cond.initialized (znm PZ 73).cls ∈ zTB PZ := ⟨Nat.le_of_ble_eq_true rfl, ⟨by decide +kernel, by decide +kernel, by decide +kernel⟩, (tb3 29 rfl rfl), (tb1 1 rfl rfl)⟩
theorem oki_73 : Cond.instanceMethod (znm PZ 73) ∈ zTB PZ := (tb3 27 rfl rfl)
theorem okv_73 : Cond.selects (znm PZ 73).cls (znm PZ 73) (znm PZ 73) ∈ zTB PZ := (tb3 28 rfl rfl)
theorem okm_74 : 74 < znM PZ ∧ ((znm PZ 74).cls ≠ "java/lang/invoke/MethodHandle" ∧ (znm PZ 74).cls ≠ "java/lang/invoke/VarHandle" ∧ (parseMethodDescriptor (znm PZ 74).desc).map (fun d => d.parameters.length) = some 1) ∧ Cond.code (znm PZ 74) (zby PZ 74) (zmL PZ 74) (zrt PZ 74) ∈ zTB PZ ∧ Cond.initialized (znm PZ 74).cls ∈ zTB PZ := ⟨Nat.le_of_ble_eq_true rfl, ⟨by decide +kernel, by decide +kernel, by decide +kernel⟩, (tb3 48 rfl rfl), (tb1 13 rfl rfl)⟩
theorem oki_74 : Cond.instanceMethod (znm PZ 74) ∈ zTB PZ := (tb3 46 rfl rfl)
theorem okv_74 : Cond.selects (znm PZ 74).cls (znm PZ 74) (znm PZ 74) ∈ zTB PZ := (tb3 47 rfl rfl)
theorem okm_75 : 75 < znM PZ ∧ ((znm PZ 75).cls ≠ "java/lang/invoke/MethodHandle" ∧ (znm PZ 75).cls ≠ "java/lang/invoke/VarHandle" ∧ (parseMethodDescriptor (znm PZ 75).desc).map (fun d => d.parameters.length) = some 1) ∧ Cond.code (znm PZ 75) (zby PZ 75) (zmL PZ 75) (zrt PZ 75) ∈ zTB PZ ∧ Cond.initialized (znm PZ 75).cls ∈ zTB PZ := ⟨Nat.le_of_ble_eq_true rfl, ⟨by decide +kernel, by decide +kernel, by decide +kernel⟩, (tb3 44 rfl rfl), (tb1 13 rfl rfl)⟩
theorem oki_75 : Cond.instanceMethod (znm PZ 75) ∈ zTB PZ := (tb3 43 rfl rfl)
theorem okv_75 : Cond.selects (znm PZ 75).cls (znm PZ 75) (znm PZ 75) ∈ zTB PZ := (tbs 11 rfl rfl)
theorem okm_76 : 76 < znM PZ ∧ ((znm PZ 76).cls ≠ "java/lang/invoke/MethodHandle" ∧ (znm PZ 76).cls ≠ "java/lang/invoke/VarHandle" ∧ (parseMethodDescriptor (znm PZ 76).desc).map (fun d => d.parameters.length) = some 1) ∧ Cond.code (znm PZ 76) (zby PZ 76) (zmL PZ 76) (zrt PZ 76) ∈ zTB PZ ∧ Cond.initialized (znm PZ 76).cls ∈ zTB PZ := ⟨Nat.le_of_ble_eq_true rfl, ⟨by decide +kernel, by decide +kernel, by decide +kernel⟩, (tb3 40 rfl rfl), (tb1 13 rfl rfl)⟩
theorem oki_76 : Cond.instanceMethod (znm PZ 76) ∈ zTB PZ := (tb3 38 rfl rfl)
theorem okv_76 : Cond.selects (znm PZ 76).cls (znm PZ 76) (znm PZ 76) ∈ zTB PZ := (tb3 39 rfl rfl)
theorem okm_77 : 77 < znM PZ ∧ ((znm PZ 77).cls ≠ "java/lang/invoke/MethodHandle" ∧ (znm PZ 77).cls ≠ "java/lang/invoke/VarHandle" ∧ (parseMethodDescriptor (znm PZ 77).desc).map (fun d => d.parameters.length) = some 1) ∧ Cond.code (znm PZ 77) (zby PZ 77) (zmL PZ 77) (zrt PZ 77) ∈ zTB PZ ∧ Cond.initialized (znm PZ 77).cls ∈ zTB PZ := ⟨Nat.le_of_ble_eq_true rfl, ⟨by decide +kernel, by decide +kernel, by decide +kernel⟩, (tb3 52 rfl rfl), (tb1 13 rfl rfl)⟩
theorem oki_77 : Cond.instanceMethod (znm PZ 77) ∈ zTB PZ := (tb3 50 rfl rfl)
theorem okv_77 : Cond.selects (znm PZ 77).cls (znm PZ 77) (znm PZ 77) ∈ zTB PZ := (tb3 51 rfl rfl)
theorem okm_78 : 78 < znM PZ ∧ ((znm PZ 78).cls ≠ "java/lang/invoke/MethodHandle" ∧ (znm PZ 78).cls ≠ "java/lang/invoke/VarHandle" ∧ (parseMethodDescriptor (znm PZ 78).desc).map (fun d => d.parameters.length) = some 3) ∧ Cond.code (znm PZ 78) (zby PZ 78) (zmL PZ 78) (zrt PZ 78) ∈ zTB PZ ∧ Cond.initialized (znm PZ 78).cls ∈ zTB PZ := ⟨Nat.le_of_ble_eq_true rfl, ⟨by decide +kernel, by decide +kernel, by decide +kernel⟩, (tb3 36 rfl rfl), (tb1 1 rfl rfl)⟩
theorem oki_78 : Cond.instanceMethod (znm PZ 78) ∈ zTB PZ := (tb3 34 rfl rfl)
theorem okv_78 : Cond.selects (znm PZ 78).cls (znm PZ 78) (znm PZ 78) ∈ zTB PZ := (tb3 35 rfl rfl)
theorem okm_79 : 79 < znM PZ ∧ ((znm PZ 79).cls ≠ "java/lang/invoke/MethodHandle" ∧ (znm PZ 79).cls ≠ "java/lang/invoke/VarHandle" ∧ (parseMethodDescriptor (znm PZ 79).desc).map (fun d => d.parameters.length) = some 2) ∧ Cond.code (znm PZ 79) (zby PZ 79) (zmL PZ 79) (zrt PZ 79) ∈ zTB PZ ∧ Cond.initialized (znm PZ 79).cls ∈ zTB PZ := ⟨Nat.le_of_ble_eq_true rfl, ⟨by decide +kernel, by decide +kernel, by decide +kernel⟩, (tb3 57 rfl rfl), (tb1 1 rfl rfl)⟩
theorem oki_79 : Cond.instanceMethod (znm PZ 79) ∈ zTB PZ := (tb3 55 rfl rfl)
theorem okv_79 : Cond.selects (znm PZ 79).cls (znm PZ 79) (znm PZ 79) ∈ zTB PZ := (tb3 56 rfl rfl)
theorem okm_80 : 80 < znM PZ ∧ ((znm PZ 80).cls ≠ "java/lang/invoke/MethodHandle" ∧ (znm PZ 80).cls ≠ "java/lang/invoke/VarHandle" ∧ (parseMethodDescriptor (znm PZ 80).desc).map (fun d => d.parameters.length) = some 1) ∧ Cond.code (znm PZ 80) (zby PZ 80) (zmL PZ 80) (zrt PZ 80) ∈ zTB PZ ∧ Cond.initialized (znm PZ 80).cls ∈ zTB PZ := ⟨Nat.le_of_ble_eq_true rfl, ⟨by decide +kernel, by decide +kernel, by decide +kernel⟩, (tb3 73 rfl rfl), (tb1 12 rfl rfl)⟩
theorem oki_80 : Cond.instanceMethod (znm PZ 80) ∈ zTB PZ := (tb3 71 rfl rfl)
theorem okv_80 : Cond.selects (znm PZ 80).cls (znm PZ 80) (znm PZ 80) ∈ zTB PZ := (tb3 72 rfl rfl)
theorem okm_81 : 81 < znM PZ ∧ ((znm PZ 81).cls ≠ "java/lang/invoke/MethodHandle" ∧ (znm PZ 81).cls ≠ "java/lang/invoke/VarHandle" ∧ (parseMethodDescriptor (znm PZ 81).desc).map (fun d => d.parameters.length) = some 1) ∧ Cond.code (znm PZ 81) (zby PZ 81) (zmL PZ 81) (zrt PZ 81) ∈ zTB PZ ∧ Cond.initialized (znm PZ 81).cls ∈ zTB PZ := ⟨Nat.le_of_ble_eq_true rfl, ⟨by decide +kernel, by decide +kernel, by decide +kernel⟩, (tb3 77 rfl rfl), (tb1 12 rfl rfl)⟩
theorem oki_81 : Cond.instanceMethod (znm PZ 81) ∈ zTB PZ := (tb3 76 rfl rfl)
theorem okv_81 : Cond.selects (znm PZ 81).cls (znm PZ 81) (znm PZ 81) ∈ zTB PZ := (tbs 12 rfl rfl)
theorem okm_82 : 82 < znM PZ ∧ ((znm PZ 82).cls ≠ "java/lang/invoke/MethodHandle" ∧ (znm PZ 82).cls ≠ "java/lang/invoke/VarHandle" ∧ (parseMethodDescriptor (znm PZ 82).desc).map (fun d => d.parameters.length) = some 2) ∧ Cond.code (znm PZ 82) (zby PZ 82) (zmL PZ 82) (zrt PZ 82) ∈ zTB PZ ∧ Cond.initialized (znm PZ 82).cls ∈ zTB PZ := ⟨Nat.le_of_ble_eq_true rfl, ⟨by decide +kernel, by decide +kernel, by decide +kernel⟩, (tb3 91 rfl rfl), (tb1 16 rfl rfl)⟩
theorem oks_82 : Cond.static (znm PZ 82) ∈ zTB PZ := (tb3 90 rfl rfl)
theorem okm_83 : 83 < znM PZ ∧ ((znm PZ 83).cls ≠ "java/lang/invoke/MethodHandle" ∧ (znm PZ 83).cls ≠ "java/lang/invoke/VarHandle" ∧ (parseMethodDescriptor (znm PZ 83).desc).map (fun d => d.parameters.length) = some 0) ∧ Cond.code (znm PZ 83) (zby PZ 83) (zmL PZ 83) (zrt PZ 83) ∈ zTB PZ ∧ Cond.initialized (znm PZ 83).cls ∈ zTB PZ := ⟨Nat.le_of_ble_eq_true rfl, ⟨by decide +kernel, by decide +kernel, by decide +kernel⟩, (tb3 95 rfl rfl), (tb1 13 rfl rfl)⟩
theorem oki_83 : Cond.instanceMethod (znm PZ 83) ∈ zTB PZ := (tb3 93 rfl rfl)
theorem okv_83 : Cond.selects (znm PZ 83).cls (znm PZ 83) (znm PZ 83) ∈ zTB PZ := (tb3 94 rfl rfl)
theorem okm_84 : 84 < znM PZ ∧ ((znm PZ 84).cls ≠ "java/lang/invoke/MethodHandle" ∧ (znm PZ 84).cls ≠ "java/lang/invoke/VarHandle" ∧ (parseMethodDescriptor (znm PZ 84).desc).map (fun d => d.parameters.length) = some 4) ∧ Cond.code (znm PZ 84) (zby PZ 84) (zmL PZ 84) (zrt PZ 84) ∈ zTB PZ ∧ Cond.initialized (znm PZ 84).cls ∈ zTB PZ := ⟨Nat.le_of_ble_eq_true rfl, ⟨by decide +kernel, by decide +kernel, by decide +kernel⟩, (tb3 102 rfl rfl), (tb1 12 rfl rfl)⟩
theorem oks_84 : Cond.static (znm PZ 84) ∈ zTB PZ := (tb3 101 rfl rfl)
theorem okm_85 : 85 < znM PZ ∧ ((znm PZ 85).cls ≠ "java/lang/invoke/MethodHandle" ∧ (znm PZ 85).cls ≠ "java/lang/invoke/VarHandle" ∧ (parseMethodDescriptor (znm PZ 85).desc).map (fun d => d.parameters.length) = some 3) ∧ Cond.code (znm PZ 85) (zby PZ 85) (zmL PZ 85) (zrt PZ 85) ∈ zTB PZ ∧ Cond.initialized (znm PZ 85).cls ∈ zTB PZ := ⟨Nat.le_of_ble_eq_true rfl, ⟨by decide +kernel, by decide +kernel, by decide +kernel⟩, (tb3 99 rfl rfl), (tb1 12 rfl rfl)⟩
theorem oks_85 : Cond.static (znm PZ 85) ∈ zTB PZ := (tb3 98 rfl rfl)
theorem okm_86 : 86 < znM PZ ∧ ((znm PZ 86).cls ≠ "java/lang/invoke/MethodHandle" ∧ (znm PZ 86).cls ≠ "java/lang/invoke/VarHandle" ∧ (parseMethodDescriptor (znm PZ 86).desc).map (fun d => d.parameters.length) = some 2) ∧ Cond.code (znm PZ 86) (zby PZ 86) (zmL PZ 86) (zrt PZ 86) ∈ zTB PZ ∧ Cond.initialized (znm PZ 86).cls ∈ zTB PZ := ⟨Nat.le_of_ble_eq_true rfl, ⟨by decide +kernel, by decide +kernel, by decide +kernel⟩, (tb3 88 rfl rfl), (tb1 12 rfl rfl)⟩
theorem oki_86 : Cond.instanceMethod (znm PZ 86) ∈ zTB PZ := (tb3 87 rfl rfl)
theorem okv_86 : Cond.selects (znm PZ 86).cls (znm PZ 86) (znm PZ 86) ∈ zTB PZ := (tbs 14 rfl rfl)
theorem okm_87 : 87 < znM PZ ∧ ((znm PZ 87).cls ≠ "java/lang/invoke/MethodHandle" ∧ (znm PZ 87).cls ≠ "java/lang/invoke/VarHandle" ∧ (parseMethodDescriptor (znm PZ 87).desc).map (fun d => d.parameters.length) = some 4) ∧ Cond.code (znm PZ 87) (zby PZ 87) (zmL PZ 87) (zrt PZ 87) ∈ zTB PZ ∧ Cond.initialized (znm PZ 87).cls ∈ zTB PZ := ⟨Nat.le_of_ble_eq_true rfl, ⟨by decide +kernel, by decide +kernel, by decide +kernel⟩, (tb3 105 rfl rfl), (tb1 12 rfl rfl)⟩
theorem oks_87 : Cond.static (znm PZ 87) ∈ zTB PZ := (tb3 104 rfl rfl)
theorem okm_88 : 88 < znM PZ ∧ ((znm PZ 88).cls ≠ "java/lang/invoke/MethodHandle" ∧ (znm PZ 88).cls ≠ "java/lang/invoke/VarHandle" ∧ (parseMethodDescriptor (znm PZ 88).desc).map (fun d => d.parameters.length) = some 2) ∧ Cond.code (znm PZ 88) (zby PZ 88) (zmL PZ 88) (zrt PZ 88) ∈ zTB PZ ∧ Cond.initialized (znm PZ 88).cls ∈ zTB PZ := ⟨Nat.le_of_ble_eq_true rfl, ⟨by decide +kernel, by decide +kernel, by decide +kernel⟩, (tb3 84 rfl rfl), (tb1 12 rfl rfl)⟩
theorem oki_88 : Cond.instanceMethod (znm PZ 88) ∈ zTB PZ := (tb3 83 rfl rfl)
theorem okv_88 : Cond.selects (znm PZ 88).cls (znm PZ 88) (znm PZ 88) ∈ zTB PZ := (tbs 13 rfl rfl)
theorem okm_89 : 89 < znM PZ ∧ ((znm PZ 89).cls ≠ "java/lang/invoke/MethodHandle" ∧ (znm PZ 89).cls ≠ "java/lang/invoke/VarHandle" ∧ (parseMethodDescriptor (znm PZ 89).desc).map (fun d => d.parameters.length) = some 2) ∧ Cond.code (znm PZ 89) (zby PZ 89) (zmL PZ 89) (zrt PZ 89) ∈ zTB PZ ∧ Cond.initialized (znm PZ 89).cls ∈ zTB PZ := ⟨Nat.le_of_ble_eq_true rfl, ⟨by decide +kernel, by decide +kernel, by decide +kernel⟩, (tb3 67 rfl rfl), (tb1 12 rfl rfl)⟩
theorem oki_89 : Cond.instanceMethod (znm PZ 89) ∈ zTB PZ := (tb3 65 rfl rfl)
theorem okv_89 : Cond.selects (znm PZ 89).cls (znm PZ 89) (znm PZ 89) ∈ zTB PZ := (tb3 66 rfl rfl)
theorem okm_90 : 90 < znM PZ ∧ ((znm PZ 90).cls ≠ "java/lang/invoke/MethodHandle" ∧ (znm PZ 90).cls ≠ "java/lang/invoke/VarHandle" ∧ (parseMethodDescriptor (znm PZ 90).desc).map (fun d => d.parameters.length) = some 1) ∧ Cond.code (znm PZ 90) (zby PZ 90) (zmL PZ 90) (zrt PZ 90) ∈ zTB PZ ∧ Cond.initialized (znm PZ 90).cls ∈ zTB PZ := ⟨Nat.le_of_ble_eq_true rfl, ⟨by decide +kernel, by decide +kernel, by decide +kernel⟩, (tb3 109 rfl rfl), (tb1 12 rfl rfl)⟩
theorem oki_90 : Cond.instanceMethod (znm PZ 90) ∈ zTB PZ := (tb3 107 rfl rfl)
theorem okv_90 : Cond.selects (znm PZ 90).cls (znm PZ 90) (znm PZ 90) ∈ zTB PZ := (tb3 108 rfl rfl)
theorem okm_91 : 91 < znM PZ ∧ ((znm PZ 91).cls ≠ "java/lang/invoke/MethodHandle" ∧ (znm PZ 91).cls ≠ "java/lang/invoke/VarHandle" ∧ (parseMethodDescriptor (znm PZ 91).desc).map (fun d => d.parameters.length) = some 1) ∧ Cond.code (znm PZ 91) (zby PZ 91) (zmL PZ 91) (zrt PZ 91) ∈ zTB PZ ∧ Cond.initialized (znm PZ 91).cls ∈ zTB PZ := ⟨Nat.le_of_ble_eq_true rfl, ⟨by decide +kernel, by decide +kernel, by decide +kernel⟩, (tb3 63 rfl rfl), (tb1 1 rfl rfl)⟩
theorem oki_91 : Cond.instanceMethod (znm PZ 91) ∈ zTB PZ := (tb3 61 rfl rfl)
theorem okv_91 : Cond.selects (znm PZ 91).cls (znm PZ 91) (znm PZ 91) ∈ zTB PZ := (tb3 62 rfl rfl)
theorem okm_92 : 92 < znM PZ ∧ ((znm PZ 92).cls ≠ "java/lang/invoke/MethodHandle" ∧ (znm PZ 92).cls ≠ "java/lang/invoke/VarHandle" ∧ (parseMethodDescriptor (znm PZ 92).desc).map (fun d => d.parameters.length) = some 2) ∧ Cond.code (znm PZ 92) (zby PZ 92) (zmL PZ 92) (zrt PZ 92) ∈ zTB PZ ∧ Cond.initialized (znm PZ 92).cls ∈ zTB PZ := ⟨Nat.le_of_ble_eq_true rfl, ⟨by decide +kernel, by decide +kernel, by decide +kernel⟩, (tb3 125 rfl rfl), (tb1 16 rfl rfl)⟩
theorem oks_92 : Cond.static (znm PZ 92) ∈ zTB PZ := (tb3 124 rfl rfl)
theorem okm_93 : 93 < znM PZ ∧ ((znm PZ 93).cls ≠ "java/lang/invoke/MethodHandle" ∧ (znm PZ 93).cls ≠ "java/lang/invoke/VarHandle" ∧ (parseMethodDescriptor (znm PZ 93).desc).map (fun d => d.parameters.length) = some 1) ∧ Cond.code (znm PZ 93) (zby PZ 93) (zmL PZ 93) (zrt PZ 93) ∈ zTB PZ ∧ Cond.initialized (znm PZ 93).cls ∈ zTB PZ := ⟨Nat.le_of_ble_eq_true rfl, ⟨by decide +kernel, by decide +kernel, by decide +kernel⟩, (tb3 137 rfl rfl), (tb1 12 rfl rfl)⟩
theorem oki_93 : Cond.instanceMethod (znm PZ 93) ∈ zTB PZ := (tb3 136 rfl rfl)
theorem okv_93 : Cond.selects (znm PZ 93).cls (znm PZ 93) (znm PZ 93) ∈ zTB PZ := (tbs 18 rfl rfl)
theorem okm_94 : 94 < znM PZ ∧ ((znm PZ 94).cls ≠ "java/lang/invoke/MethodHandle" ∧ (znm PZ 94).cls ≠ "java/lang/invoke/VarHandle" ∧ (parseMethodDescriptor (znm PZ 94).desc).map (fun d => d.parameters.length) = some 2) ∧ Cond.code (znm PZ 94) (zby PZ 94) (zmL PZ 94) (zrt PZ 94) ∈ zTB PZ ∧ Cond.initialized (znm PZ 94).cls ∈ zTB PZ := ⟨Nat.le_of_ble_eq_true rfl, ⟨by decide +kernel, by decide +kernel, by decide +kernel⟩, (tb3 133 rfl rfl), (tb1 12 rfl rfl)⟩
theorem oki_94 : Cond.instanceMethod (znm PZ 94) ∈ zTB PZ := (tb3 132 rfl rfl)
theorem okv_94 : Cond.selects (znm PZ 94).cls (znm PZ 94) (znm PZ 94) ∈ zTB PZ := (tbs 17 rfl rfl)
theorem okm_95 : 95 < znM PZ ∧ ((znm PZ 95).cls ≠ "java/lang/invoke/MethodHandle" ∧ (znm PZ 95).cls ≠ "java/lang/invoke/VarHandle" ∧ (parseMethodDescriptor (znm PZ 95).desc).map (fun d => d.parameters.length) = some 2) ∧ Cond.code (znm PZ 95) (zby PZ 95) (zmL PZ 95) (zrt PZ 95) ∈ zTB PZ ∧ Cond.initialized (znm PZ 95).cls ∈ zTB PZ := ⟨Nat.le_of_ble_eq_true rfl, ⟨by decide +kernel, by decide +kernel, by decide +kernel⟩, (tb3 129 rfl rfl), (tb1 12 rfl rfl)⟩
theorem oki_95 : Cond.instanceMethod (znm PZ 95) ∈ zTB PZ := (tb3 128 rfl rfl)
theorem okv_95 : Cond.selects (znm PZ 95).cls (znm PZ 95) (znm PZ 95) ∈ zTB PZ := (tbs 16 rfl rfl)
theorem okm_96 : 96 < znM PZ ∧ ((znm PZ 96).cls ≠ "java/lang/invoke/MethodHandle" ∧ (znm PZ 96).cls ≠ "java/lang/invoke/VarHandle" ∧ (parseMethodDescriptor (znm PZ 96).desc).map (fun d => d.parameters.length) = some 3) ∧ Cond.code (znm PZ 96) (zby PZ 96) (zmL PZ 96) (zrt PZ 96) ∈ zTB PZ ∧ Cond.initialized (znm PZ 96).cls ∈ zTB PZ := ⟨Nat.le_of_ble_eq_true rfl, ⟨by decide +kernel, by decide +kernel, by decide +kernel⟩, (tb3 122 rfl rfl), (tb1 12 rfl rfl)⟩
theorem oki_96 : Cond.instanceMethod (znm PZ 96) ∈ zTB PZ := (tb3 121 rfl rfl)
theorem okv_96 : Cond.selects (znm PZ 96).cls (znm PZ 96) (znm PZ 96) ∈ zTB PZ := (tbs 15 rfl rfl)
theorem okm_97 : 97 < znM PZ ∧ ((znm PZ 97).cls ≠ "java/lang/invoke/MethodHandle" ∧ (znm PZ 97).cls ≠ "java/lang/invoke/VarHandle" ∧ (parseMethodDescriptor (znm PZ 97).desc).map (fun d => d.parameters.length) = some 3) ∧ Cond.code (znm PZ 97) (zby PZ 97) (zmL PZ 97) (zrt PZ 97) ∈ zTB PZ ∧ Cond.initialized (znm PZ 97).cls ∈ zTB PZ := ⟨Nat.le_of_ble_eq_true rfl, ⟨by decide +kernel, by decide +kernel, by decide +kernel⟩, (tb3 117 rfl rfl), (tb1 12 rfl rfl)⟩
theorem oki_97 : Cond.instanceMethod (znm PZ 97) ∈ zTB PZ := (tb3 115 rfl rfl)
theorem okv_97 : Cond.selects (znm PZ 97).cls (znm PZ 97) (znm PZ 97) ∈ zTB PZ := (tb3 116 rfl rfl)
theorem okm_98 : 98 < znM PZ ∧ ((znm PZ 98).cls ≠ "java/lang/invoke/MethodHandle" ∧ (znm PZ 98).cls ≠ "java/lang/invoke/VarHandle" ∧ (parseMethodDescriptor (znm PZ 98).desc).map (fun d => d.parameters.length) = some 1) ∧ Cond.code (znm PZ 98) (zby PZ 98) (zmL PZ 98) (zrt PZ 98) ∈ zTB PZ ∧ Cond.initialized (znm PZ 98).cls ∈ zTB PZ := ⟨Nat.le_of_ble_eq_true rfl, ⟨by decide +kernel, by decide +kernel, by decide +kernel⟩, (tb3 113 rfl rfl), (tb1 1 rfl rfl)⟩
theorem oki_98 : Cond.instanceMethod (znm PZ 98) ∈ zTB PZ := (tb3 111 rfl rfl)
theorem okv_98 : Cond.selects (znm PZ 98).cls (znm PZ 98) (znm PZ 98) ∈ zTB PZ := (tb3 112 rfl rfl)
theorem okm_99 : 99 < znM PZ ∧ ((znm PZ 99).cls ≠ "java/lang/invoke/MethodHandle" ∧ (znm PZ 99).cls ≠ "java/lang/invoke/VarHandle" ∧ (parseMethodDescriptor (znm PZ 99).desc).map (fun d => d.parameters.length) = some 3) ∧ Cond.code (znm PZ 99) (zby PZ 99) (zmL PZ 99) (zrt PZ 99) ∈ zTB PZ ∧ Cond.initialized (znm PZ 99).cls ∈ zTB PZ := ⟨Nat.le_of_ble_eq_true rfl, ⟨by decide +kernel, by decide +kernel, by decide +kernel⟩, (tb3 150 rfl rfl), (tb1 12 rfl rfl)⟩
theorem oki_99 : Cond.instanceMethod (znm PZ 99) ∈ zTB PZ := (tb3 149 rfl rfl)
theorem okv_99 : Cond.selects (znm PZ 99).cls (znm PZ 99) (znm PZ 99) ∈ zTB PZ := (tbs 19 rfl rfl)
theorem okm_100 : 100 < znM PZ ∧ ((znm PZ 100).cls ≠ "java/lang/invoke/MethodHandle" ∧ (znm PZ 100).cls ≠ "java/lang/invoke/VarHandle" ∧ (parseMethodDescriptor (znm PZ 100).desc).map (fun d => d.parameters.length) = some 3) ∧ Cond.code (znm PZ 100) (zby PZ 100) (zmL PZ 100) (zrt PZ 100) ∈ zTB PZ ∧ Cond.initialized (znm PZ 100).cls ∈ zTB PZ := ⟨Nat.le_of_ble_eq_true rfl, ⟨by decide +kernel, by decide +kernel, by decide +kernel⟩, (tb3 145 rfl rfl), (tb1 12 rfl rfl)⟩
theorem oki_100 : Cond.instanceMethod (znm PZ 100) ∈ zTB PZ := (tb3 143 rfl rfl)
theorem okv_100 : Cond.selects (znm PZ 100).cls (znm PZ 100) (znm PZ 100) ∈ zTB PZ := (tb3 144 rfl rfl)
theorem okm_101 : 101 < znM PZ ∧ ((znm PZ 101).cls ≠ "java/lang/invoke/MethodHandle" ∧ (znm PZ 101).cls ≠ "java/lang/invoke/VarHandle" ∧ (parseMethodDescriptor (znm PZ 101).desc).map (fun d => d.parameters.length) = some 1) ∧ Cond.code (znm PZ 101) (zby PZ 101) (zmL PZ 101) (zrt PZ 101) ∈ zTB PZ ∧ Cond.initialized (znm PZ 101).cls ∈ zTB PZ := ⟨Nat.le_of_ble_eq_true rfl, ⟨by decide +kernel, by decide +kernel, by decide +kernel⟩, (tb3 141 rfl rfl), (tb1 1 rfl rfl)⟩
theorem oki_101 : Cond.instanceMethod (znm PZ 101) ∈ zTB PZ := (tb3 139 rfl rfl)
theorem okv_101 : Cond.selects (znm PZ 101).cls (znm PZ 101) (znm PZ 101) ∈ zTB PZ := (tb3 140 rfl rfl)
theorem okm_102 : 102 < znM PZ ∧ ((znm PZ 102).cls ≠ "java/lang/invoke/MethodHandle" ∧ (znm PZ 102).cls ≠ "java/lang/invoke/VarHandle" ∧ (parseMethodDescriptor (znm PZ 102).desc).map (fun d => d.parameters.length) = some 1) ∧ Cond.code (znm PZ 102) (zby PZ 102) (zmL PZ 102) (zrt PZ 102) ∈ zTB PZ ∧ Cond.initialized (znm PZ 102).cls ∈ zTB PZ := ⟨Nat.le_of_ble_eq_true rfl, ⟨by decide +kernel, by decide +kernel, by decide +kernel⟩, (tb3 156 rfl rfl), (tb1 1 rfl rfl)⟩
theorem oki_102 : Cond.instanceMethod (znm PZ 102) ∈ zTB PZ := (tb3 154 rfl rfl)
theorem okv_102 : Cond.selects (znm PZ 102).cls (znm PZ 102) (znm PZ 102) ∈ zTB PZ := (tb3 155 rfl rfl)
theorem okm_103 : 103 < znM PZ ∧ ((znm PZ 103).cls ≠ "java/lang/invoke/MethodHandle" ∧ (znm PZ 103).cls ≠ "java/lang/invoke/VarHandle" ∧ (parseMethodDescriptor (znm PZ 103).desc).map (fun d => d.parameters.length) = some 1) ∧ Cond.code (znm PZ 103) (zby PZ 103) (zmL PZ 103) (zrt PZ 103) ∈ zTB PZ ∧ Cond.initialized (znm PZ 103).cls ∈ zTB PZ := ⟨Nat.le_of_ble_eq_true rfl, ⟨by decide +kernel, by decide +kernel, by decide +kernel⟩, (tb3 161 rfl rfl), (tb1 1 rfl rfl)⟩
theorem oki_103 : Cond.instanceMethod (znm PZ 103) ∈ zTB PZ := (tb3 159 rfl rfl)
theorem okv_103 : Cond.selects (znm PZ 103).cls (znm PZ 103) (znm PZ 103) ∈ zTB PZ := (tb3 160 rfl rfl)
theorem okm_104 : 104 < znM PZ ∧ ((znm PZ 104).cls ≠ "java/lang/invoke/MethodHandle" ∧ (znm PZ 104).cls ≠ "java/lang/invoke/VarHandle" ∧ (parseMethodDescriptor (znm PZ 104).desc).map (fun d => d.parameters.length) = some 0) ∧ Cond.code (znm PZ 104) (zby PZ 104) (zmL PZ 104) (zrt PZ 104) ∈ zTB PZ ∧ Cond.initialized (znm PZ 104).cls ∈ zTB PZ := ⟨Nat.le_of_ble_eq_true rfl, ⟨by decide +kernel, by decide +kernel, by decide +kernel⟩, (tb3 170 rfl rfl), (tb1 3 rfl rfl)⟩
theorem oki_104 : Cond.instanceMethod (znm PZ 104) ∈ zTB PZ := (tb3 168 rfl rfl)
theorem okv_104 : Cond.selects (znm PZ 104).cls (znm PZ 104) (znm PZ 104) ∈ zTB PZ := (tb3 169 rfl rfl)
theorem okm_105 : 105 < znM PZ ∧ ((znm PZ 105).cls ≠ "java/lang/invoke/MethodHandle" ∧ (znm PZ 105).cls ≠ "java/lang/invoke/VarHandle" ∧ (parseMethodDescriptor (znm PZ 105).desc).map (fun d => d.parameters.length) = some 1) ∧ Cond.code (znm PZ 105) (zby PZ 105) (zmL PZ 105) (zrt PZ 105) ∈ zTB PZ ∧ Cond.initialized (znm PZ 105).cls ∈ zTB PZ := ⟨Nat.le_of_ble_eq_true rfl, ⟨by decide +kernel, by decide +kernel, by decide +kernel⟩, (tb3 165 rfl rfl), (tb1 1 rfl rfl)⟩
theorem oki_105 : Cond.instanceMethod (znm PZ 105) ∈ zTB PZ := (tb3 163 rfl rfl)
theorem okv_105 : Cond.selects (znm PZ 105).cls (znm PZ 105) (znm PZ 105) ∈ zTB PZ := (tb3 164 rfl rfl)
theorem okm_106 : 106 < znM PZ ∧ ((znm PZ 106).cls ≠ "java/lang/invoke/MethodHandle" ∧ (znm PZ 106).cls ≠ "java/lang/invoke/VarHandle" ∧ (parseMethodDescriptor (znm PZ 106).desc).map (fun d => d.parameters.length) = some 0) ∧ Cond.code (znm PZ 106) (zby PZ 106) (zmL PZ 106) (zrt PZ 106) ∈ zTB PZ ∧ Cond.initialized (znm PZ 106).cls ∈ zTB PZ := ⟨Nat.le_of_ble_eq_true rfl, ⟨by decide +kernel, by decide +kernel, by decide +kernel⟩, (tb3 176 rfl rfl), (tb1 14 rfl rfl)⟩
theorem oki_106 : Cond.instanceMethod (znm PZ 106) ∈ zTB PZ := (tb3 175 rfl rfl)
theorem okm_107 : 107 < znM PZ ∧ ((znm PZ 107).cls ≠ "java/lang/invoke/MethodHandle" ∧ (znm PZ 107).cls ≠ "java/lang/invoke/VarHandle" ∧ (parseMethodDescriptor (znm PZ 107).desc).map (fun d => d.parameters.length) = some 3) ∧ Cond.code (znm PZ 107) (zby PZ 107) (zmL PZ 107) (zrt PZ 107) ∈ zTB PZ ∧ Cond.initialized (znm PZ 107).cls ∈ zTB PZ := ⟨Nat.le_of_ble_eq_true rfl, ⟨by decide +kernel, by decide +kernel, by decide +kernel⟩, (tb3 239 rfl rfl), (tb1 14 rfl rfl)⟩
theorem oks_107 : Cond.static (znm PZ 107) ∈ zTB PZ := (tb3 238 rfl rfl)
theorem okm_108 : 108 < znM PZ ∧ ((znm PZ 108).cls ≠ "java/lang/invoke/MethodHandle" ∧ (znm PZ 108).cls ≠ "java/lang/invoke/VarHandle" ∧ (parseMethodDescriptor (znm PZ 108).desc).map (fun d => d.parameters.length) = some 1) ∧ Cond.code (znm PZ 108) (zby PZ 108) (zmL PZ 108) (zrt PZ 108) ∈ zTB PZ ∧ Cond.initialized (znm PZ 108).cls ∈ zTB PZ := ⟨Nat.le_of_ble_eq_true rfl, ⟨by decide +kernel, by decide +kernel, by decide +kernel⟩, (tb3 236 rfl rfl), (tb1 14 rfl rfl)⟩
theorem oki_108 : Cond.instanceMethod (znm PZ 108) ∈ zTB PZ := (tb3 234 rfl rfl)
theorem okv_108 : Cond.selects (znm PZ 108).cls (znm PZ 108) (znm PZ 108) ∈ zTB PZ := (tb3 235 rfl rfl)
theorem okm_109 : 109 < znM PZ ∧ ((znm PZ 109).cls ≠ "java/lang/invoke/MethodHandle" ∧ (znm PZ 109).cls ≠ "java/lang/invoke/VarHandle" ∧ (parseMethodDescriptor (znm PZ 109).desc).map (fun d => d.parameters.length) = some 0) ∧ Cond.code (znm PZ 109) (zby PZ 109) (zmL PZ 109) (zrt PZ 109) ∈ zTB PZ ∧ Cond.initialized (znm PZ 109).cls ∈ zTB PZ := ⟨Nat.le_of_ble_eq_true rfl, ⟨by decide +kernel, by decide +kernel, by decide +kernel⟩, (tb4 3 rfl rfl), (tb1 14 rfl rfl)⟩
theorem oki_109 : Cond.instanceMethod (znm PZ 109) ∈ zTB PZ := (tb4 1 rfl rfl)
theorem okv_109 : Cond.selects (znm PZ 109).cls (znm PZ 109) (znm PZ 109) ∈ zTB PZ := (tb4 2 rfl rfl)
theorem okm_110 : 110 < znM PZ ∧ ((znm PZ 110).cls ≠ "java/lang/invoke/MethodHandle" ∧ (znm PZ 110).cls ≠ "java/lang/invoke/VarHandle" ∧ (parseMethodDescriptor (znm PZ 110).desc).map (fun d => d.parameters.length) = some 1) ∧ Cond.code (znm PZ 110) (zby PZ 110) (zmL PZ 110) (zrt PZ 110) ∈ zTB PZ ∧ Cond.initialized (znm PZ 110).cls ∈ zTB PZ := ⟨Nat.le_of_ble_eq_true rfl, ⟨by decide +kernel, by decide +kernel, by decide +kernel⟩, (tb4 14 rfl rfl), (tb1 14 rfl rfl)⟩
theorem oks_110 : Cond.static (znm PZ 110) ∈ zTB PZ := (tb4 13 rfl rfl)
theorem okm_111 : 111 < znM PZ ∧ ((znm PZ 111).cls ≠ "java/lang/invoke/MethodHandle" ∧ (znm PZ 111).cls ≠ "java/lang/invoke/VarHandle" ∧ (parseMethodDescriptor (znm PZ 111).desc).map (fun d => d.parameters.length) = some 1) ∧ Cond.code (znm PZ 111) (zby PZ 111) (zmL PZ 111) (zrt PZ 111) ∈ zTB PZ ∧ Cond.initialized (znm PZ 111).cls ∈ zTB PZ := ⟨Nat.le_of_ble_eq_true rfl, ⟨by decide +kernel, by decide +kernel, by decide +kernel⟩, (tb4 17 rfl rfl), (tb1 14 rfl rfl)⟩
theorem oks_111 : Cond.static (znm PZ 111) ∈ zTB PZ := (tb4 16 rfl rfl)
theorem okm_112 : 112 < znM PZ ∧ ((znm PZ 112).cls ≠ "java/lang/invoke/MethodHandle" ∧ (znm PZ 112).cls ≠ "java/lang/invoke/VarHandle" ∧ (parseMethodDescriptor (znm PZ 112).desc).map (fun d => d.parameters.length) = some 0) ∧ Cond.code (znm PZ 112) (zby PZ 112) (zmL PZ 112) (zrt PZ 112) ∈ zTB PZ ∧ Cond.initialized (znm PZ 112).cls ∈ zTB PZ := ⟨Nat.le_of_ble_eq_true rfl, ⟨by decide +kernel, by decide +kernel, by decide +kernel⟩, (tb4 11 rfl rfl), (tb1 14 rfl rfl)⟩
theorem oki_112 : Cond.instanceMethod (znm PZ 112) ∈ zTB PZ := (tb4 10 rfl rfl)
theorem okv_112 : Cond.selects (znm PZ 112).cls (znm PZ 112) (znm PZ 112) ∈ zTB PZ := (tbs 20 rfl rfl)
theorem okm_113 : 113 < znM PZ ∧ ((znm PZ 113).cls ≠ "java/lang/invoke/MethodHandle" ∧ (znm PZ 113).cls ≠ "java/lang/invoke/VarHandle" ∧ (parseMethodDescriptor (znm PZ 113).desc).map (fun d => d.parameters.length) = some 5) ∧ Cond.code (znm PZ 113) (zby PZ 113) (zmL PZ 113) (zrt PZ 113) ∈ zTB PZ ∧ Cond.initialized (znm PZ 113).cls ∈ zTB PZ := ⟨Nat.le_of_ble_eq_true rfl, ⟨by decide +kernel, by decide +kernel, by decide +kernel⟩, (tb4 24 rfl rfl), (tb1 14 rfl rfl)⟩
theorem oks_113 : Cond.static (znm PZ 113) ∈ zTB PZ := (tb4 23 rfl rfl)
theorem okm_114 : 114 < znM PZ ∧ ((znm PZ 114).cls ≠ "java/lang/invoke/MethodHandle" ∧ (znm PZ 114).cls ≠ "java/lang/invoke/VarHandle" ∧ (parseMethodDescriptor (znm PZ 114).desc).map (fun d => d.parameters.length) = some 0) ∧ Cond.code (znm PZ 114) (zby PZ 114) (zmL PZ 114) (zrt PZ 114) ∈ zTB PZ ∧ Cond.initialized (znm PZ 114).cls ∈ zTB PZ := ⟨Nat.le_of_ble_eq_true rfl, ⟨by decide +kernel, by decide +kernel, by decide +kernel⟩, (tb4 21 rfl rfl), (tb1 14 rfl rfl)⟩
theorem oki_114 : Cond.instanceMethod (znm PZ 114) ∈ zTB PZ := (tb4 20 rfl rfl)
theorem okv_114 : Cond.selects (znm PZ 114).cls (znm PZ 114) (znm PZ 114) ∈ zTB PZ := (tbs 21 rfl rfl)
theorem okm_115 : 115 < znM PZ ∧ ((znm PZ 115).cls ≠ "java/lang/invoke/MethodHandle" ∧ (znm PZ 115).cls ≠ "java/lang/invoke/VarHandle" ∧ (parseMethodDescriptor (znm PZ 115).desc).map (fun d => d.parameters.length) = some 0) ∧ Cond.code (znm PZ 115) (zby PZ 115) (zmL PZ 115) (zrt PZ 115) ∈ zTB PZ ∧ Cond.initialized (znm PZ 115).cls ∈ zTB PZ := ⟨Nat.le_of_ble_eq_true rfl, ⟨by decide +kernel, by decide +kernel, by decide +kernel⟩, (tb4 7 rfl rfl), (tb1 14 rfl rfl)⟩
theorem oki_115 : Cond.instanceMethod (znm PZ 115) ∈ zTB PZ := (tb4 5 rfl rfl)
theorem okv_115 : Cond.selects (znm PZ 115).cls (znm PZ 115) (znm PZ 115) ∈ zTB PZ := (tb4 6 rfl rfl)
theorem okm_116 : 116 < znM PZ ∧ ((znm PZ 116).cls ≠ "java/lang/invoke/MethodHandle" ∧ (znm PZ 116).cls ≠ "java/lang/invoke/VarHandle" ∧ (parseMethodDescriptor (znm PZ 116).desc).map (fun d => d.parameters.length) = some 1) ∧ Cond.code (znm PZ 116) (zby PZ 116) (zmL PZ 116) (zrt PZ 116) ∈ zTB PZ ∧ Cond.initialized (znm PZ 116).cls ∈ zTB PZ := ⟨Nat.le_of_ble_eq_true rfl, ⟨by decide +kernel, by decide +kernel, by decide +kernel⟩, (tb4 32 rfl rfl), (tb1 14 rfl rfl)⟩
theorem oki_116 : Cond.instanceMethod (znm PZ 116) ∈ zTB PZ := (tb4 31 rfl rfl)
theorem okv_116 : Cond.selects (znm PZ 116).cls (znm PZ 116) (znm PZ 116) ∈ zTB PZ := (tbs 22 rfl rfl)
theorem okm_117 : 117 < znM PZ ∧ ((znm PZ 117).cls ≠ "java/lang/invoke/MethodHandle" ∧ (znm PZ 117).cls ≠ "java/lang/invoke/VarHandle" ∧ (parseMethodDescriptor (znm PZ 117).desc).map (fun d => d.parameters.length) = some 1) ∧ Cond.code (znm PZ 117) (zby PZ 117) (zmL PZ 117) (zrt PZ 117) ∈ zTB PZ ∧ Cond.initialized (znm PZ 117).cls ∈ zTB PZ := ⟨Nat.le_of_ble_eq_true rfl, ⟨by decide +kernel, by decide +kernel, by decide +kernel⟩, (tb4 28 rfl rfl), (tb1 14 rfl rfl)⟩
theorem oki_117 : Cond.instanceMethod (znm PZ 117) ∈ zTB PZ := (tb4 26 rfl rfl)
theorem okv_117 : Cond.selects (znm PZ 117).cls (znm PZ 117) (znm PZ 117) ∈ zTB PZ := (tb4 27 rfl rfl)
theorem okm_118 : 118 < znM PZ ∧ ((znm PZ 118).cls ≠ "java/lang/invoke/MethodHandle" ∧ (znm PZ 118).cls ≠ "java/lang/invoke/VarHandle" ∧ (parseMethodDescriptor (znm PZ 118).desc).map (fun d => d.parameters.length) = some 2) ∧ Cond.code (znm PZ 118) (zby PZ 118) (zmL PZ 118) (zrt PZ 118) ∈ zTB PZ ∧ Cond.initialized (znm PZ 118).cls ∈ zTB PZ := ⟨Nat.le_of_ble_eq_true rfl, ⟨by decide +kernel, by decide +kernel, by decide +kernel⟩, (tb4 43 rfl rfl), (tb1 14 rfl rfl)⟩
theorem oks_118 : Cond.static (znm PZ 118) ∈ zTB PZ := (tb4 42 rfl rfl)
theorem okm_119 : 119 < znM PZ ∧ ((znm PZ 119).cls ≠ "java/lang/invoke/MethodHandle" ∧ (znm PZ 119).cls ≠ "java/lang/invoke/VarHandle" ∧ (parseMethodDescriptor (znm PZ 119).desc).map (fun d => d.parameters.length) = some 3) ∧ Cond.code (znm PZ 119) (zby PZ 119) (zmL PZ 119) (zrt PZ 119) ∈ zTB PZ ∧ Cond.initialized (znm PZ 119).cls ∈ zTB PZ := ⟨Nat.le_of_ble_eq_true rfl, ⟨by decide +kernel, by decide +kernel, by decide +kernel⟩, (tb4 40 rfl rfl), (tb1 14 rfl rfl)⟩
theorem oki_119 : Cond.instanceMethod (znm PZ 119) ∈ zTB PZ := (tb4 39 rfl rfl)
theorem okv_119 : Cond.selects (znm PZ 119).cls (znm PZ 119) (znm PZ 119) ∈ zTB PZ := (tbs 23 rfl rfl)
theorem okm_120 : 120 < znM PZ ∧ ((znm PZ 120).cls ≠ "java/lang/invoke/MethodHandle" ∧ (znm PZ 120).cls ≠ "java/lang/invoke/VarHandle" ∧ (parseMethodDescriptor (znm PZ 120).desc).map (fun d => d.parameters.length) = some 3) ∧ Cond.code (znm PZ 120) (zby PZ 120) (zmL PZ 120) (zrt PZ 120) ∈ zTB PZ ∧ Cond.initialized (znm PZ 120).cls ∈ zTB PZ := ⟨Nat.le_of_ble_eq_true rfl, ⟨by decide +kernel, by decide +kernel, by decide +kernel⟩, (tb4 36 rfl rfl), (tb1 14 rfl rfl)⟩
theorem oki_120 : Cond.instanceMethod (znm PZ 120) ∈ zTB PZ := (tb4 34 rfl rfl)
theorem okv_120 : Cond.selects (znm PZ 120).cls (znm PZ 120) (znm PZ 120) ∈ zTB PZ := (tb4 35 rfl rfl)
theorem okm_121 : 121 < znM PZ ∧ ((znm PZ 121).cls ≠ "java/lang/invoke/MethodHandle" ∧ (znm PZ 121).cls ≠ "java/lang/invoke/VarHandle" ∧ (parseMethodDescriptor (znm PZ 121).desc).map (fun d => d.parameters.length) = some 1) ∧ Cond.code (znm PZ 121) (zby PZ 121) (zmL PZ 121) (zrt PZ 121) ∈ zTB PZ ∧ Cond.initialized (znm PZ 121).cls ∈ zTB PZ := ⟨Nat.le_of_ble_eq_true rfl, ⟨by decide +kernel, by decide +kernel, by decide +kernel⟩, (tb4 51 rfl rfl), (tb1 14 rfl rfl)⟩
theorem oki_121 : Cond.instanceMethod (znm PZ 121) ∈ zTB PZ := (tb4 50 rfl rfl)
theorem okv_121 : Cond.selects (znm PZ 121).cls (znm PZ 121) (znm PZ 121) ∈ zTB PZ := (tbs 24 rfl rfl)
theorem okm_122 : 122 < znM PZ ∧ ((znm PZ 122).cls ≠ "java/lang/invoke/MethodHandle" ∧ (znm PZ 122).cls ≠ "java/lang/invoke/VarHandle" ∧ (parseMethodDescriptor (znm PZ 122).desc).map (fun d => d.parameters.length) = some 4) ∧ Cond.code (znm PZ 122) (zby PZ 122) (zmL PZ 122) (zrt PZ 122) ∈ zTB PZ ∧ Cond.initialized (znm PZ 122).cls ∈ zTB PZ := ⟨Nat.le_of_ble_eq_true rfl, ⟨by decide +kernel, by decide +kernel, by decide +kernel⟩, (tb4 47 rfl rfl), (tb1 14 rfl rfl)⟩
theorem oki_122 : Cond.instanceMethod (znm PZ 122) ∈ zTB PZ := (tb4 45 rfl rfl)
theorem okv_122 : Cond.selects (znm PZ 122).cls (znm PZ 122) (znm PZ 122) ∈ zTB PZ := (tb4 46 rfl rfl)
theorem okm_123 : 123 < znM PZ ∧ ((znm PZ 123).cls ≠ "java/lang/invoke/MethodHandle" ∧ (znm PZ 123).cls ≠ "java/lang/invoke/VarHandle" ∧ (parseMethodDescriptor (znm PZ 123).desc).map (fun d => d.parameters.length) = some 2) ∧ Cond.code (znm PZ 123) (zby PZ 123) (zmL PZ 123) (zrt PZ 123) ∈ zTB PZ ∧ Cond.initialized (znm PZ 123).cls ∈ zTB PZ := ⟨Nat.le_of_ble_eq_true rfl, ⟨by decide +kernel, by decide +kernel, by decide +kernel⟩, (tb4 59 rfl rfl), (tb1 14 rfl rfl)⟩
theorem oki_123 : Cond.instanceMethod (znm PZ 123) ∈ zTB PZ := (tb4 58 rfl rfl)
theorem okv_123 : Cond.selects (znm PZ 123).cls (znm PZ 123) (znm PZ 123) ∈ zTB PZ := (tbs 25 rfl rfl)
theorem okm_124 : 124 < znM PZ ∧ ((znm PZ 124).cls ≠ "java/lang/invoke/MethodHandle" ∧ (znm PZ 124).cls ≠ "java/lang/invoke/VarHandle" ∧ (parseMethodDescriptor (znm PZ 124).desc).map (fun d => d.parameters.length) = some 1) ∧ Cond.code (znm PZ 124) (zby PZ 124) (zmL PZ 124) (zrt PZ 124) ∈ zTB PZ ∧ Cond.initialized (znm PZ 124).cls ∈ zTB PZ := ⟨Nat.le_of_ble_eq_true rfl, ⟨by decide +kernel, by decide +kernel, by decide +kernel⟩, (tb4 55 rfl rfl), (tb1 14 rfl rfl)⟩
theorem oki_124 : Cond.instanceMethod (znm PZ 124) ∈ zTB PZ := (tb4 53 rfl rfl)
theorem okv_124 : Cond.selects (znm PZ 124).cls (znm PZ 124) (znm PZ 124) ∈ zTB PZ := (tb4 54 rfl rfl)
theorem okm_125 : 125 < znM PZ ∧ ((znm PZ 125).cls ≠ "java/lang/invoke/MethodHandle" ∧ (znm PZ 125).cls ≠ "java/lang/invoke/VarHandle" ∧ (parseMethodDescriptor (znm PZ 125).desc).map (fun d => d.parameters.length) = some 1) ∧ Cond.code (znm PZ 125) (zby PZ 125) (zmL PZ 125) (zrt PZ 125) ∈ zTB PZ ∧ Cond.initialized (znm PZ 125).cls ∈ zTB PZ := ⟨Nat.le_of_ble_eq_true rfl, ⟨by decide +kernel, by decide +kernel, by decide +kernel⟩, (tb4 63 rfl rfl), (tb1 14 rfl rfl)⟩
theorem oki_125 : Cond.instanceMethod (znm PZ 125) ∈ zTB PZ := (tb4 61 rfl rfl)
theorem okv_125 : Cond.selects (znm PZ 125).cls (znm PZ 125) (znm PZ 125) ∈ zTB PZ := (tb4 62 rfl rfl)
theorem okm_126 : 126 < znM PZ ∧ ((znm PZ 126).cls ≠ "java/lang/invoke/MethodHandle" ∧ (znm PZ 126).cls ≠ "java/lang/invoke/VarHandle" ∧ (parseMethodDescriptor (znm PZ 126).desc).map (fun d => d.parameters.length) = some 0) ∧ Cond.code (znm PZ 126) (zby PZ 126) (zmL PZ 126) (zrt PZ 126) ∈ zTB PZ ∧ Cond.initialized (znm PZ 126).cls ∈ zTB PZ := ⟨Nat.le_of_ble_eq_true rfl, ⟨by decide +kernel, by decide +kernel, by decide +kernel⟩, (tb4 67 rfl rfl), (tb1 14 rfl rfl)⟩
theorem oki_126 : Cond.instanceMethod (znm PZ 126) ∈ zTB PZ := (tb4 65 rfl rfl)
theorem okv_126 : Cond.selects (znm PZ 126).cls (znm PZ 126) (znm PZ 126) ∈ zTB PZ := (tb4 66 rfl rfl)
theorem okm_127 : 127 < znM PZ ∧ ((znm PZ 127).cls ≠ "java/lang/invoke/MethodHandle" ∧ (znm PZ 127).cls ≠ "java/lang/invoke/VarHandle" ∧ (parseMethodDescriptor (znm PZ 127).desc).map (fun d => d.parameters.length) = some 1) ∧ Cond.code (znm PZ 127) (zby PZ 127) (zmL PZ 127) (zrt PZ 127) ∈ zTB PZ ∧ Cond.initialized (znm PZ 127).cls ∈ zTB PZ := ⟨Nat.le_of_ble_eq_true rfl, ⟨by decide +kernel, by decide +kernel, by decide +kernel⟩, (tb4 90 rfl rfl), (tb1 14 rfl rfl)⟩
theorem oks_127 : Cond.static (znm PZ 127) ∈ zTB PZ := (tb4 89 rfl rfl)
theorem okm_128 : 128 < znM PZ ∧ ((znm PZ 128).cls ≠ "java/lang/invoke/MethodHandle" ∧ (znm PZ 128).cls ≠ "java/lang/invoke/VarHandle" ∧ (parseMethodDescriptor (znm PZ 128).desc).map (fun d => d.parameters.length) = some 1) ∧ Cond.code (znm PZ 128) (zby PZ 128) (zmL PZ 128) (zrt PZ 128) ∈ zTB PZ ∧ Cond.initialized (znm PZ 128).cls ∈ zTB PZ := ⟨Nat.le_of_ble_eq_true rfl, ⟨by decide +kernel, by decide +kernel, by decide +kernel⟩, (tb4 87 rfl rfl), (tb1 14 rfl rfl)⟩
theorem oki_128 : Cond.instanceMethod (znm PZ 128) ∈ zTB PZ := (tb4 86 rfl rfl)
theorem okv_128 : Cond.selects (znm PZ 128).cls (znm PZ 128) (znm PZ 128) ∈ zTB PZ := (tbs 29 rfl rfl)
theorem okm_129 : 129 < znM PZ ∧ ((znm PZ 129).cls ≠ "java/lang/invoke/MethodHandle" ∧ (znm PZ 129).cls ≠ "java/lang/invoke/VarHandle" ∧ (parseMethodDescriptor (znm PZ 129).desc).map (fun d => d.parameters.length) = some 1) ∧ Cond.code (znm PZ 129) (zby PZ 129) (zmL PZ 129) (zrt PZ 129) ∈ zTB PZ ∧ Cond.initialized (znm PZ 129).cls ∈ zTB PZ := ⟨Nat.le_of_ble_eq_true rfl, ⟨by decide +kernel, by decide +kernel, by decide +kernel⟩, (tb4 83 rfl rfl), (tb1 14 rfl rfl)⟩
theorem oki_129 : Cond.instanceMethod (znm PZ 129) ∈ zTB PZ := (tb4 82 rfl rfl)
theorem okv_129 : Cond.selects (znm PZ 129).cls (znm PZ 129) (znm PZ 129) ∈ zTB PZ := (tbs 28 rfl rfl)
theorem okm_130 : 130 < znM PZ ∧ ((znm PZ 130).cls ≠ "java/lang/invoke/MethodHandle" ∧ (znm PZ 130).cls ≠ "java/lang/invoke/VarHandle" ∧ (parseMethodDescriptor (znm PZ 130).desc).map (fun d => d.parameters.length) = some 2) ∧ Cond.code (znm PZ 130) (zby PZ 130) (zmL PZ 130) (zrt PZ 130) ∈ zTB PZ ∧ Cond.initialized (znm PZ 130).cls ∈ zTB PZ := ⟨Nat.le_of_ble_eq_true rfl, ⟨by decide +kernel, by decide +kernel, by decide +kernel⟩, (tb4 79 rfl rfl), (tb1 14 rfl rfl)⟩
theorem oki_130 : Cond.instanceMethod (znm PZ 130) ∈ zTB PZ := (tb4 78 rfl rfl)
theorem okv_130 : Cond.selects (znm PZ 130).cls (znm PZ 130) (znm PZ 130) ∈ zTB PZ := (tbs 27 rfl rfl)
theorem okm_131 : 131 < znM PZ ∧ ((znm PZ 131).cls ≠ "java/lang/invoke/MethodHandle" ∧ (znm PZ 131).cls ≠ "java/lang/invoke/VarHandle" ∧ (parseMethodDescriptor (znm PZ 131).desc).map (fun d => d.parameters.length) = some 2) ∧ Cond.code (znm PZ 131) (zby PZ 131) (zmL PZ 131) (zrt PZ 131) ∈ zTB PZ ∧ Cond.initialized (znm PZ 131).cls ∈ zTB PZ := ⟨Nat.le_of_ble_eq_true rfl, ⟨by decide +kernel, by decide +kernel, by decide +kernel⟩, (tb4 128 rfl rfl), (tb1 14 rfl rfl)⟩
theorem oks_131 : Cond.static (znm PZ 131) ∈ zTB PZ := (tb4 127 rfl rfl)
theorem okm_132 : 132 < znM PZ ∧ ((znm PZ 132).cls ≠ "java/lang/invoke/MethodHandle" ∧ (znm PZ 132).cls ≠ "java/lang/invoke/VarHandle" ∧ (parseMethodDescriptor (znm PZ 132).desc).map (fun d => d.parameters.length) = some 2) ∧ Cond.code (znm PZ 132) (zby PZ 132) (zmL PZ 132) (zrt PZ 132) ∈ zTB PZ ∧ Cond.initialized (znm PZ 132).cls ∈ zTB PZ := ⟨Nat.le_of_ble_eq_true rfl, ⟨by decide +kernel, by decide +kernel, by decide +kernel⟩, (tb4 125 rfl rfl), (tb1 14 rfl rfl)⟩
theorem oki_132 : Cond.instanceMethod (znm PZ 132) ∈ zTB PZ := (tb4 124 rfl rfl)
theorem okv_132 : Cond.selects (znm PZ 132).cls (znm PZ 132) (znm PZ 132) ∈ zTB PZ := (tbs 30 rfl rfl)
theorem okm_133 : 133 < znM PZ ∧ ((znm PZ 133).cls ≠ "java/lang/invoke/MethodHandle" ∧ (znm PZ 133).cls ≠ "java/lang/invoke/VarHandle" ∧ (parseMethodDescriptor (znm PZ 133).desc).map (fun d => d.parameters.length) = some 2) ∧ Cond.code (znm PZ 133) (zby PZ 133) (zmL PZ 133) (zrt PZ 133) ∈ zTB PZ ∧ Cond.initialized (znm PZ 133).cls ∈ zTB PZ := ⟨Nat.le_of_ble_eq_true rfl, ⟨by decide +kernel, by decide +kernel, by decide +kernel⟩, (tb4 75 rfl rfl), (tb1 14 rfl rfl)⟩
theorem oki_133 : Cond.instanceMethod (znm PZ 133) ∈ zTB PZ := (tb4 74 rfl rfl)
theorem okv_133 : Cond.selects (znm PZ 133).cls (znm PZ 133) (znm PZ 133) ∈ zTB PZ := (tbs 26 rfl rfl)
theorem okm_134 : 134 < znM PZ ∧ ((znm PZ 134).cls ≠ "java/lang/invoke/MethodHandle" ∧ (znm PZ 134).cls ≠ "java/lang/invoke/VarHandle" ∧ (parseMethodDescriptor (znm PZ 134).desc).map (fun d => d.parameters.length) = some 1) ∧ Cond.code (znm PZ 134) (zby PZ 134) (zmL PZ 134) (zrt PZ 134) ∈ zTB PZ ∧ Cond.initialized (znm PZ 134).cls ∈ zTB PZ := ⟨Nat.le_of_ble_eq_true rfl, ⟨by decide +kernel, by decide +kernel, by decide +kernel⟩, (tb4 132 rfl rfl), (tb1 14 rfl rfl)⟩
theorem oki_134 : Cond.instanceMethod (znm PZ 134) ∈ zTB PZ := (tb4 131 rfl rfl)
theorem okv_134 : Cond.selects (znm PZ 134).cls (znm PZ 134) (znm PZ 134) ∈ zTB PZ := (tbs 31 rfl rfl)
theorem okm_135 : 135 < znM PZ ∧ ((znm PZ 135).cls ≠ "java/lang/invoke/MethodHandle" ∧ (znm PZ 135).cls ≠ "java/lang/invoke/VarHandle" ∧ (parseMethodDescriptor (znm PZ 135).desc).map (fun d => d.parameters.length) = some 2) ∧ Cond.code (znm PZ 135) (zby PZ 135) (zmL PZ 135) (zrt PZ 135) ∈ zTB PZ ∧ Cond.initialized (znm PZ 135).cls ∈ zTB PZ := ⟨Nat.le_of_ble_eq_true rfl, ⟨by decide +kernel, by decide +kernel, by decide +kernel⟩, (tb4 71 rfl rfl), (tb1 14 rfl rfl)⟩
theorem oki_135 : Cond.instanceMethod (znm PZ 135) ∈ zTB PZ := (tb4 69 rfl rfl)
theorem okv_135 : Cond.selects (znm PZ 135).cls (znm PZ 135) (znm PZ 135) ∈ zTB PZ := (tb4 70 rfl rfl)
theorem okm_136 : 136 < znM PZ ∧ ((znm PZ 136).cls ≠ "java/lang/invoke/MethodHandle" ∧ (znm PZ 136).cls ≠ "java/lang/invoke/VarHandle" ∧ (parseMethodDescriptor (znm PZ 136).desc).map (fun d => d.parameters.length) = some 3) ∧ Cond.code (znm PZ 136) (zby PZ 136) (zmL PZ 136) (zrt PZ 136) ∈ zTB PZ ∧ Cond.initialized (znm PZ 136).cls ∈ zTB PZ := ⟨Nat.le_of_ble_eq_true rfl, ⟨by decide +kernel, by decide +kernel, by decide +kernel⟩, (tb4 136 rfl rfl), (tb1 14 rfl rfl)⟩
theorem oki_136 : Cond.instanceMethod (znm PZ 136) ∈ zTB PZ := (tb4 134 rfl rfl)
theorem okv_136 : Cond.selects (znm PZ 136).cls (znm PZ 136) (znm PZ 136) ∈ zTB PZ := (tb4 135 rfl rfl)
theorem okm_137 : 137 < znM PZ ∧ ((znm PZ 137).cls ≠ "java/lang/invoke/MethodHandle" ∧ (znm PZ 137).cls ≠ "java/lang/invoke/VarHandle" ∧ (parseMethodDescriptor (znm PZ 137).desc).map (fun d => d.parameters.length) = some 3) ∧ Cond.code (znm PZ 137) (zby PZ 137) (zmL PZ 137) (zrt PZ 137) ∈ zTB PZ ∧ Cond.initialized (znm PZ 137).cls ∈ zTB PZ := ⟨Nat.le_of_ble_eq_true rfl, ⟨by decide +kernel, by decide +kernel, by decide +kernel⟩, (tb4 140 rfl rfl), (tb1 14 rfl rfl)⟩
theorem oki_137 : Cond.instanceMethod (znm PZ 137) ∈ zTB PZ := (tb4 138 rfl rfl)
theorem okv_137 : Cond.selects (znm PZ 137).cls (znm PZ 137) (znm PZ 137) ∈ zTB PZ := (tb4 139 rfl rfl)
theorem okm_138 : 138 < znM PZ ∧ ((znm PZ 138).cls ≠ "java/lang/invoke/MethodHandle" ∧ (znm PZ 138).cls ≠ "java/lang/invoke/VarHandle" ∧ (parseMethodDescriptor (znm PZ 138).desc).map (fun d => d.parameters.length) = some 3) ∧ Cond.code (znm PZ 138) (zby PZ 138) (zmL PZ 138) (zrt PZ 138) ∈ zTB PZ ∧ Cond.initialized (znm PZ 138).cls ∈ zTB PZ := ⟨Nat.le_of_ble_eq_true rfl, ⟨by decide +kernel, by decide +kernel, by decide +kernel⟩, (tb4 144 rfl rfl), (tb1 14 rfl rfl)⟩
theorem oki_138 : Cond.instanceMethod (znm PZ 138) ∈ zTB PZ := (tb4 142 rfl rfl)
theorem okv_138 : Cond.selects (znm PZ 138).cls (znm PZ 138) (znm PZ 138) ∈ zTB PZ := (tb4 143 rfl rfl)
theorem okm_139 : 139 < znM PZ ∧ ((znm PZ 139).cls ≠ "java/lang/invoke/MethodHandle" ∧ (znm PZ 139).cls ≠ "java/lang/invoke/VarHandle" ∧ (parseMethodDescriptor (znm PZ 139).desc).map (fun d => d.parameters.length) = some 2) ∧ Cond.code (znm PZ 139) (zby PZ 139) (zmL PZ 139) (zrt PZ 139) ∈ zTB PZ ∧ Cond.initialized (znm PZ 139).cls ∈ zTB PZ := ⟨Nat.le_of_ble_eq_true rfl, ⟨by decide +kernel, by decide +kernel, by decide +kernel⟩, (tb4 148 rfl rfl), (tb1 14 rfl rfl)⟩
theorem oki_139 : Cond.instanceMethod (znm PZ 139) ∈ zTB PZ := (tb4 146 rfl rfl)
theorem okv_139 : Cond.selects (znm PZ 139).cls (znm PZ 139) (znm PZ 139) ∈ zTB PZ := (tb4 147 rfl rfl)
theorem okm_140 : 140 < znM PZ ∧ ((znm PZ 140).cls ≠ "java/lang/invoke/MethodHandle" ∧ (znm PZ 140).cls ≠ "java/lang/invoke/VarHandle" ∧ (parseMethodDescriptor (znm PZ 140).desc).map (fun d => d.parameters.length) = some 0) ∧ Cond.code (znm PZ 140) (zby PZ 140) (zmL PZ 140) (zrt PZ 140) ∈ zTB PZ ∧ Cond.initialized (znm PZ 140).cls ∈ zTB PZ := ⟨Nat.le_of_ble_eq_true rfl, ⟨by decide +kernel, by decide +kernel, by decide +kernel⟩, (tb4 160 rfl rfl), (tb1 14 rfl rfl)⟩
theorem oki_140 : Cond.instanceMethod (znm PZ 140) ∈ zTB PZ := (tb4 159 rfl rfl)
theorem okv_140 : Cond.selects (znm PZ 140).cls (znm PZ 140) (znm PZ 140) ∈ zTB PZ := (tbs 33 rfl rfl)
theorem okm_141 : 141 < znM PZ ∧ ((znm PZ 141).cls ≠ "java/lang/invoke/MethodHandle" ∧ (znm PZ 141).cls ≠ "java/lang/invoke/VarHandle" ∧ (parseMethodDescriptor (znm PZ 141).desc).map (fun d => d.parameters.length) = some 0) ∧ Cond.code (znm PZ 141) (zby PZ 141) (zmL PZ 141) (zrt PZ 141) ∈ zTB PZ ∧ Cond.initialized (znm PZ 141).cls ∈ zTB PZ := ⟨Nat.le_of_ble_eq_true rfl, ⟨by decide +kernel, by decide +kernel, by decide +kernel⟩, (tb4 164 rfl rfl), (tb1 14 rfl rfl)⟩
theorem oki_141 : Cond.instanceMethod (znm PZ 141) ∈ zTB PZ := (tb4 163 rfl rfl)
theorem okv_141 : Cond.selects (znm PZ 141).cls (znm PZ 141) (znm PZ 141) ∈ zTB PZ := (tbs 34 rfl rfl)
theorem okm_142 : 142 < znM PZ ∧ ((znm PZ 142).cls ≠ "java/lang/invoke/MethodHandle" ∧ (znm PZ 142).cls ≠ "java/lang/invoke/VarHandle" ∧ (parseMethodDescriptor (znm PZ 142).desc).map (fun d => d.parameters.length) = some 2) ∧ Cond.code (znm PZ 142) (zby PZ 142) (zmL PZ 142) (zrt PZ 142) ∈ zTB PZ ∧ Cond.initialized (znm PZ 142).cls ∈ zTB PZ := ⟨Nat.le_of_ble_eq_true rfl, ⟨by decide +kernel, by decide +kernel, by decide +kernel⟩, (tb4 177 rfl rfl), (tb1 14 rfl rfl)⟩
theorem oki_142 : Cond.instanceMethod (znm PZ 142) ∈ zTB PZ := (tb4 176 rfl rfl)
theorem okv_142 : Cond.selects (znm PZ 142).cls (znm PZ 142) (znm PZ 142) ∈ zTB PZ := (tbs 37 rfl rfl)
theorem okm_143 : 143 < znM PZ ∧ ((znm PZ 143).cls ≠ "java/lang/invoke/MethodHandle" ∧ (znm PZ 143).cls ≠ "java/lang/invoke/VarHandle" ∧ (parseMethodDescriptor (znm PZ 143).desc).map (fun d => d.parameters.length) = some 2) ∧ Cond.code (znm PZ 143) (zby PZ 143) (zmL PZ 143) (zrt PZ 143) ∈ zTB PZ ∧ Cond.initialized (znm PZ 143).cls ∈ zTB PZ := ⟨Nat.le_of_ble_eq_true rfl, ⟨by decide +kernel, by decide +kernel, by decide +kernel⟩, (tb4 173 rfl rfl), (tb1 14 rfl rfl)⟩
theorem oki_143 : Cond.instanceMethod (znm PZ 143) ∈ zTB PZ := (tb4 172 rfl rfl)
theorem okv_143 : Cond.selects (znm PZ 143).cls (znm PZ 143) (znm PZ 143) ∈ zTB PZ := (tbs 36 rfl rfl)
theorem okm_144 : 144 < znM PZ ∧ ((znm PZ 144).cls ≠ "java/lang/invoke/MethodHandle" ∧ (znm PZ 144).cls ≠ "java/lang/invoke/VarHandle" ∧ (parseMethodDescriptor (znm PZ 144).desc).map (fun d => d.parameters.length) = some 0) ∧ Cond.code (znm PZ 144) (zby PZ 144) (zmL PZ 144) (zrt PZ 144) ∈ zTB PZ ∧ Cond.initialized (znm PZ 144).cls ∈ zTB PZ := ⟨Nat.le_of_ble_eq_true rfl, ⟨by decide +kernel, by decide +kernel, by decide +kernel⟩, (tb4 169 rfl rfl), (tb1 14 rfl rfl)⟩
theorem oki_144 : Cond.instanceMethod (znm PZ 144) ∈ zTB PZ := (tb4 168 rfl rfl)
theorem okv_144 : Cond.selects (znm PZ 144).cls (znm PZ 144) (znm PZ 144) ∈ zTB PZ := (tbs 35 rfl rfl)
theorem okm_145 : 145 < znM PZ ∧ ((znm PZ 145).cls ≠ "java/lang/invoke/MethodHandle" ∧ (znm PZ 145).cls ≠ "java/lang/invoke/VarHandle" ∧ (parseMethodDescriptor (znm PZ 145).desc).map (fun d => d.parameters.length) = some 0) ∧ Cond.code (znm PZ 145) (zby PZ 145) (zmL PZ 145) (zrt PZ 145) ∈ zTB PZ ∧ Cond.initialized (znm PZ 145).cls ∈ zTB PZ := ⟨Nat.le_of_ble_eq_true rfl, ⟨by decide +kernel, by decide +kernel, by decide +kernel⟩, (tb4 156 rfl rfl), (tb1 14 rfl rfl)⟩
theorem oki_145 : Cond.instanceMethod (znm PZ 145) ∈ zTB PZ := (tb4 155 rfl rfl)
theorem okv_145 : Cond.selects (znm PZ 145).cls (znm PZ 145) (znm PZ 145) ∈ zTB PZ := (tbs 32 rfl rfl)
theorem okm_146 : 146 < znM PZ ∧ ((znm PZ 146).cls ≠ "java/lang/invoke/MethodHandle" ∧ (znm PZ 146).cls ≠ "java/lang/invoke/VarHandle" ∧ (parseMethodDescriptor (znm PZ 146).desc).map (fun d => d.parameters.length) = some 1) ∧ Cond.code (znm PZ 146) (zby PZ 146) (zmL PZ 146) (zrt PZ 146) ∈ zTB PZ ∧ Cond.initialized (znm PZ 146).cls ∈ zTB PZ := ⟨Nat.le_of_ble_eq_true rfl, ⟨by decide +kernel, by decide +kernel, by decide +kernel⟩, (tb4 152 rfl rfl), (tb1 14 rfl rfl)⟩
theorem oki_146 : Cond.instanceMethod (znm PZ 146) ∈ zTB PZ := (tb4 150 rfl rfl)
theorem okv_146 : Cond.selects (znm PZ 146).cls (znm PZ 146) (znm PZ 146) ∈ zTB PZ := (tb4 151 rfl rfl)
theorem okm_147 : 147 < znM PZ ∧ ((znm PZ 147).cls ≠ "java/lang/invoke/MethodHandle" ∧ (znm PZ 147).cls ≠ "java/lang/invoke/VarHandle" ∧ (parseMethodDescriptor (znm PZ 147).desc).map (fun d => d.parameters.length) = some 0) ∧ Cond.code (znm PZ 147) (zby PZ 147) (zmL PZ 147) (zrt PZ 147) ∈ zTB PZ ∧ Cond.initialized (znm PZ 147).cls ∈ zTB PZ := ⟨Nat.le_of_ble_eq_true rfl, ⟨by decide +kernel, by decide +kernel, by decide +kernel⟩, (tb4 185 rfl rfl), (tb1 14 rfl rfl)⟩
theorem oki_147 : Cond.instanceMethod (znm PZ 147) ∈ zTB PZ := (tb4 184 rfl rfl)
theorem okv_147 : Cond.selects (znm PZ 147).cls (znm PZ 147) (znm PZ 147) ∈ zTB PZ := (tbs 38 rfl rfl)
theorem okm_148 : 148 < znM PZ ∧ ((znm PZ 148).cls ≠ "java/lang/invoke/MethodHandle" ∧ (znm PZ 148).cls ≠ "java/lang/invoke/VarHandle" ∧ (parseMethodDescriptor (znm PZ 148).desc).map (fun d => d.parameters.length) = some 1) ∧ Cond.code (znm PZ 148) (zby PZ 148) (zmL PZ 148) (zrt PZ 148) ∈ zTB PZ ∧ Cond.initialized (znm PZ 148).cls ∈ zTB PZ := ⟨Nat.le_of_ble_eq_true rfl, ⟨by decide +kernel, by decide +kernel, by decide +kernel⟩, (tb4 193 rfl rfl), (tb1 14 rfl rfl)⟩
theorem oki_148 : Cond.instanceMethod (znm PZ 148) ∈ zTB PZ := (tb4 192 rfl rfl)
theorem okv_148 : Cond.selects (znm PZ 148).cls (znm PZ 148) (znm PZ 148) ∈ zTB PZ := (tbs 40 rfl rfl)
theorem okm_149 : 149 < znM PZ ∧ ((znm PZ 149).cls ≠ "java/lang/invoke/MethodHandle" ∧ (znm PZ 149).cls ≠ "java/lang/invoke/VarHandle" ∧ (parseMethodDescriptor (znm PZ 149).desc).map (fun d => d.parameters.length) = some 1) ∧ Cond.code (znm PZ 149) (zby PZ 149) (zmL PZ 149) (zrt PZ 149) ∈ zTB PZ ∧ Cond.initialized (znm PZ 149).cls ∈ zTB PZ := ⟨Nat.le_of_ble_eq_true rfl, ⟨by decide +kernel, by decide +kernel, by decide +kernel⟩, (tb4 189 rfl rfl), (tb1 14 rfl rfl)⟩
theorem oki_149 : Cond.instanceMethod (znm PZ 149) ∈ zTB PZ := (tb4 188 rfl rfl)
theorem okv_149 : Cond.selects (znm PZ 149).cls (znm PZ 149) (znm PZ 149) ∈ zTB PZ := (tbs 39 rfl rfl)
theorem okm_150 : 150 < znM PZ ∧ ((znm PZ 150).cls ≠ "java/lang/invoke/MethodHandle" ∧ (znm PZ 150).cls ≠ "java/lang/invoke/VarHandle" ∧ (parseMethodDescriptor (znm PZ 150).desc).map (fun d => d.parameters.length) = some 1) ∧ Cond.code (znm PZ 150) (zby PZ 150) (zmL PZ 150) (zrt PZ 150) ∈ zTB PZ ∧ Cond.initialized (znm PZ 150).cls ∈ zTB PZ := ⟨Nat.le_of_ble_eq_true rfl, ⟨by decide +kernel, by decide +kernel, by decide +kernel⟩, (tb4 181 rfl rfl), (tb1 14 rfl rfl)⟩
theorem oki_150 : Cond.instanceMethod (znm PZ 150) ∈ zTB PZ := (tb4 179 rfl rfl)
theorem okv_150 : Cond.selects (znm PZ 150).cls (znm PZ 150) (znm PZ 150) ∈ zTB PZ := (tb4 180 rfl rfl)
theorem okm_151 : 151 < znM PZ ∧ ((znm PZ 151).cls ≠ "java/lang/invoke/MethodHandle" ∧ (znm PZ 151).cls ≠ "java/lang/invoke/VarHandle" ∧ (parseMethodDescriptor (znm PZ 151).desc).map (fun d => d.parameters.length) = some 2) ∧ Cond.code (znm PZ 151) (zby PZ 151) (zmL PZ 151) (zrt PZ 151) ∈ zTB PZ ∧ Cond.initialized (znm PZ 151).cls ∈ zTB PZ := ⟨Nat.le_of_ble_eq_true rfl, ⟨by decide +kernel, by decide +kernel, by decide +kernel⟩, (tb4 201 rfl rfl), (tb1 14 rfl rfl)⟩
theorem oki_151 : Cond.instanceMethod (znm PZ 151) ∈ zTB PZ := (tb4 200 rfl rfl)
theorem okv_151 : Cond.selects (znm PZ 151).cls (znm PZ 151) (znm PZ 151) ∈ zTB PZ := (tbs 41 rfl rfl)
theorem okm_152 : 152 < znM PZ ∧ ((znm PZ 152).cls ≠ "java/lang/invoke/MethodHandle" ∧ (znm PZ 152).cls ≠ "java/lang/invoke/VarHandle" ∧ (parseMethodDescriptor (znm PZ 152).desc).map (fun d => d.parameters.length) = some 1) ∧ Cond.code (znm PZ 152) (zby PZ 152) (zmL PZ 152) (zrt PZ 152) ∈ zTB PZ ∧ Cond.initialized (znm PZ 152).cls ∈ zTB PZ := ⟨Nat.le_of_ble_eq_true rfl, ⟨by decide +kernel, by decide +kernel, by decide +kernel⟩, (tb4 197 rfl rfl), (tb1 14 rfl rfl)⟩
theorem oki_152 : Cond.instanceMethod (znm PZ 152) ∈ zTB PZ := (tb4 195 rfl rfl)
theorem okv_152 : Cond.selects (znm PZ 152).cls (znm PZ 152) (znm PZ 152) ∈ zTB PZ := (tb4 196 rfl rfl)
theorem okm_153 : 153 < znM PZ ∧ ((znm PZ 153).cls ≠ "java/lang/invoke/MethodHandle" ∧ (znm PZ 153).cls ≠ "java/lang/invoke/VarHandle" ∧ (parseMethodDescriptor (znm PZ 153).desc).map (fun d => d.parameters.length) = some 1) ∧ Cond.code (znm PZ 153) (zby PZ 153) (zmL PZ 153) (zrt PZ 153) ∈ zTB PZ ∧ Cond.initialized (znm PZ 153).cls ∈ zTB PZ := ⟨Nat.le_of_ble_eq_true rfl, ⟨by decide +kernel, by decide +kernel, by decide +kernel⟩, (tb4 205 rfl rfl), (tb1 14 rfl rfl)⟩
theorem oki_153 : Cond.instanceMethod (znm PZ 153) ∈ zTB PZ := (tb4 203 rfl rfl)
theorem okv_153 : Cond.selects (znm PZ 153).cls (znm PZ 153) (znm PZ 153) ∈ zTB PZ := (tb4 204 rfl rfl)
theorem okm_154 : 154 < znM PZ ∧ ((znm PZ 154).cls ≠ "java/lang/invoke/MethodHandle" ∧ (znm PZ 154).cls ≠ "java/lang/invoke/VarHandle" ∧ (parseMethodDescriptor (znm PZ 154).desc).map (fun d => d.parameters.length) = some 1) ∧ Cond.code (znm PZ 154) (zby PZ 154) (zmL PZ 154) (zrt PZ 154) ∈ zTB PZ ∧ Cond.initialized (znm PZ 154).cls ∈ zTB PZ := ⟨Nat.le_of_ble_eq_true rfl, ⟨by decide +kernel, by decide +kernel, by decide +kernel⟩, (tb4 209 rfl rfl), (tb1 14 rfl rfl)⟩
theorem oki_154 : Cond.instanceMethod (znm PZ 154) ∈ zTB PZ := (tb4 207 rfl rfl)
theorem okv_154 : Cond.selects (znm PZ 154).cls (znm PZ 154) (znm PZ 154) ∈ zTB PZ := (tb4 208 rfl rfl)
theorem okm_155 : 155 < znM PZ ∧ ((znm PZ 155).cls ≠ "java/lang/invoke/MethodHandle" ∧ (znm PZ 155).cls ≠ "java/lang/invoke/VarHandle" ∧ (parseMethodDescriptor (znm PZ 155).desc).map (fun d => d.parameters.length) = some 1) ∧ Cond.code (znm PZ 155) (zby PZ 155) (zmL PZ 155) (zrt PZ 155) ∈ zTB PZ ∧ Cond.initialized (znm PZ 155).cls ∈ zTB PZ := ⟨Nat.le_of_ble_eq_true rfl, ⟨by decide +kernel, by decide +kernel, by decide +kernel⟩, (tb4 213 rfl rfl), (tb1 14 rfl rfl)⟩
theorem oki_155 : Cond.instanceMethod (znm PZ 155) ∈ zTB PZ := (tb4 211 rfl rfl)
theorem okv_155 : Cond.selects (znm PZ 155).cls (znm PZ 155) (znm PZ 155) ∈ zTB PZ := (tb4 212 rfl rfl)
end
section
theorem sm_at_mem {pc : Nat} {s : smI} : ∀ {l : List (Nat × smI)}, sm_at l pc = some s → (pc, s) ∈ l
  | [], h => by cases h
  | (j, w) :: l, h => by
    unfold sm_at at h
    cases hb : Nat.beq j pc with
    | true =>
      simp only [hb, cond_true] at h
      cases h
      rw [Nat.eq_of_beq_eq_true hb]
      exact List.mem_cons_self
    | false =>
      simp only [hb, cond_false] at h
      exact List.mem_cons_of_mem _ (sm_at_mem h)
theorem sm_code_mem {P : smP} {m pc : Nat} {s : smI} (h : sm_code P m pc = some s) : ∃ ch ∈ P.1 m, (pc, s) ∈ ch := by
  unfold sm_code at h
  have h1 := sm_at_mem h
  rw [List.getD_eq_getElem?_getD] at h1
  cases hg : (P.1 m)[pc / 16]? with
  | none => rw [hg] at h1; cases h1
  | some ch =>
    rw [hg] at h1
    exact ⟨ch, List.mem_of_getElem? hg, h1⟩
def sm_Q (Z : smZ) (P : smP) (m : Nat) : Prop := ((P.1 m).all fun ch => ch.all fun q => decide (decode (zby Z m) q.1 = .ok (q.2.1, q.2.2.1)) && sm_okA (zmL Z m) q.1 q.2.2.1 q.2.1 q.2.2.2.1 q.2.2.2.2.1) = true ∧ (∀ ch ∈ P.1 m, ∀ q ∈ ch, sm_okL Z P m q.2.1 q.2.2.2.1 q.2.2.2.2.1 q.2.2.2.2.2) ∧ plainName (znm Z m).cls = true ∧ zow Z m = (znm Z m).cls
theorem sm_Q_ok {Z : smZ} {P : smP} {m pc : Nat} {i : Instr} {len x y z : Nat} (h : sm_Q Z P m) (hc : sm_code P m pc = some (i, len, x, y, z)) : sm_okI Z P m pc i len x y z := by
  obtain ⟨ch, h1, h2⟩ := sm_code_mem hc
  have h3 := List.all_eq_true.mp (List.all_eq_true.mp h.1 ch h1) _ h2
  rw [Bool.and_eq_true] at h3
  exact ⟨of_decide_eq_true h3.1, h3.2, h.2.1 ch h1 _ h2⟩
set_option maxRecDepth 100000 in
theorem okQ_0 : sm_Q PZ PP 0 := ⟨by decide +kernel, show ∀ ch ∈ pc_0, ∀ q ∈ ch, sm_okL PZ PP 0 q.2.1 q.2.2.2.1 q.2.2.2.2.1 q.2.2.2.2.2 from List.forall_mem_cons.mpr ⟨(List.forall_mem_cons.mpr ⟨trivial, List.forall_mem_cons.mpr ⟨⟨(tb1 30 rfl rfl), okobj.1, okobj.2, Nat.le_of_ble_eq_true rfl, Nat.le_of_ble_eq_true rfl⟩, List.forall_mem_cons.mpr ⟨trivial, List.forall_mem_cons.mpr ⟨trivial, List.forall_mem_cons.mpr ⟨(tb1 40 rfl rfl), List.forall_mem_cons.mpr ⟨⟨_, rfl, Nat.le_of_ble_eq_true rfl, ⟨.array .char, by decide +kernel, Or.inr ⟨_, rfl⟩⟩, Or.inr ⟨rfl, rfl, rfl, (tb1 31 rfl rfl)⟩⟩, List.forall_mem_cons.mpr ⟨trivial, List.forall_mem_cons.mpr ⟨trivial, List.forall_mem_cons.mpr ⟨⟨_, rfl, Nat.le_of_ble_eq_true rfl, ⟨.int, by decide +kernel, rfl⟩, Or.inl ⟨rfl, Or.inl (tb1 32 rfl rfl)⟩⟩, fun _ h => absurd h List.not_mem_nil⟩⟩⟩⟩⟩⟩⟩⟩⟩), List.forall_mem_cons.mpr ⟨(List.forall_mem_cons.mpr ⟨rfl, fun _ h => absurd h List.not_mem_nil⟩), fun _ h => absurd h List.not_mem_nil⟩⟩, by decide +kernel, rfl⟩
set_option maxRecDepth 100000 in
theorem okQ_1 : sm_Q PZ PP 1 := ⟨by decide +kernel, show ∀ ch ∈ pc_1, ∀ q ∈ ch, sm_okL PZ PP 1 q.2.1 q.2.2.2.1 q.2.2.2.2.1 q.2.2.2.2.2 from List.forall_mem_cons.mpr ⟨(List.forall_mem_cons.mpr ⟨trivial, List.forall_mem_cons.mpr ⟨⟨(tb1 56 rfl rfl), okobj.1, okobj.2, Nat.le_of_ble_eq_true rfl, Nat.le_of_ble_eq_true rfl⟩, List.forall_mem_cons.mpr ⟨trivial, List.forall_mem_cons.mpr ⟨trivial, List.forall_mem_cons.mpr ⟨⟨_, rfl, Nat.le_of_ble_eq_true rfl, ⟨.int, by decide +kernel, rfl⟩, Or.inl ⟨rfl, Or.inl (tb1 61 rfl rfl)⟩⟩, List.forall_mem_cons.mpr ⟨trivial, List.forall_mem_cons.mpr ⟨trivial, List.forall_mem_cons.mpr ⟨trivial, List.forall_mem_cons.mpr ⟨⟨(tb1 57 rfl rfl), (tb1 58 rfl rfl), (tb1 5 rfl rfl), (tb1 59 rfl rfl), Nat.le_of_ble_eq_true rfl, Nat.le_of_ble_eq_true rfl⟩, List.forall_mem_cons.mpr ⟨(tb1 40 rfl rfl), fun _ h => absurd h List.not_mem_nil⟩⟩⟩⟩⟩⟩⟩⟩⟩⟩), List.forall_mem_cons.mpr ⟨(List.forall_mem_cons.mpr ⟨⟨_, rfl, Nat.le_of_ble_eq_true rfl, ⟨.array .char, by decide +kernel, Or.inr ⟨_, rfl⟩⟩, Or.inr ⟨rfl, rfl, rfl, (tb1 60 rfl rfl)⟩⟩, List.forall_mem_cons.mpr ⟨rfl, fun _ h => absurd h List.not_mem_nil⟩⟩), fun _ h => absurd h List.not_mem_nil⟩⟩, by decide +kernel, rfl⟩
set_option maxRecDepth 100000 in
theorem okQ_2 : sm_Q PZ PP 2 := ⟨by decide +kernel, show ∀ ch ∈ pc_2, ∀ q ∈ ch, sm_okL PZ PP 2 q.2.1 q.2.2.2.1 q.2.2.2.2.1 q.2.2.2.2.2 from List.forall_mem_cons.mpr ⟨(List.forall_mem_cons.mpr ⟨trivial, List.forall_mem_cons.mpr ⟨⟨_, rfl, (tb1 50 rfl rfl), List.mem_of_getElem? (i := 28) rfl⟩, List.forall_mem_cons.mpr ⟨trivial, List.forall_mem_cons.mpr ⟨trivial, List.forall_mem_cons.mpr ⟨trivial, List.forall_mem_cons.mpr ⟨trivial, List.forall_mem_cons.mpr ⟨trivial, List.forall_mem_cons.mpr ⟨trivial, List.forall_mem_cons.mpr ⟨trivial, List.forall_mem_cons.mpr ⟨trivial, List.forall_mem_cons.mpr ⟨trivial, fun _ h => absurd h List.not_mem_nil⟩⟩⟩⟩⟩⟩⟩⟩⟩⟩⟩), List.forall_mem_cons.mpr ⟨(List.forall_mem_cons.mpr ⟨⟨_, rfl, (tb1 50 rfl rfl), (tb1 52 rfl rfl), (tb1 4 rfl rfl)⟩, List.forall_mem_cons.mpr ⟨trivial, List.forall_mem_cons.mpr ⟨trivial, List.forall_mem_cons.mpr ⟨⟨⟨okm_1.1, okm_1.2.1, okm_1.2.2.1, okm_1.2.2.2, Nat.le_of_ble_eq_true rfl, Nat.le_of_ble_eq_true rfl, Or.inl (tb1 53 rfl rfl)⟩, Nat.le_of_ble_eq_true rfl, oki_1, rfl, rfl⟩, List.forall_mem_cons.mpr ⟨trivial, List.forall_mem_cons.mpr ⟨trivial, List.forall_mem_cons.mpr ⟨trivial, List.forall_mem_cons.mpr ⟨trivial, fun _ h => absurd h List.not_mem_nil⟩⟩⟩⟩⟩⟩⟩⟩), List.forall_mem_cons.mpr ⟨(List.forall_mem_cons.mpr ⟨⟨_, rfl, Or.inr ⟨_, rfl⟩⟩, fun _ h => absurd h List.not_mem_nil⟩), fun _ h => absurd h List.not_mem_nil⟩⟩⟩, by decide +kernel, rfl⟩
set_option maxRecDepth 100000 in
theorem okQ_3 : sm_Q PZ PP 3 := ⟨by decide +kernel, show ∀ ch ∈ pc_3, ∀ q ∈ ch, sm_okL PZ PP 3 q.2.1 q.2.2.2.1 q.2.2.2.2.1 q.2.2.2.2.2 from List.forall_mem_cons.mpr ⟨(List.forall_mem_cons.mpr ⟨trivial, List.forall_mem_cons.mpr ⟨⟨(tb1 46 rfl rfl), okobj.1, okobj.2, Nat.le_of_ble_eq_true rfl, Nat.le_of_ble_eq_true rfl⟩, List.forall_mem_cons.mpr ⟨trivial, List.forall_mem_cons.mpr ⟨trivial, List.forall_mem_cons.mpr ⟨⟨⟨okm_2.1, okm_2.2.1, okm_2.2.2.1, okm_2.2.2.2, Nat.le_of_ble_eq_true rfl, Nat.le_of_ble_eq_true rfl, Or.inl (tb1 47 rfl rfl)⟩, Nat.le_of_ble_eq_true rfl, oks_2⟩, List.forall_mem_cons.mpr ⟨⟨_, rfl, Nat.le_of_ble_eq_true rfl, ⟨.array (.object "WornSums$Row"), by decide +kernel, Or.inr ⟨_, rfl⟩⟩, Or.inr ⟨rfl, rfl, rfl, (tb1 71 rfl rfl)⟩⟩, List.forall_mem_cons.mpr ⟨trivial, List.forall_mem_cons.mpr ⟨trivial, List.forall_mem_cons.mpr ⟨⟨⟨okm_2.1, okm_2.2.1, okm_2.2.2.1, okm_2.2.2.2, Nat.le_of_ble_eq_true rfl, Nat.le_of_ble_eq_true rfl, Or.inl (tb1 47 rfl rfl)⟩, Nat.le_of_ble_eq_true rfl, oks_2⟩, fun _ h => absurd h List.not_mem_nil⟩⟩⟩⟩⟩⟩⟩⟩⟩), List.forall_mem_cons.mpr ⟨(List.forall_mem_cons.mpr ⟨⟨_, rfl, Nat.le_of_ble_eq_true rfl, ⟨.array (.object "WornSums$Row"), by decide +kernel, Or.inr ⟨_, rfl⟩⟩, Or.inr ⟨rfl, rfl, rfl, (tb1 73 rfl rfl)⟩⟩, List.forall_mem_cons.mpr ⟨trivial, List.forall_mem_cons.mpr ⟨trivial, List.forall_mem_cons.mpr ⟨⟨_, rfl, Nat.le_of_ble_eq_true rfl, ⟨.int, by decide +kernel, rfl⟩, Or.inl ⟨rfl, Or.inl (tb1 75 rfl rfl)⟩⟩, List.forall_mem_cons.mpr ⟨trivial, List.forall_mem_cons.mpr ⟨trivial, List.forall_mem_cons.mpr ⟨⟨_, rfl, Nat.le_of_ble_eq_true rfl, ⟨.int, by decide +kernel, rfl⟩, Or.inl ⟨rfl, Or.inl (tb1 78 rfl rfl)⟩⟩, List.forall_mem_cons.mpr ⟨trivial, fun _ h => absurd h List.not_mem_nil⟩⟩⟩⟩⟩⟩⟩⟩), List.forall_mem_cons.mpr ⟨(List.forall_mem_cons.mpr ⟨trivial, List.forall_mem_cons.mpr ⟨⟨_, rfl, Nat.le_of_ble_eq_true rfl, ⟨.int, by decide +kernel, rfl⟩, Or.inl ⟨rfl, Or.inl (tb1 81 rfl rfl)⟩⟩, List.forall_mem_cons.mpr ⟨rfl, fun _ h => absurd h List.not_mem_nil⟩⟩⟩), fun _ h => absurd h List.not_mem_nil⟩⟩⟩, by decide +kernel, rfl⟩
set_option maxRecDepth 100000 in
theorem okQ_4 : sm_Q PZ PP 4 := ⟨by decide +kernel, show ∀ ch ∈ pc_4, ∀ q ∈ ch, sm_okL PZ PP 4 q.2.1 q.2.2.2.1 q.2.2.2.2.1 q.2.2.2.2.2 from List.forall_mem_cons.mpr ⟨(List.forall_mem_cons.mpr ⟨trivial, List.forall_mem_cons.mpr ⟨trivial, List.forall_mem_cons.mpr ⟨⟨(tb1 104 rfl rfl), (tb1 58 rfl rfl), (tb1 5 rfl rfl), (tb1 59 rfl rfl), Nat.le_of_ble_eq_true rfl, Nat.le_of_ble_eq_true rfl⟩, List.forall_mem_cons.mpr ⟨⟨_, rfl, (tb1 41 rfl rfl), List.mem_of_getElem? (i := 29) rfl⟩, List.forall_mem_cons.mpr ⟨trivial, List.forall_mem_cons.mpr ⟨trivial, List.forall_mem_cons.mpr ⟨trivial, List.forall_mem_cons.mpr ⟨trivial, List.forall_mem_cons.mpr ⟨trivial, List.forall_mem_cons.mpr ⟨trivial, List.forall_mem_cons.mpr ⟨trivial, fun _ h => absurd h List.not_mem_nil⟩⟩⟩⟩⟩⟩⟩⟩⟩⟩⟩), List.forall_mem_cons.mpr ⟨(List.forall_mem_cons.mpr ⟨trivial, List.forall_mem_cons.mpr ⟨trivial, List.forall_mem_cons.mpr ⟨⟨_, rfl, (tb1 41 rfl rfl), (tb1 42 rfl rfl), (tb1 3 rfl rfl)⟩, List.forall_mem_cons.mpr ⟨trivial, List.forall_mem_cons.mpr ⟨⟨⟨okm_3.1, okm_3.2.1, okm_3.2.2.1, okm_3.2.2.2, Nat.le_of_ble_eq_true rfl, Nat.le_of_ble_eq_true rfl, Or.inr ⟨_, List.mem_of_getElem? (i := 3) rfl⟩⟩, Nat.le_of_ble_eq_true rfl, oki_3, rfl, rfl⟩, List.forall_mem_cons.mpr ⟨trivial, List.forall_mem_cons.mpr ⟨trivial, List.forall_mem_cons.mpr ⟨trivial, fun _ h => absurd h List.not_mem_nil⟩⟩⟩⟩⟩⟩⟩⟩), List.forall_mem_cons.mpr ⟨(List.forall_mem_cons.mpr ⟨trivial, List.forall_mem_cons.mpr ⟨⟨_, rfl, Or.inr ⟨_, rfl⟩⟩, fun _ h => absurd h List.not_mem_nil⟩⟩), fun _ h => absurd h List.not_mem_nil⟩⟩⟩, by decide +kernel, rfl⟩
set_option maxRecDepth 100000 in
theorem okQ_5 : sm_Q PZ PP 5 := ⟨by decide +kernel, show ∀ ch ∈ pc_5, ∀ q ∈ ch, sm_okL PZ PP 5 q.2.1 q.2.2.2.1 q.2.2.2.2.1 q.2.2.2.2.2 from List.forall_mem_cons.mpr ⟨(List.forall_mem_cons.mpr ⟨trivial, List.forall_mem_cons.mpr ⟨⟨(tb1 100 rfl rfl), okobj.1, okobj.2, Nat.le_of_ble_eq_true rfl, Nat.le_of_ble_eq_true rfl⟩, List.forall_mem_cons.mpr ⟨trivial, List.forall_mem_cons.mpr ⟨trivial, List.forall_mem_cons.mpr ⟨⟨⟨okm_4.1, okm_4.2.1, okm_4.2.2.1, okm_4.2.2.2, Nat.le_of_ble_eq_true rfl, Nat.le_of_ble_eq_true rfl, Or.inr ⟨_, List.mem_of_getElem? (i := 17) rfl⟩⟩, Nat.le_of_ble_eq_true rfl, oks_4⟩, List.forall_mem_cons.mpr ⟨⟨_, rfl, Nat.le_of_ble_eq_true rfl, ⟨.array (.object "WornSums$Sheet"), by decide +kernel, Or.inr ⟨_, rfl⟩⟩, Or.inr ⟨rfl, rfl, rfl, (tb1 106 rfl rfl)⟩⟩, List.forall_mem_cons.mpr ⟨trivial, List.forall_mem_cons.mpr ⟨trivial, List.forall_mem_cons.mpr ⟨⟨_, rfl, Nat.le_of_ble_eq_true rfl, ⟨.int, by decide +kernel, rfl⟩, Or.inl ⟨rfl, Or.inl (tb1 107 rfl rfl)⟩⟩, fun _ h => absurd h List.not_mem_nil⟩⟩⟩⟩⟩⟩⟩⟩⟩), List.forall_mem_cons.mpr ⟨(List.forall_mem_cons.mpr ⟨trivial, List.forall_mem_cons.mpr ⟨trivial, List.forall_mem_cons.mpr ⟨⟨_, rfl, Nat.le_of_ble_eq_true rfl, ⟨.int, by decide +kernel, rfl⟩, Or.inl ⟨rfl, Or.inl (tb1 108 rfl rfl)⟩⟩, List.forall_mem_cons.mpr ⟨rfl, fun _ h => absurd h List.not_mem_nil⟩⟩⟩⟩), fun _ h => absurd h List.not_mem_nil⟩⟩, by decide +kernel, rfl⟩
set_option maxRecDepth 100000 in
theorem okQ_6 : sm_Q PZ PP 6 := ⟨by decide +kernel, show ∀ ch ∈ pc_6, ∀ q ∈ ch, sm_okL PZ PP 6 q.2.1 q.2.2.2.1 q.2.2.2.2.1 q.2.2.2.2.2 from List.forall_mem_cons.mpr ⟨(List.forall_mem_cons.mpr ⟨⟨_, _, _, (tb1 141 rfl rfl), List.mem_of_getElem? (i := 0) rfl⟩, List.forall_mem_cons.mpr ⟨trivial, List.forall_mem_cons.mpr ⟨trivial, List.forall_mem_cons.mpr ⟨(tb4 215 rfl rfl), List.forall_mem_cons.mpr ⟨trivial, List.forall_mem_cons.mpr ⟨trivial, List.forall_mem_cons.mpr ⟨rfl, fun _ h => absurd h List.not_mem_nil⟩⟩⟩⟩⟩⟩⟩), fun _ h => absurd h List.not_mem_nil⟩, by decide +kernel, rfl⟩
set_option maxRecDepth 100000 in
theorem okQ_7 : sm_Q PZ PP 7 := ⟨by decide +kernel, show ∀ ch ∈ pc_7, ∀ q ∈ ch, sm_okL PZ PP 7 q.2.1 q.2.2.2.1 q.2.2.2.2.1 q.2.2.2.2.2 from List.forall_mem_cons.mpr ⟨(List.forall_mem_cons.mpr ⟨trivial, List.forall_mem_cons.mpr ⟨(tb4 214 rfl rfl), List.forall_mem_cons.mpr ⟨trivial, List.forall_mem_cons.mpr ⟨trivial, List.forall_mem_cons.mpr ⟨⟨⟨okm_6.1, okm_6.2.1, okm_6.2.2.1, okm_6.2.2.2, Nat.le_of_ble_eq_true rfl, Nat.le_of_ble_eq_true rfl, Or.inl (tb1 137 rfl rfl)⟩, Nat.le_of_ble_eq_true rfl, oki_6, okv_6, rfl⟩, List.forall_mem_cons.mpr ⟨trivial, List.forall_mem_cons.mpr ⟨rfl, fun _ h => absurd h List.not_mem_nil⟩⟩⟩⟩⟩⟩⟩), fun _ h => absurd h List.not_mem_nil⟩, by decide +kernel, rfl⟩
set_option maxRecDepth 100000 in
theorem okQ_8 : sm_Q PZ PP 8 := ⟨by decide +kernel, show ∀ ch ∈ pc_8, ∀ q ∈ ch, sm_okL PZ PP 8 q.2.1 q.2.2.2.1 q.2.2.2.2.1 q.2.2.2.2.2 from List.forall_mem_cons.mpr ⟨(List.forall_mem_cons.mpr ⟨⟨_, _, _, (tb1 141 rfl rfl), List.mem_of_getElem? (i := 0) rfl⟩, List.forall_mem_cons.mpr ⟨trivial, List.forall_mem_cons.mpr ⟨trivial, List.forall_mem_cons.mpr ⟨(tb4 215 rfl rfl), List.forall_mem_cons.mpr ⟨trivial, List.forall_mem_cons.mpr ⟨trivial, List.forall_mem_cons.mpr ⟨trivial, fun _ h => absurd h List.not_mem_nil⟩⟩⟩⟩⟩⟩⟩), List.forall_mem_cons.mpr ⟨(List.forall_mem_cons.mpr ⟨trivial, List.forall_mem_cons.mpr ⟨rfl, fun _ h => absurd h List.not_mem_nil⟩⟩), fun _ h => absurd h List.not_mem_nil⟩⟩, by decide +kernel, rfl⟩
set_option maxRecDepth 100000 in
theorem okQ_9 : sm_Q PZ PP 9 := ⟨by decide +kernel, show ∀ ch ∈ pc_9, ∀ q ∈ ch, sm_okL PZ PP 9 q.2.1 q.2.2.2.1 q.2.2.2.2.1 q.2.2.2.2.2 from List.forall_mem_cons.mpr ⟨(List.forall_mem_cons.mpr ⟨trivial, List.forall_mem_cons.mpr ⟨trivial, List.forall_mem_cons.mpr ⟨trivial, List.forall_mem_cons.mpr ⟨trivial, List.forall_mem_cons.mpr ⟨trivial, List.forall_mem_cons.mpr ⟨trivial, List.forall_mem_cons.mpr ⟨trivial, List.forall_mem_cons.mpr ⟨trivial, fun _ h => absurd h List.not_mem_nil⟩⟩⟩⟩⟩⟩⟩⟩), List.forall_mem_cons.mpr ⟨(List.forall_mem_cons.mpr ⟨trivial, List.forall_mem_cons.mpr ⟨rfl, fun _ h => absurd h List.not_mem_nil⟩⟩), fun _ h => absurd h List.not_mem_nil⟩⟩, by decide +kernel, rfl⟩
set_option maxRecDepth 100000 in
theorem okQ_10 : sm_Q PZ PP 10 := ⟨by decide +kernel, show ∀ ch ∈ pc_10, ∀ q ∈ ch, sm_okL PZ PP 10 q.2.1 q.2.2.2.1 q.2.2.2.2.1 q.2.2.2.2.2 from List.forall_mem_cons.mpr ⟨(List.forall_mem_cons.mpr ⟨trivial, List.forall_mem_cons.mpr ⟨trivial, List.forall_mem_cons.mpr ⟨⟨_, _, _, (tb1 157 rfl rfl), List.mem_of_getElem? (i := 1) rfl⟩, List.forall_mem_cons.mpr ⟨⟨⟨okm_9.1, okm_9.2.1, okm_9.2.2.1, okm_9.2.2.2, Nat.le_of_ble_eq_true rfl, Nat.le_of_ble_eq_true rfl, Or.inl (tb1 159 rfl rfl)⟩, Nat.le_of_ble_eq_true rfl, oks_9⟩, List.forall_mem_cons.mpr ⟨trivial, List.forall_mem_cons.mpr ⟨rfl, fun _ h => absurd h List.not_mem_nil⟩⟩⟩⟩⟩⟩), fun _ h => absurd h List.not_mem_nil⟩, by decide +kernel, rfl⟩
set_option maxRecDepth 100000 in
theorem okQ_11 : sm_Q PZ PP 11 := ⟨by decide +kernel, show ∀ ch ∈ pc_11, ∀ q ∈ ch, sm_okL PZ PP 11 q.2.1 q.2.2.2.1 q.2.2.2.2.1 q.2.2.2.2.2 from List.forall_mem_cons.mpr ⟨(List.forall_mem_cons.mpr ⟨trivial, List.forall_mem_cons.mpr ⟨trivial, List.forall_mem_cons.mpr ⟨trivial, List.forall_mem_cons.mpr ⟨⟨⟨okm_10.1, okm_10.2.1, okm_10.2.2.1, okm_10.2.2.2, Nat.le_of_ble_eq_true rfl, Nat.le_of_ble_eq_true rfl, Or.inl (tb1 154 rfl rfl)⟩, Nat.le_of_ble_eq_true rfl, oks_10⟩, List.forall_mem_cons.mpr ⟨trivial, List.forall_mem_cons.mpr ⟨trivial, List.forall_mem_cons.mpr ⟨trivial, List.forall_mem_cons.mpr ⟨trivial, List.forall_mem_cons.mpr ⟨trivial, List.forall_mem_cons.mpr ⟨trivial, List.forall_mem_cons.mpr ⟨rfl, fun _ h => absurd h List.not_mem_nil⟩⟩⟩⟩⟩⟩⟩⟩⟩⟩⟩), fun _ h => absurd h List.not_mem_nil⟩, by decide +kernel, rfl⟩
set_option maxRecDepth 100000 in
theorem okQ_12 : sm_Q PZ PP 12 := ⟨by decide +kernel, show ∀ ch ∈ pc_12, ∀ q ∈ ch, sm_okL PZ PP 12 q.2.1 q.2.2.2.1 q.2.2.2.2.1 q.2.2.2.2.2 from List.forall_mem_cons.mpr ⟨(List.forall_mem_cons.mpr ⟨trivial, List.forall_mem_cons.mpr ⟨⟨⟨okm_8.1, okm_8.2.1, okm_8.2.2.1, okm_8.2.2.2, Nat.le_of_ble_eq_true rfl, Nat.le_of_ble_eq_true rfl, Or.inl (tb1 147 rfl rfl)⟩, Nat.le_of_ble_eq_true rfl, oki_8, okv_8, rfl⟩, List.forall_mem_cons.mpr ⟨trivial, List.forall_mem_cons.mpr ⟨trivial, List.forall_mem_cons.mpr ⟨(tb4 214 rfl rfl), List.forall_mem_cons.mpr ⟨trivial, List.forall_mem_cons.mpr ⟨⟨⟨okm_11.1, okm_11.2.1, okm_11.2.2.1, okm_11.2.2.2, Nat.le_of_ble_eq_true rfl, Nat.le_of_ble_eq_true rfl, Or.inl (tb1 151 rfl rfl)⟩, Nat.le_of_ble_eq_true rfl, oks_11⟩, List.forall_mem_cons.mpr ⟨rfl, fun _ h => absurd h List.not_mem_nil⟩⟩⟩⟩⟩⟩⟩⟩), List.forall_mem_cons.mpr ⟨(List.forall_mem_cons.mpr ⟨trivial, List.forall_mem_cons.mpr ⟨(tb4 214 rfl rfl), List.forall_mem_cons.mpr ⟨trivial, List.forall_mem_cons.mpr ⟨rfl, fun _ h => absurd h List.not_mem_nil⟩⟩⟩⟩), fun _ h => absurd h List.not_mem_nil⟩⟩, by decide +kernel, rfl⟩
set_option maxRecDepth 100000 in
theorem okQ_13 : sm_Q PZ PP 13 := ⟨by decide +kernel, show ∀ ch ∈ pc_13, ∀ q ∈ ch, sm_okL PZ PP 13 q.2.1 q.2.2.2.1 q.2.2.2.2.1 q.2.2.2.2.2 from List.forall_mem_cons.mpr ⟨(List.forall_mem_cons.mpr ⟨trivial, List.forall_mem_cons.mpr ⟨trivial, List.forall_mem_cons.mpr ⟨trivial, List.forall_mem_cons.mpr ⟨trivial, List.forall_mem_cons.mpr ⟨trivial, List.forall_mem_cons.mpr ⟨trivial, List.forall_mem_cons.mpr ⟨trivial, List.forall_mem_cons.mpr ⟨trivial, fun _ h => absurd h List.not_mem_nil⟩⟩⟩⟩⟩⟩⟩⟩), List.forall_mem_cons.mpr ⟨(List.forall_mem_cons.mpr ⟨rfl, fun _ h => absurd h List.not_mem_nil⟩), fun _ h => absurd h List.not_mem_nil⟩⟩, by decide +kernel, rfl⟩
set_option maxRecDepth 100000 in
theorem okQ_14 : sm_Q PZ PP 14 := ⟨by decide +kernel, show ∀ ch ∈ pc_14, ∀ q ∈ ch, sm_okL PZ PP 14 q.2.1 q.2.2.2.1 q.2.2.2.2.1 q.2.2.2.2.2 from List.forall_mem_cons.mpr ⟨(List.forall_mem_cons.mpr ⟨trivial, List.forall_mem_cons.mpr ⟨⟨⟨okm_13.1, okm_13.2.1, okm_13.2.2.1, okm_13.2.2.2, Nat.le_of_ble_eq_true rfl, Nat.le_of_ble_eq_true rfl, Or.inr ⟨_, List.mem_of_getElem? (i := 19) rfl⟩⟩, Nat.le_of_ble_eq_true rfl, oks_13⟩, List.forall_mem_cons.mpr ⟨trivial, List.forall_mem_cons.mpr ⟨trivial, List.forall_mem_cons.mpr ⟨⟨_, rfl, Nat.le_of_ble_eq_true rfl, Or.inl (tb1 217 rfl rfl)⟩, List.forall_mem_cons.mpr ⟨trivial, List.forall_mem_cons.mpr ⟨trivial, List.forall_mem_cons.mpr ⟨trivial, List.forall_mem_cons.mpr ⟨trivial, fun _ h => absurd h List.not_mem_nil⟩⟩⟩⟩⟩⟩⟩⟩⟩), List.forall_mem_cons.mpr ⟨(List.forall_mem_cons.mpr ⟨rfl, List.forall_mem_cons.mpr ⟨trivial, List.forall_mem_cons.mpr ⟨⟨_, rfl, Nat.le_of_ble_eq_true rfl, Or.inl (tb1 216 rfl rfl)⟩, List.forall_mem_cons.mpr ⟨trivial, List.forall_mem_cons.mpr ⟨trivial, List.forall_mem_cons.mpr ⟨trivial, List.forall_mem_cons.mpr ⟨trivial, List.forall_mem_cons.mpr ⟨⟨_, rfl, Nat.le_of_ble_eq_true rfl, Or.inl (tb1 217 rfl rfl)⟩, List.forall_mem_cons.mpr ⟨trivial, fun _ h => absurd h List.not_mem_nil⟩⟩⟩⟩⟩⟩⟩⟩⟩), List.forall_mem_cons.mpr ⟨(List.forall_mem_cons.mpr ⟨trivial, List.forall_mem_cons.mpr ⟨trivial, List.forall_mem_cons.mpr ⟨trivial, List.forall_mem_cons.mpr ⟨trivial, List.forall_mem_cons.mpr ⟨trivial, List.forall_mem_cons.mpr ⟨⟨_, rfl, Nat.le_of_ble_eq_true rfl, Or.inl (tb1 217 rfl rfl)⟩, List.forall_mem_cons.mpr ⟨trivial, List.forall_mem_cons.mpr ⟨trivial, List.forall_mem_cons.mpr ⟨trivial, List.forall_mem_cons.mpr ⟨trivial, List.forall_mem_cons.mpr ⟨trivial, List.forall_mem_cons.mpr ⟨trivial, List.forall_mem_cons.mpr ⟨rfl, fun _ h => absurd h List.not_mem_nil⟩⟩⟩⟩⟩⟩⟩⟩⟩⟩⟩⟩⟩), fun _ h => absurd h List.not_mem_nil⟩⟩⟩, by decide +kernel, rfl⟩
set_option maxRecDepth 100000 in
theorem okQ_15 : sm_Q PZ PP 15 := ⟨by decide +kernel, show ∀ ch ∈ pc_15, ∀ q ∈ ch, sm_okL PZ PP 15 q.2.1 q.2.2.2.1 q.2.2.2.2.1 q.2.2.2.2.2 from List.forall_mem_cons.mpr ⟨(List.forall_mem_cons.mpr ⟨trivial, List.forall_mem_cons.mpr ⟨trivial, List.forall_mem_cons.mpr ⟨trivial, List.forall_mem_cons.mpr ⟨trivial, List.forall_mem_cons.mpr ⟨trivial, List.forall_mem_cons.mpr ⟨trivial, List.forall_mem_cons.mpr ⟨⟨⟨okm_7.1, okm_7.2.1, okm_7.2.2.1, okm_7.2.2.2, Nat.le_of_ble_eq_true rfl, Nat.le_of_ble_eq_true rfl, Or.inl (tb1 133 rfl rfl)⟩, Nat.le_of_ble_eq_true rfl, oki_7, okv_7, rfl⟩, List.forall_mem_cons.mpr ⟨trivial, List.forall_mem_cons.mpr ⟨trivial, fun _ h => absurd h List.not_mem_nil⟩⟩⟩⟩⟩⟩⟩⟩⟩), List.forall_mem_cons.mpr ⟨(List.forall_mem_cons.mpr ⟨trivial, List.forall_mem_cons.mpr ⟨⟨⟨okm_12.1, okm_12.2.1, okm_12.2.2.1, okm_12.2.2.2, Nat.le_of_ble_eq_true rfl, Nat.le_of_ble_eq_true rfl, Or.inl (tb1 143 rfl rfl)⟩, Nat.le_of_ble_eq_true rfl, oki_12, okv_12, rfl⟩, List.forall_mem_cons.mpr ⟨trivial, List.forall_mem_cons.mpr ⟨trivial, List.forall_mem_cons.mpr ⟨trivial, List.forall_mem_cons.mpr ⟨trivial, List.forall_mem_cons.mpr ⟨trivial, fun _ h => absurd h List.not_mem_nil⟩⟩⟩⟩⟩⟩⟩), List.forall_mem_cons.mpr ⟨(List.forall_mem_cons.mpr ⟨trivial, List.forall_mem_cons.mpr ⟨trivial, List.forall_mem_cons.mpr ⟨trivial, List.forall_mem_cons.mpr ⟨trivial, List.forall_mem_cons.mpr ⟨trivial, List.forall_mem_cons.mpr ⟨trivial, List.forall_mem_cons.mpr ⟨trivial, List.forall_mem_cons.mpr ⟨⟨⟨okm_14.1, okm_14.2.1, okm_14.2.2.1, okm_14.2.2.2, Nat.le_of_ble_eq_true rfl, Nat.le_of_ble_eq_true rfl, Or.inl (tb1 181 rfl rfl)⟩, Nat.le_of_ble_eq_true rfl, oki_14, okv_14, ⟨_, rfl, rfl⟩⟩, fun _ h => absurd h List.not_mem_nil⟩⟩⟩⟩⟩⟩⟩⟩), List.forall_mem_cons.mpr ⟨(List.forall_mem_cons.mpr ⟨trivial, List.forall_mem_cons.mpr ⟨trivial, List.forall_mem_cons.mpr ⟨rfl, fun _ h => absurd h List.not_mem_nil⟩⟩⟩), fun _ h => absurd h List.not_mem_nil⟩⟩⟩⟩, by decide +kernel, rfl⟩
set_option maxRecDepth 100000 in
theorem okQ_16 : sm_Q PZ PP 16 := ⟨by decide +kernel, show ∀ ch ∈ pc_16, ∀ q ∈ ch, sm_okL PZ PP 16 q.2.1 q.2.2.2.1 q.2.2.2.2.1 q.2.2.2.2.2 from List.forall_mem_cons.mpr ⟨(List.forall_mem_cons.mpr ⟨trivial, List.forall_mem_cons.mpr ⟨⟨⟨okm_13.1, okm_13.2.1, okm_13.2.2.1, okm_13.2.2.2, Nat.le_of_ble_eq_true rfl, Nat.le_of_ble_eq_true rfl, Or.inr ⟨_, List.mem_of_getElem? (i := 19) rfl⟩⟩, Nat.le_of_ble_eq_true rfl, oks_13⟩, List.forall_mem_cons.mpr ⟨trivial, List.forall_mem_cons.mpr ⟨trivial, List.forall_mem_cons.mpr ⟨⟨_, rfl, Nat.le_of_ble_eq_true rfl, Or.inl (tb1 217 rfl rfl)⟩, List.forall_mem_cons.mpr ⟨trivial, List.forall_mem_cons.mpr ⟨trivial, List.forall_mem_cons.mpr ⟨trivial, fun _ h => absurd h List.not_mem_nil⟩⟩⟩⟩⟩⟩⟩⟩), List.forall_mem_cons.mpr ⟨(List.forall_mem_cons.mpr ⟨trivial, List.forall_mem_cons.mpr ⟨rfl, fun _ h => absurd h List.not_mem_nil⟩⟩), fun _ h => absurd h List.not_mem_nil⟩⟩, by decide +kernel, rfl⟩
set_option maxRecDepth 100000 in
theorem okQ_17 : sm_Q PZ PP 17 := ⟨by decide +kernel, show ∀ ch ∈ pc_17, ∀ q ∈ ch, sm_okL PZ PP 17 q.2.1 q.2.2.2.1 q.2.2.2.2.1 q.2.2.2.2.2 from List.forall_mem_cons.mpr ⟨(List.forall_mem_cons.mpr ⟨trivial, List.forall_mem_cons.mpr ⟨⟨⟨okm_13.1, okm_13.2.1, okm_13.2.2.1, okm_13.2.2.2, Nat.le_of_ble_eq_true rfl, Nat.le_of_ble_eq_true rfl, Or.inr ⟨_, List.mem_of_getElem? (i := 19) rfl⟩⟩, Nat.le_of_ble_eq_true rfl, oks_13⟩, List.forall_mem_cons.mpr ⟨trivial, List.forall_mem_cons.mpr ⟨trivial, List.forall_mem_cons.mpr ⟨trivial, List.forall_mem_cons.mpr ⟨trivial, List.forall_mem_cons.mpr ⟨trivial, List.forall_mem_cons.mpr ⟨⟨_, rfl, Nat.le_of_ble_eq_true rfl, Or.inl (tb1 217 rfl rfl)⟩, fun _ h => absurd h List.not_mem_nil⟩⟩⟩⟩⟩⟩⟩⟩), List.forall_mem_cons.mpr ⟨(List.forall_mem_cons.mpr ⟨trivial, List.forall_mem_cons.mpr ⟨trivial, List.forall_mem_cons.mpr ⟨trivial, List.forall_mem_cons.mpr ⟨trivial, List.forall_mem_cons.mpr ⟨trivial, List.forall_mem_cons.mpr ⟨trivial, List.forall_mem_cons.mpr ⟨trivial, List.forall_mem_cons.mpr ⟨rfl, List.forall_mem_cons.mpr ⟨trivial, List.forall_mem_cons.mpr ⟨⟨_, rfl, Nat.le_of_ble_eq_true rfl, Or.inl (tb1 216 rfl rfl)⟩, fun _ h => absurd h List.not_mem_nil⟩⟩⟩⟩⟩⟩⟩⟩⟩⟩), List.forall_mem_cons.mpr ⟨(List.forall_mem_cons.mpr ⟨trivial, List.forall_mem_cons.mpr ⟨trivial, List.forall_mem_cons.mpr ⟨trivial, List.forall_mem_cons.mpr ⟨trivial, List.forall_mem_cons.mpr ⟨trivial, List.forall_mem_cons.mpr ⟨trivial, List.forall_mem_cons.mpr ⟨rfl, fun _ h => absurd h List.not_mem_nil⟩⟩⟩⟩⟩⟩⟩), fun _ h => absurd h List.not_mem_nil⟩⟩⟩, by decide +kernel, rfl⟩
set_option maxRecDepth 100000 in
theorem okQ_18 : sm_Q PZ PP 18 := ⟨by decide +kernel, show ∀ ch ∈ pc_18, ∀ q ∈ ch, sm_okL PZ PP 18 q.2.1 q.2.2.2.1 q.2.2.2.2.1 q.2.2.2.2.2 from List.forall_mem_cons.mpr ⟨(List.forall_mem_cons.mpr ⟨trivial, List.forall_mem_cons.mpr ⟨trivial, List.forall_mem_cons.mpr ⟨⟨⟨okm_16.1, okm_16.2.1, okm_16.2.2.1, okm_16.2.2.2, Nat.le_of_ble_eq_true rfl, Nat.le_of_ble_eq_true rfl, Or.inl (tb1 198 rfl rfl)⟩, Nat.le_of_ble_eq_true rfl, oki_16, okv_16, ⟨_, rfl, rfl⟩⟩, List.forall_mem_cons.mpr ⟨trivial, List.forall_mem_cons.mpr ⟨trivial, List.forall_mem_cons.mpr ⟨trivial, List.forall_mem_cons.mpr ⟨trivial, List.forall_mem_cons.mpr ⟨trivial, List.forall_mem_cons.mpr ⟨trivial, List.forall_mem_cons.mpr ⟨trivial, fun _ h => absurd h List.not_mem_nil⟩⟩⟩⟩⟩⟩⟩⟩⟩⟩), List.forall_mem_cons.mpr ⟨(List.forall_mem_cons.mpr ⟨trivial, List.forall_mem_cons.mpr ⟨trivial, List.forall_mem_cons.mpr ⟨trivial, List.forall_mem_cons.mpr ⟨trivial, List.forall_mem_cons.mpr ⟨⟨⟨okm_17.1, okm_17.2.1, okm_17.2.2.1, okm_17.2.2.2, Nat.le_of_ble_eq_true rfl, Nat.le_of_ble_eq_true rfl, Or.inl (tb1 202 rfl rfl)⟩, Nat.le_of_ble_eq_true rfl, oki_17, okv_17, ⟨_, rfl, rfl⟩⟩, List.forall_mem_cons.mpr ⟨trivial, List.forall_mem_cons.mpr ⟨⟨⟨okm_14.1, okm_14.2.1, okm_14.2.2.1, okm_14.2.2.2, Nat.le_of_ble_eq_true rfl, Nat.le_of_ble_eq_true rfl, Or.inl (tb1 181 rfl rfl)⟩, Nat.le_of_ble_eq_true rfl, oki_14, okv_14, ⟨_, rfl, rfl⟩⟩, List.forall_mem_cons.mpr ⟨trivial, List.forall_mem_cons.mpr ⟨trivial, fun _ h => absurd h List.not_mem_nil⟩⟩⟩⟩⟩⟩⟩⟩⟩), List.forall_mem_cons.mpr ⟨(List.forall_mem_cons.mpr ⟨rfl, fun _ h => absurd h List.not_mem_nil⟩), fun _ h => absurd h List.not_mem_nil⟩⟩⟩, by decide +kernel, rfl⟩
set_option maxRecDepth 100000 in
theorem okQ_19 : sm_Q PZ PP 19 := ⟨by decide +kernel, show ∀ ch ∈ pc_19, ∀ q ∈ ch, sm_okL PZ PP 19 q.2.1 q.2.2.2.1 q.2.2.2.2.1 q.2.2.2.2.2 from List.forall_mem_cons.mpr ⟨(List.forall_mem_cons.mpr ⟨trivial, List.forall_mem_cons.mpr ⟨trivial, List.forall_mem_cons.mpr ⟨trivial, List.forall_mem_cons.mpr ⟨trivial, List.forall_mem_cons.mpr ⟨trivial, List.forall_mem_cons.mpr ⟨trivial, List.forall_mem_cons.mpr ⟨trivial, List.forall_mem_cons.mpr ⟨trivial, List.forall_mem_cons.mpr ⟨⟨_, List.mem_of_getElem? (i := 2) rfl⟩, List.forall_mem_cons.mpr ⟨trivial, List.forall_mem_cons.mpr ⟨trivial, fun _ h => absurd h List.not_mem_nil⟩⟩⟩⟩⟩⟩⟩⟩⟩⟩⟩), List.forall_mem_cons.mpr ⟨(List.forall_mem_cons.mpr ⟨trivial, List.forall_mem_cons.mpr ⟨trivial, List.forall_mem_cons.mpr ⟨trivial, List.forall_mem_cons.mpr ⟨⟨⟨okm_15.1, okm_15.2.1, okm_15.2.2.1, okm_15.2.2.2, Nat.le_of_ble_eq_true rfl, Nat.le_of_ble_eq_true rfl, Or.inl (tb1 129 rfl rfl)⟩, Nat.le_of_ble_eq_true rfl, oki_15, okv_15, ⟨_, rfl, rfl⟩⟩, List.forall_mem_cons.mpr ⟨rfl, List.forall_mem_cons.mpr ⟨trivial, List.forall_mem_cons.mpr ⟨trivial, List.forall_mem_cons.mpr ⟨trivial, List.forall_mem_cons.mpr ⟨trivial, List.forall_mem_cons.mpr ⟨trivial, List.forall_mem_cons.mpr ⟨⟨⟨okm_18.1, okm_18.2.1, okm_18.2.2.1, okm_18.2.2.2, Nat.le_of_ble_eq_true rfl, Nat.le_of_ble_eq_true rfl, Or.inl (tb1 194 rfl rfl)⟩, Nat.le_of_ble_eq_true rfl, oki_18, okv_18, ⟨_, rfl, rfl⟩⟩, List.forall_mem_cons.mpr ⟨trivial, fun _ h => absurd h List.not_mem_nil⟩⟩⟩⟩⟩⟩⟩⟩⟩⟩⟩⟩), List.forall_mem_cons.mpr ⟨(List.forall_mem_cons.mpr ⟨trivial, List.forall_mem_cons.mpr ⟨trivial, List.forall_mem_cons.mpr ⟨⟨⟨okm_14.1, okm_14.2.1, okm_14.2.2.1, okm_14.2.2.2, Nat.le_of_ble_eq_true rfl, Nat.le_of_ble_eq_true rfl, Or.inl (tb1 181 rfl rfl)⟩, Nat.le_of_ble_eq_true rfl, oki_14, okv_14, ⟨_, rfl, rfl⟩⟩, List.forall_mem_cons.mpr ⟨trivial, List.forall_mem_cons.mpr ⟨trivial, List.forall_mem_cons.mpr ⟨trivial, List.forall_mem_cons.mpr ⟨⟨⟨okm_18.1, okm_18.2.1, okm_18.2.2.1, okm_18.2.2.2, Nat.le_of_ble_eq_true rfl, Nat.le_of_ble_eq_true rfl, Or.inl (tb1 194 rfl rfl)⟩, Nat.le_of_ble_eq_true rfl, oki_18, okv_18, ⟨_, rfl, rfl⟩⟩, List.forall_mem_cons.mpr ⟨rfl, fun _ h => absurd h List.not_mem_nil⟩⟩⟩⟩⟩⟩⟩⟩), fun _ h => absurd h List.not_mem_nil⟩⟩⟩, by decide +kernel, rfl⟩
set_option maxRecDepth 100000 in
theorem okQ_20 : sm_Q PZ PP 20 := ⟨by decide +kernel, show ∀ ch ∈ pc_20, ∀ q ∈ ch, sm_okL PZ PP 20 q.2.1 q.2.2.2.1 q.2.2.2.2.1 q.2.2.2.2.2 from List.forall_mem_cons.mpr ⟨(List.forall_mem_cons.mpr ⟨trivial, List.forall_mem_cons.mpr ⟨trivial, List.forall_mem_cons.mpr ⟨trivial, List.forall_mem_cons.mpr ⟨trivial, List.forall_mem_cons.mpr ⟨⟨⟨okm_7.1, okm_7.2.1, okm_7.2.2.1, okm_7.2.2.2, Nat.le_of_ble_eq_true rfl, Nat.le_of_ble_eq_true rfl, Or.inl (tb1 133 rfl rfl)⟩, Nat.le_of_ble_eq_true rfl, oki_7, okv_7, rfl⟩, List.forall_mem_cons.mpr ⟨trivial, List.forall_mem_cons.mpr ⟨trivial, List.forall_mem_cons.mpr ⟨trivial, List.forall_mem_cons.mpr ⟨trivial, List.forall_mem_cons.mpr ⟨trivial, List.forall_mem_cons.mpr ⟨⟨⟨okm_12.1, okm_12.2.1, okm_12.2.2.1, okm_12.2.2.2, Nat.le_of_ble_eq_true rfl, Nat.le_of_ble_eq_true rfl, Or.inl (tb1 143 rfl rfl)⟩, Nat.le_of_ble_eq_true rfl, oki_12, okv_12, rfl⟩, fun _ h => absurd h List.not_mem_nil⟩⟩⟩⟩⟩⟩⟩⟩⟩⟩⟩), List.forall_mem_cons.mpr ⟨(List.forall_mem_cons.mpr ⟨⟨⟨okm_14.1, okm_14.2.1, okm_14.2.2.1, okm_14.2.2.2, Nat.le_of_ble_eq_true rfl, Nat.le_of_ble_eq_true rfl, Or.inl (tb1 181 rfl rfl)⟩, Nat.le_of_ble_eq_true rfl, oki_14, okv_14, ⟨_, rfl, rfl⟩⟩, List.forall_mem_cons.mpr ⟨trivial, List.forall_mem_cons.mpr ⟨trivial, List.forall_mem_cons.mpr ⟨rfl, fun _ h => absurd h List.not_mem_nil⟩⟩⟩⟩), fun _ h => absurd h List.not_mem_nil⟩⟩, by decide +kernel, rfl⟩
set_option maxRecDepth 100000 in
theorem okQ_21 : sm_Q PZ PP 21 := ⟨by decide +kernel, show ∀ ch ∈ pc_21, ∀ q ∈ ch, sm_okL PZ PP 21 q.2.1 q.2.2.2.1 q.2.2.2.2.1 q.2.2.2.2.2 from List.forall_mem_cons.mpr ⟨(List.forall_mem_cons.mpr ⟨trivial, List.forall_mem_cons.mpr ⟨trivial, List.forall_mem_cons.mpr ⟨trivial, List.forall_mem_cons.mpr ⟨trivial, List.forall_mem_cons.mpr ⟨trivial, List.forall_mem_cons.mpr ⟨trivial, List.forall_mem_cons.mpr ⟨trivial, List.forall_mem_cons.mpr ⟨trivial, List.forall_mem_cons.mpr ⟨trivial, List.forall_mem_cons.mpr ⟨⟨⟨okm_18.1, okm_18.2.1, okm_18.2.2.1, okm_18.2.2.2, Nat.le_of_ble_eq_true rfl, Nat.le_of_ble_eq_true rfl, Or.inl (tb1 194 rfl rfl)⟩, Nat.le_of_ble_eq_true rfl, oki_18, okv_18, ⟨_, rfl, rfl⟩⟩, List.forall_mem_cons.mpr ⟨trivial, List.forall_mem_cons.mpr ⟨trivial, fun _ h => absurd h List.not_mem_nil⟩⟩⟩⟩⟩⟩⟩⟩⟩⟩⟩⟩), List.forall_mem_cons.mpr ⟨(List.forall_mem_cons.mpr ⟨⟨_, List.mem_of_getElem? (i := 3) rfl⟩, List.forall_mem_cons.mpr ⟨⟨⟨okm_20.1, okm_20.2.1, okm_20.2.2.1, okm_20.2.2.2, Nat.le_of_ble_eq_true rfl, Nat.le_of_ble_eq_true rfl, Or.inl (tb1 211 rfl rfl)⟩, Nat.le_of_ble_eq_true rfl, oki_20, okv_20, ⟨_, rfl, rfl⟩⟩, List.forall_mem_cons.mpr ⟨trivial, List.forall_mem_cons.mpr ⟨trivial, List.forall_mem_cons.mpr ⟨trivial, List.forall_mem_cons.mpr ⟨trivial, List.forall_mem_cons.mpr ⟨⟨_, List.mem_of_getElem? (i := 4) rfl⟩, List.forall_mem_cons.mpr ⟨⟨⟨okm_20.1, okm_20.2.1, okm_20.2.2.1, okm_20.2.2.2, Nat.le_of_ble_eq_true rfl, Nat.le_of_ble_eq_true rfl, Or.inl (tb1 211 rfl rfl)⟩, Nat.le_of_ble_eq_true rfl, oki_20, okv_20, ⟨_, rfl, rfl⟩⟩, fun _ h => absurd h List.not_mem_nil⟩⟩⟩⟩⟩⟩⟩⟩), List.forall_mem_cons.mpr ⟨(List.forall_mem_cons.mpr ⟨trivial, List.forall_mem_cons.mpr ⟨trivial, List.forall_mem_cons.mpr ⟨trivial, List.forall_mem_cons.mpr ⟨⟨⟨okm_18.1, okm_18.2.1, okm_18.2.2.1, okm_18.2.2.2, Nat.le_of_ble_eq_true rfl, Nat.le_of_ble_eq_true rfl, Or.inl (tb1 194 rfl rfl)⟩, Nat.le_of_ble_eq_true rfl, oki_18, okv_18, ⟨_, rfl, rfl⟩⟩, List.forall_mem_cons.mpr ⟨rfl, fun _ h => absurd h List.not_mem_nil⟩⟩⟩⟩⟩), fun _ h => absurd h List.not_mem_nil⟩⟩⟩, by decide +kernel, rfl⟩
set_option maxRecDepth 100000 in
theorem okQ_22 : sm_Q PZ PP 22 := ⟨by decide +kernel, show ∀ ch ∈ pc_22, ∀ q ∈ ch, sm_okL PZ PP 22 q.2.1 q.2.2.2.1 q.2.2.2.2.1 q.2.2.2.2.2 from List.forall_mem_cons.mpr ⟨(List.forall_mem_cons.mpr ⟨trivial, List.forall_mem_cons.mpr ⟨trivial, List.forall_mem_cons.mpr ⟨trivial, List.forall_mem_cons.mpr ⟨trivial, List.forall_mem_cons.mpr ⟨trivial, List.forall_mem_cons.mpr ⟨⟨_, List.mem_of_getElem? (i := 0) rfl⟩, List.forall_mem_cons.mpr ⟨trivial, List.forall_mem_cons.mpr ⟨⟨⟨okm_15.1, okm_15.2.1, okm_15.2.2.1, okm_15.2.2.2, Nat.le_of_ble_eq_true rfl, Nat.le_of_ble_eq_true rfl, Or.inl (tb1 129 rfl rfl)⟩, Nat.le_of_ble_eq_true rfl, oki_15, okv_15, ⟨_, rfl, rfl⟩⟩, List.forall_mem_cons.mpr ⟨trivial, fun _ h => absurd h List.not_mem_nil⟩⟩⟩⟩⟩⟩⟩⟩⟩), List.forall_mem_cons.mpr ⟨(List.forall_mem_cons.mpr ⟨trivial, List.forall_mem_cons.mpr ⟨trivial, List.forall_mem_cons.mpr ⟨trivial, List.forall_mem_cons.mpr ⟨trivial, List.forall_mem_cons.mpr ⟨trivial, List.forall_mem_cons.mpr ⟨⟨_, List.mem_of_getElem? (i := 1) rfl⟩, List.forall_mem_cons.mpr ⟨trivial, List.forall_mem_cons.mpr ⟨trivial, List.forall_mem_cons.mpr ⟨trivial, List.forall_mem_cons.mpr ⟨⟨⟨okm_15.1, okm_15.2.1, okm_15.2.2.1, okm_15.2.2.2, Nat.le_of_ble_eq_true rfl, Nat.le_of_ble_eq_true rfl, Or.inl (tb1 129 rfl rfl)⟩, Nat.le_of_ble_eq_true rfl, oki_15, okv_15, ⟨_, rfl, rfl⟩⟩, fun _ h => absurd h List.not_mem_nil⟩⟩⟩⟩⟩⟩⟩⟩⟩⟩), List.forall_mem_cons.mpr ⟨(List.forall_mem_cons.mpr ⟨trivial, List.forall_mem_cons.mpr ⟨trivial, List.forall_mem_cons.mpr ⟨trivial, List.forall_mem_cons.mpr ⟨trivial, List.forall_mem_cons.mpr ⟨trivial, List.forall_mem_cons.mpr ⟨trivial, List.forall_mem_cons.mpr ⟨⟨⟨okm_19.1, okm_19.2.1, okm_19.2.2.1, okm_19.2.2.2, Nat.le_of_ble_eq_true rfl, Nat.le_of_ble_eq_true rfl, Or.inl (tb1 189 rfl rfl)⟩, Nat.le_of_ble_eq_true rfl, oki_19, okv_19, ⟨_, rfl, rfl⟩⟩, fun _ h => absurd h List.not_mem_nil⟩⟩⟩⟩⟩⟩⟩), List.forall_mem_cons.mpr ⟨(List.forall_mem_cons.mpr ⟨trivial, List.forall_mem_cons.mpr ⟨trivial, List.forall_mem_cons.mpr ⟨trivial, List.forall_mem_cons.mpr ⟨⟨⟨okm_21.1, okm_21.2.1, okm_21.2.2.1, okm_21.2.2.2, Nat.le_of_ble_eq_true rfl, Nat.le_of_ble_eq_true rfl, Or.inl (tb1 206 rfl rfl)⟩, Nat.le_of_ble_eq_true rfl, oki_21, okv_21, ⟨_, rfl, rfl⟩⟩, List.forall_mem_cons.mpr ⟨rfl, fun _ h => absurd h List.not_mem_nil⟩⟩⟩⟩⟩), fun _ h => absurd h List.not_mem_nil⟩⟩⟩⟩, by decide +kernel, rfl⟩
set_option maxRecDepth 100000 in
theorem okQ_23 : sm_Q PZ PP 23 := ⟨by decide +kernel, show ∀ ch ∈ pc_23, ∀ q ∈ ch, sm_okL PZ PP 23 q.2.1 q.2.2.2.1 q.2.2.2.2.1 q.2.2.2.2.2 from List.forall_mem_cons.mpr ⟨(List.forall_mem_cons.mpr ⟨trivial, List.forall_mem_cons.mpr ⟨⟨(tb1 123 rfl rfl), okobj.1, okobj.2, Nat.le_of_ble_eq_true rfl, Nat.le_of_ble_eq_true rfl⟩, List.forall_mem_cons.mpr ⟨trivial, List.forall_mem_cons.mpr ⟨trivial, List.forall_mem_cons.mpr ⟨(tb1 40 rfl rfl), List.forall_mem_cons.mpr ⟨⟨_, rfl, Nat.le_of_ble_eq_true rfl, ⟨.array .char, by decide +kernel, Or.inr ⟨_, rfl⟩⟩, Or.inr ⟨rfl, rfl, rfl, (tb1 216 rfl rfl)⟩⟩, List.forall_mem_cons.mpr ⟨trivial, List.forall_mem_cons.mpr ⟨trivial, fun _ h => absurd h List.not_mem_nil⟩⟩⟩⟩⟩⟩⟩⟩), List.forall_mem_cons.mpr ⟨(List.forall_mem_cons.mpr ⟨(tb1 224 rfl rfl), List.forall_mem_cons.mpr ⟨⟨_, rfl, Nat.le_of_ble_eq_true rfl, ⟨.array .int, by decide +kernel, Or.inr ⟨_, rfl⟩⟩, Or.inr ⟨rfl, rfl, rfl, (tb1 217 rfl rfl)⟩⟩, List.forall_mem_cons.mpr ⟨trivial, List.forall_mem_cons.mpr ⟨trivial, List.forall_mem_cons.mpr ⟨trivial, List.forall_mem_cons.mpr ⟨trivial, List.forall_mem_cons.mpr ⟨trivial, List.forall_mem_cons.mpr ⟨trivial, fun _ h => absurd h List.not_mem_nil⟩⟩⟩⟩⟩⟩⟩⟩), List.forall_mem_cons.mpr ⟨(List.forall_mem_cons.mpr ⟨trivial, List.forall_mem_cons.mpr ⟨⟨⟨okm_22.1, okm_22.2.1, okm_22.2.2.1, okm_22.2.2.2, Nat.le_of_ble_eq_true rfl, Nat.le_of_ble_eq_true rfl, Or.inl (tb1 124 rfl rfl)⟩, Nat.le_of_ble_eq_true rfl, oki_22, okv_22, ⟨_, rfl, rfl⟩⟩, List.forall_mem_cons.mpr ⟨trivial, List.forall_mem_cons.mpr ⟨trivial, List.forall_mem_cons.mpr ⟨rfl, fun _ h => absurd h List.not_mem_nil⟩⟩⟩⟩⟩), fun _ h => absurd h List.not_mem_nil⟩⟩⟩, by decide +kernel, rfl⟩
set_option maxRecDepth 100000 in
theorem okQ_24 : sm_Q PZ PP 24 := ⟨by decide +kernel, show ∀ ch ∈ pc_24, ∀ q ∈ ch, sm_okL PZ PP 24 q.2.1 q.2.2.2.1 q.2.2.2.2.1 q.2.2.2.2.2 from List.forall_mem_cons.mpr ⟨(List.forall_mem_cons.mpr ⟨trivial, List.forall_mem_cons.mpr ⟨⟨(tb2 0 rfl rfl), okobj.1, okobj.2, Nat.le_of_ble_eq_true rfl, Nat.le_of_ble_eq_true rfl⟩, List.forall_mem_cons.mpr ⟨trivial, List.forall_mem_cons.mpr ⟨trivial, List.forall_mem_cons.mpr ⟨(tb1 224 rfl rfl), List.forall_mem_cons.mpr ⟨⟨_, rfl, Nat.le_of_ble_eq_true rfl, ⟨.array .int, by decide +kernel, Or.inr ⟨_, rfl⟩⟩, Or.inr ⟨rfl, rfl, rfl, (tb2 1 rfl rfl)⟩⟩, List.forall_mem_cons.mpr ⟨trivial, List.forall_mem_cons.mpr ⟨trivial, fun _ h => absurd h List.not_mem_nil⟩⟩⟩⟩⟩⟩⟩⟩), List.forall_mem_cons.mpr ⟨(List.forall_mem_cons.mpr ⟨(tb1 224 rfl rfl), List.forall_mem_cons.mpr ⟨⟨_, rfl, Nat.le_of_ble_eq_true rfl, ⟨.array .int, by decide +kernel, Or.inr ⟨_, rfl⟩⟩, Or.inr ⟨rfl, rfl, rfl, (tb2 2 rfl rfl)⟩⟩, List.forall_mem_cons.mpr ⟨trivial, List.forall_mem_cons.mpr ⟨trivial, List.forall_mem_cons.mpr ⟨⟨_, rfl, Nat.le_of_ble_eq_true rfl, ⟨.int, by decide +kernel, rfl⟩, Or.inl ⟨rfl, Or.inl (tb2 3 rfl rfl)⟩⟩, List.forall_mem_cons.mpr ⟨trivial, List.forall_mem_cons.mpr ⟨trivial, List.forall_mem_cons.mpr ⟨⟨_, rfl, Nat.le_of_ble_eq_true rfl, ⟨.int, by decide +kernel, rfl⟩, Or.inl ⟨rfl, Or.inl (tb2 6 rfl rfl)⟩⟩, fun _ h => absurd h List.not_mem_nil⟩⟩⟩⟩⟩⟩⟩⟩), List.forall_mem_cons.mpr ⟨(List.forall_mem_cons.mpr ⟨trivial, List.forall_mem_cons.mpr ⟨trivial, List.forall_mem_cons.mpr ⟨⟨_, rfl, Nat.le_of_ble_eq_true rfl, ⟨.int, by decide +kernel, rfl⟩, Or.inl ⟨rfl, Or.inl (tb2 8 rfl rfl)⟩⟩, List.forall_mem_cons.mpr ⟨rfl, fun _ h => absurd h List.not_mem_nil⟩⟩⟩⟩), fun _ h => absurd h List.not_mem_nil⟩⟩⟩, by decide +kernel, rfl⟩
set_option maxRecDepth 100000 in
theorem okQ_25 : sm_Q PZ PP 25 := ⟨by decide +kernel, show ∀ ch ∈ pc_25, ∀ q ∈ ch, sm_okL PZ PP 25 q.2.1 q.2.2.2.1 q.2.2.2.2.1 q.2.2.2.2.2 from List.forall_mem_cons.mpr ⟨(List.forall_mem_cons.mpr ⟨trivial, List.forall_mem_cons.mpr ⟨⟨(tb1 231 rfl rfl), okobj.1, okobj.2, Nat.le_of_ble_eq_true rfl, Nat.le_of_ble_eq_true rfl⟩, List.forall_mem_cons.mpr ⟨trivial, List.forall_mem_cons.mpr ⟨trivial, List.forall_mem_cons.mpr ⟨⟨_, rfl, (tb1 232 rfl rfl), List.mem_of_getElem? (i := 30) rfl⟩, List.forall_mem_cons.mpr ⟨⟨_, rfl, Nat.le_of_ble_eq_true rfl, ⟨.array (.object "WornSums$Agreeing"), by decide +kernel, Or.inr ⟨_, rfl⟩⟩, Or.inr ⟨rfl, rfl, rfl, (tb2 21 rfl rfl)⟩⟩, List.forall_mem_cons.mpr ⟨trivial, List.forall_mem_cons.mpr ⟨trivial, List.forall_mem_cons.mpr ⟨⟨_, rfl, Nat.le_of_ble_eq_true rfl, ⟨.boolean, by decide +kernel, rfl⟩, Or.inl ⟨rfl, Or.inl (tb2 22 rfl rfl)⟩⟩, fun _ h => absurd h List.not_mem_nil⟩⟩⟩⟩⟩⟩⟩⟩⟩), List.forall_mem_cons.mpr ⟨(List.forall_mem_cons.mpr ⟨trivial, List.forall_mem_cons.mpr ⟨trivial, List.forall_mem_cons.mpr ⟨trivial, List.forall_mem_cons.mpr ⟨⟨(tb1 234 rfl rfl), List.mem_of_getElem? (i := 31) rfl, (tb1 224 rfl rfl)⟩, List.forall_mem_cons.mpr ⟨⟨_, rfl, Nat.le_of_ble_eq_true rfl, ⟨.array (.array .int), by decide +kernel, Or.inr ⟨_, rfl⟩⟩, Or.inr ⟨rfl, rfl, rfl, (tb2 23 rfl rfl)⟩⟩, List.forall_mem_cons.mpr ⟨trivial, fun _ h => absurd h List.not_mem_nil⟩⟩⟩⟩⟩⟩), List.forall_mem_cons.mpr ⟨(List.forall_mem_cons.mpr ⟨trivial, List.forall_mem_cons.mpr ⟨(tb1 224 rfl rfl), List.forall_mem_cons.mpr ⟨⟨_, rfl, Nat.le_of_ble_eq_true rfl, ⟨.array .int, by decide +kernel, Or.inr ⟨_, rfl⟩⟩, Or.inr ⟨rfl, rfl, rfl, (tb2 24 rfl rfl)⟩⟩, List.forall_mem_cons.mpr ⟨trivial, List.forall_mem_cons.mpr ⟨trivial, List.forall_mem_cons.mpr ⟨⟨_, rfl, Nat.le_of_ble_eq_true rfl, ⟨.int, by decide +kernel, rfl⟩, Or.inl ⟨rfl, Or.inl (tb2 25 rfl rfl)⟩⟩, List.forall_mem_cons.mpr ⟨trivial, List.forall_mem_cons.mpr ⟨trivial, List.forall_mem_cons.mpr ⟨⟨_, rfl, Nat.le_of_ble_eq_true rfl, ⟨.boolean, by decide +kernel, rfl⟩, Or.inl ⟨rfl, Or.inl (tb2 27 rfl rfl)⟩⟩, fun _ h => absurd h List.not_mem_nil⟩⟩⟩⟩⟩⟩⟩⟩⟩), List.forall_mem_cons.mpr ⟨(List.forall_mem_cons.mpr ⟨trivial, List.forall_mem_cons.mpr ⟨trivial, List.forall_mem_cons.mpr ⟨(tb1 223 rfl rfl), List.forall_mem_cons.mpr ⟨⟨_, rfl, Nat.le_of_ble_eq_true rfl, ⟨.array .boolean, by decide +kernel, Or.inr ⟨_, rfl⟩⟩, Or.inr ⟨rfl, rfl, rfl, (tb2 28 rfl rfl)⟩⟩, List.forall_mem_cons.mpr ⟨trivial, List.forall_mem_cons.mpr ⟨trivial, List.forall_mem_cons.mpr ⟨(tb1 224 rfl rfl), fun _ h => absurd h List.not_mem_nil⟩⟩⟩⟩⟩⟩⟩), List.forall_mem_cons.mpr ⟨(List.forall_mem_cons.mpr ⟨⟨_, rfl, Nat.le_of_ble_eq_true rfl, ⟨.array .int, by decide +kernel, Or.inr ⟨_, rfl⟩⟩, Or.inr ⟨rfl, rfl, rfl, (tb2 29 rfl rfl)⟩⟩, List.forall_mem_cons.mpr ⟨trivial, List.forall_mem_cons.mpr ⟨trivial, List.forall_mem_cons.mpr ⟨trivial, List.forall_mem_cons.mpr ⟨trivial, List.forall_mem_cons.mpr ⟨⟨_, rfl, Nat.le_of_ble_eq_true rfl, Or.inl (tb2 21 rfl rfl)⟩, List.forall_mem_cons.mpr ⟨trivial, List.forall_mem_cons.mpr ⟨trivial, List.forall_mem_cons.mpr ⟨trivial, List.forall_mem_cons.mpr ⟨⟨_, rfl, Nat.le_of_ble_eq_true rfl, Or.inl (tb2 21 rfl rfl)⟩, fun _ h => absurd h List.not_mem_nil⟩⟩⟩⟩⟩⟩⟩⟩⟩⟩), List.forall_mem_cons.mpr ⟨(List.forall_mem_cons.mpr ⟨trivial, List.forall_mem_cons.mpr ⟨⟨_, rfl, (tb1 232 rfl rfl), (tb1 236 rfl rfl), (tb1 13 rfl rfl)⟩, List.forall_mem_cons.mpr ⟨trivial, List.forall_mem_cons.mpr ⟨⟨⟨okm_24.1, okm_24.2.1, okm_24.2.2.1, okm_24.2.2.2, Nat.le_of_ble_eq_true rfl, Nat.le_of_ble_eq_true rfl, Or.inr ⟨_, List.mem_of_getElem? (i := 20) rfl⟩⟩, Nat.le_of_ble_eq_true rfl, oki_24, rfl, rfl⟩, List.forall_mem_cons.mpr ⟨trivial, List.forall_mem_cons.mpr ⟨trivial, List.forall_mem_cons.mpr ⟨trivial, fun _ h => absurd h List.not_mem_nil⟩⟩⟩⟩⟩⟩⟩), List.forall_mem_cons.mpr ⟨(List.forall_mem_cons.mpr ⟨rfl, fun _ h => absurd h List.not_mem_nil⟩), fun _ h => absurd h List.not_mem_nil⟩⟩⟩⟩⟩⟩⟩, by decide +kernel, rfl⟩
set_option maxRecDepth 100000 in
theorem okQ_26 : sm_Q PZ PP 26 := ⟨by decide +kernel, show ∀ ch ∈ pc_26, ∀ q ∈ ch, sm_okL PZ PP 26 q.2.1 q.2.2.2.1 q.2.2.2.2.1 q.2.2.2.2.2 from List.forall_mem_cons.mpr ⟨(List.forall_mem_cons.mpr ⟨trivial, List.forall_mem_cons.mpr ⟨⟨(tb1 22 rfl rfl), okobj.1, okobj.2, Nat.le_of_ble_eq_true rfl, Nat.le_of_ble_eq_true rfl⟩, List.forall_mem_cons.mpr ⟨trivial, List.forall_mem_cons.mpr ⟨⟨_, rfl, (tb1 25 rfl rfl), (tb1 26 rfl rfl), (tb1 2 rfl rfl)⟩, List.forall_mem_cons.mpr ⟨trivial, List.forall_mem_cons.mpr ⟨⟨⟨okm_0.1, okm_0.2.1, okm_0.2.2.1, okm_0.2.2.2, Nat.le_of_ble_eq_true rfl, Nat.le_of_ble_eq_true rfl, Or.inr ⟨_, List.mem_of_getElem? (i := 0) rfl⟩⟩, Nat.le_of_ble_eq_true rfl, oki_0, rfl, rfl⟩, List.forall_mem_cons.mpr ⟨⟨_, rfl, Nat.le_of_ble_eq_true rfl, ⟨.object "WornSums$Text", by decide +kernel, Or.inl ⟨_, rfl⟩⟩, Or.inr ⟨rfl, rfl, rfl, (tb2 47 rfl rfl)⟩⟩, List.forall_mem_cons.mpr ⟨trivial, fun _ h => absurd h List.not_mem_nil⟩⟩⟩⟩⟩⟩⟩⟩), List.forall_mem_cons.mpr ⟨(List.forall_mem_cons.mpr ⟨⟨_, rfl, (tb1 41 rfl rfl), (tb1 42 rfl rfl), (tb1 3 rfl rfl)⟩, List.forall_mem_cons.mpr ⟨trivial, List.forall_mem_cons.mpr ⟨⟨⟨okm_3.1, okm_3.2.1, okm_3.2.2.1, okm_3.2.2.2, Nat.le_of_ble_eq_true rfl, Nat.le_of_ble_eq_true rfl, Or.inr ⟨_, List.mem_of_getElem? (i := 3) rfl⟩⟩, Nat.le_of_ble_eq_true rfl, oki_3, rfl, rfl⟩, List.forall_mem_cons.mpr ⟨⟨_, rfl, Nat.le_of_ble_eq_true rfl, ⟨.object "WornSums$Sheet", by decide +kernel, Or.inl ⟨_, rfl⟩⟩, Or.inr ⟨rfl, rfl, rfl, (tb2 48 rfl rfl)⟩⟩, List.forall_mem_cons.mpr ⟨trivial, List.forall_mem_cons.mpr ⟨⟨_, rfl, (tb1 95 rfl rfl), (tb1 96 rfl rfl), (tb1 6 rfl rfl)⟩, List.forall_mem_cons.mpr ⟨trivial, List.forall_mem_cons.mpr ⟨⟨⟨okm_5.1, okm_5.2.1, okm_5.2.2.1, okm_5.2.2.2, Nat.le_of_ble_eq_true rfl, Nat.le_of_ble_eq_true rfl, Or.inr ⟨_, List.mem_of_getElem? (i := 16) rfl⟩⟩, Nat.le_of_ble_eq_true rfl, oki_5, rfl, rfl⟩, fun _ h => absurd h List.not_mem_nil⟩⟩⟩⟩⟩⟩⟩⟩), List.forall_mem_cons.mpr ⟨(List.forall_mem_cons.mpr ⟨⟨_, rfl, Nat.le_of_ble_eq_true rfl, ⟨.object "WornSums$History", by decide +kernel, Or.inl ⟨_, rfl⟩⟩, Or.inr ⟨rfl, rfl, rfl, (tb2 49 rfl rfl)⟩⟩, List.forall_mem_cons.mpr ⟨trivial, List.forall_mem_cons.mpr ⟨trivial, List.forall_mem_cons.mpr ⟨⟨⟨okm_4.1, okm_4.2.1, okm_4.2.2.1, okm_4.2.2.2, Nat.le_of_ble_eq_true rfl, Nat.le_of_ble_eq_true rfl, Or.inl (tb1 117 rfl rfl)⟩, Nat.le_of_ble_eq_true rfl, oks_4⟩, List.forall_mem_cons.mpr ⟨⟨_, rfl, Nat.le_of_ble_eq_true rfl, ⟨.array (.object "WornSums$Sheet"), by decide +kernel, Or.inr ⟨_, rfl⟩⟩, Or.inr ⟨rfl, rfl, rfl, (tb2 50 rfl rfl)⟩⟩, List.forall_mem_cons.mpr ⟨trivial, List.forall_mem_cons.mpr ⟨trivial, List.forall_mem_cons.mpr ⟨(tb1 223 rfl rfl), fun _ h => absurd h List.not_mem_nil⟩⟩⟩⟩⟩⟩⟩⟩), List.forall_mem_cons.mpr ⟨(List.forall_mem_cons.mpr ⟨⟨_, rfl, Nat.le_of_ble_eq_true rfl, ⟨.array .boolean, by decide +kernel, Or.inr ⟨_, rfl⟩⟩, Or.inr ⟨rfl, rfl, rfl, (tb2 51 rfl rfl)⟩⟩, List.forall_mem_cons.mpr ⟨trivial, List.forall_mem_cons.mpr ⟨⟨_, rfl, (tb1 118 rfl rfl), (tb1 119 rfl rfl), (tb1 7 rfl rfl)⟩, List.forall_mem_cons.mpr ⟨trivial, List.forall_mem_cons.mpr ⟨⟨⟨okm_23.1, okm_23.2.1, okm_23.2.2.1, okm_23.2.2.2, Nat.le_of_ble_eq_true rfl, Nat.le_of_ble_eq_true rfl, Or.inl (tb1 120 rfl rfl)⟩, Nat.le_of_ble_eq_true rfl, oki_23, rfl, rfl⟩, List.forall_mem_cons.mpr ⟨⟨_, rfl, Nat.le_of_ble_eq_true rfl, ⟨.object "WornSums$NumberWords", by decide +kernel, Or.inl ⟨_, rfl⟩⟩, Or.inr ⟨rfl, rfl, rfl, (tb2 52 rfl rfl)⟩⟩, List.forall_mem_cons.mpr ⟨trivial, fun _ h => absurd h List.not_mem_nil⟩⟩⟩⟩⟩⟩⟩), List.forall_mem_cons.mpr ⟨(List.forall_mem_cons.mpr ⟨⟨_, rfl, (tb1 226 rfl rfl), (tb1 227 rfl rfl), (tb1 12 rfl rfl)⟩, List.forall_mem_cons.mpr ⟨trivial, List.forall_mem_cons.mpr ⟨⟨⟨okm_25.1, okm_25.2.1, okm_25.2.2.1, okm_25.2.2.2, Nat.le_of_ble_eq_true rfl, Nat.le_of_ble_eq_true rfl, Or.inl (tb1 228 rfl rfl)⟩, Nat.le_of_ble_eq_true rfl, oki_25, rfl, rfl⟩, List.forall_mem_cons.mpr ⟨⟨_, rfl, Nat.le_of_ble_eq_true rfl, ⟨.object "WornSums$Findings", by decide +kernel, Or.inl ⟨_, rfl⟩⟩, Or.inr ⟨rfl, rfl, rfl, (tb2 53 rfl rfl)⟩⟩, List.forall_mem_cons.mpr ⟨rfl, fun _ h => absurd h List.not_mem_nil⟩⟩⟩⟩⟩), fun _ h => absurd h List.not_mem_nil⟩⟩⟩⟩⟩, by decide +kernel, rfl⟩
set_option maxRecDepth 100000 in
theorem okQ_27 : sm_Q PZ PP 27 := ⟨by decide +kernel, show ∀ ch ∈ pc_27, ∀ q ∈ ch, sm_okL PZ PP 27 q.2.1 q.2.2.2.1 q.2.2.2.2.1 q.2.2.2.2.2 from List.forall_mem_cons.mpr ⟨(List.forall_mem_cons.mpr ⟨trivial, List.forall_mem_cons.mpr ⟨⟨_, rfl, Nat.le_of_ble_eq_true rfl, Or.inl (tb1 32 rfl rfl)⟩, List.forall_mem_cons.mpr ⟨trivial, List.forall_mem_cons.mpr ⟨⟨_, rfl, Nat.le_of_ble_eq_true rfl, Or.inl (tb1 31 rfl rfl)⟩, List.forall_mem_cons.mpr ⟨trivial, List.forall_mem_cons.mpr ⟨trivial, List.forall_mem_cons.mpr ⟨trivial, List.forall_mem_cons.mpr ⟨rfl, List.forall_mem_cons.mpr ⟨trivial, List.forall_mem_cons.mpr ⟨⟨_, rfl, Nat.le_of_ble_eq_true rfl, Or.inl (tb1 31 rfl rfl)⟩, fun _ h => absurd h List.not_mem_nil⟩⟩⟩⟩⟩⟩⟩⟩⟩⟩), List.forall_mem_cons.mpr ⟨(List.forall_mem_cons.mpr ⟨trivial, List.forall_mem_cons.mpr ⟨⟨_, rfl, Nat.le_of_ble_eq_true rfl, Or.inl (tb1 32 rfl rfl)⟩, List.forall_mem_cons.mpr ⟨trivial, List.forall_mem_cons.mpr ⟨trivial, List.forall_mem_cons.mpr ⟨trivial, List.forall_mem_cons.mpr ⟨trivial, List.forall_mem_cons.mpr ⟨⟨_, rfl, Nat.le_of_ble_eq_true rfl, Or.inl (tb1 32 rfl rfl)⟩, List.forall_mem_cons.mpr ⟨trivial, List.forall_mem_cons.mpr ⟨trivial, List.forall_mem_cons.mpr ⟨⟨_, rfl, Nat.le_of_ble_eq_true rfl, ⟨.int, by decide +kernel, rfl⟩, Or.inl ⟨rfl, Or.inl (tb1 32 rfl rfl)⟩⟩, fun _ h => absurd h List.not_mem_nil⟩⟩⟩⟩⟩⟩⟩⟩⟩⟩), List.forall_mem_cons.mpr ⟨(List.forall_mem_cons.mpr ⟨trivial, List.forall_mem_cons.mpr ⟨rfl, fun _ h => absurd h List.not_mem_nil⟩⟩), fun _ h => absurd h List.not_mem_nil⟩⟩⟩, by decide +kernel, rfl⟩
set_option maxRecDepth 100000 in
theorem okQ_28 : sm_Q PZ PP 28 := ⟨by decide +kernel, show ∀ ch ∈ pc_28, ∀ q ∈ ch, sm_okL PZ PP 28 q.2.1 q.2.2.2.1 q.2.2.2.2.1 q.2.2.2.2.2 from List.forall_mem_cons.mpr ⟨(List.forall_mem_cons.mpr ⟨trivial, List.forall_mem_cons.mpr ⟨trivial, List.forall_mem_cons.mpr ⟨trivial, List.forall_mem_cons.mpr ⟨trivial, List.forall_mem_cons.mpr ⟨trivial, List.forall_mem_cons.mpr ⟨trivial, List.forall_mem_cons.mpr ⟨rfl, List.forall_mem_cons.mpr ⟨trivial, List.forall_mem_cons.mpr ⟨⟨_, rfl, Nat.le_of_ble_eq_true rfl, Or.inl (tb2 47 rfl rfl)⟩, fun _ h => absurd h List.not_mem_nil⟩⟩⟩⟩⟩⟩⟩⟩⟩), List.forall_mem_cons.mpr ⟨(List.forall_mem_cons.mpr ⟨trivial, List.forall_mem_cons.mpr ⟨trivial, List.forall_mem_cons.mpr ⟨⟨⟨okm_27.1, okm_27.2.1, okm_27.2.2.1, okm_27.2.2.2, Nat.le_of_ble_eq_true rfl, Nat.le_of_ble_eq_true rfl, Or.inl (tb2 73 rfl rfl)⟩, Nat.le_of_ble_eq_true rfl, oki_27, okv_27, ⟨_, rfl, rfl⟩⟩, List.forall_mem_cons.mpr ⟨trivial, List.forall_mem_cons.mpr ⟨trivial, List.forall_mem_cons.mpr ⟨⟨_, rfl, Nat.le_of_ble_eq_true rfl, Or.inl (tb2 47 rfl rfl)⟩, List.forall_mem_cons.mpr ⟨⟨_, rfl, Nat.le_of_ble_eq_true rfl, Or.inr ⟨_, List.mem_of_getElem? (i := 1) rfl⟩⟩, fun _ h => absurd h List.not_mem_nil⟩⟩⟩⟩⟩⟩⟩), List.forall_mem_cons.mpr ⟨(List.forall_mem_cons.mpr ⟨trivial, List.forall_mem_cons.mpr ⟨trivial, List.forall_mem_cons.mpr ⟨rfl, fun _ h => absurd h List.not_mem_nil⟩⟩⟩), fun _ h => absurd h List.not_mem_nil⟩⟩⟩, by decide +kernel, rfl⟩
set_option maxRecDepth 100000 in
theorem okQ_29 : sm_Q PZ PP 29 := ⟨by decide +kernel, show ∀ ch ∈ pc_29, ∀ q ∈ ch, sm_okL PZ PP 29 q.2.1 q.2.2.2.1 q.2.2.2.2.1 q.2.2.2.2.2 from List.forall_mem_cons.mpr ⟨(List.forall_mem_cons.mpr ⟨trivial, List.forall_mem_cons.mpr ⟨⟨_, rfl, Nat.le_of_ble_eq_true rfl, Or.inl (tb2 47 rfl rfl)⟩, List.forall_mem_cons.mpr ⟨⟨_, rfl, Nat.le_of_ble_eq_true rfl, Or.inr ⟨_, List.mem_of_getElem? (i := 1) rfl⟩⟩, List.forall_mem_cons.mpr ⟨trivial, List.forall_mem_cons.mpr ⟨trivial, List.forall_mem_cons.mpr ⟨⟨_, rfl, Nat.le_of_ble_eq_true rfl, Or.inl (tb2 47 rfl rfl)⟩, List.forall_mem_cons.mpr ⟨trivial, List.forall_mem_cons.mpr ⟨⟨_, rfl, Nat.le_of_ble_eq_true rfl, ⟨.int, by decide +kernel, rfl⟩, Or.inl ⟨rfl, Or.inr ⟨_, List.mem_of_getElem? (i := 1) rfl⟩⟩⟩, fun _ h => absurd h List.not_mem_nil⟩⟩⟩⟩⟩⟩⟩⟩), List.forall_mem_cons.mpr ⟨(List.forall_mem_cons.mpr ⟨trivial, List.forall_mem_cons.mpr ⟨rfl, fun _ h => absurd h List.not_mem_nil⟩⟩), fun _ h => absurd h List.not_mem_nil⟩⟩, by decide +kernel, rfl⟩
set_option maxRecDepth 100000 in
theorem okQ_30 : sm_Q PZ PP 30 := ⟨by decide +kernel, show ∀ ch ∈ pc_30, ∀ q ∈ ch, sm_okL PZ PP 30 q.2.1 q.2.2.2.1 q.2.2.2.2.1 q.2.2.2.2.2 from List.forall_mem_cons.mpr ⟨(List.forall_mem_cons.mpr ⟨trivial, List.forall_mem_cons.mpr ⟨trivial, List.forall_mem_cons.mpr ⟨trivial, List.forall_mem_cons.mpr ⟨trivial, List.forall_mem_cons.mpr ⟨⟨_, rfl, Nat.le_of_ble_eq_true rfl, Or.inl (tb1 32 rfl rfl)⟩, List.forall_mem_cons.mpr ⟨trivial, List.forall_mem_cons.mpr ⟨trivial, List.forall_mem_cons.mpr ⟨trivial, List.forall_mem_cons.mpr ⟨⟨_, rfl, Nat.le_of_ble_eq_true rfl, Or.inl (tb1 31 rfl rfl)⟩, fun _ h => absurd h List.not_mem_nil⟩⟩⟩⟩⟩⟩⟩⟩⟩), List.forall_mem_cons.mpr ⟨(List.forall_mem_cons.mpr ⟨trivial, List.forall_mem_cons.mpr ⟨trivial, List.forall_mem_cons.mpr ⟨trivial, List.forall_mem_cons.mpr ⟨⟨_, rfl, Nat.le_of_ble_eq_true rfl, Or.inl (tb1 31 rfl rfl)⟩, List.forall_mem_cons.mpr ⟨trivial, List.forall_mem_cons.mpr ⟨trivial, List.forall_mem_cons.mpr ⟨trivial, List.forall_mem_cons.mpr ⟨trivial, List.forall_mem_cons.mpr ⟨rfl, fun _ h => absurd h List.not_mem_nil⟩⟩⟩⟩⟩⟩⟩⟩⟩), fun _ h => absurd h List.not_mem_nil⟩⟩, by decide +kernel, rfl⟩
set_option maxRecDepth 100000 in
theorem okQ_31 : sm_Q PZ PP 31 := ⟨by decide +kernel, show ∀ ch ∈ pc_31, ∀ q ∈ ch, sm_okL PZ PP 31 q.2.1 q.2.2.2.1 q.2.2.2.2.1 q.2.2.2.2.2 from List.forall_mem_cons.mpr ⟨(List.forall_mem_cons.mpr ⟨trivial, List.forall_mem_cons.mpr ⟨trivial, List.forall_mem_cons.mpr ⟨trivial, List.forall_mem_cons.mpr ⟨trivial, List.forall_mem_cons.mpr ⟨trivial, List.forall_mem_cons.mpr ⟨trivial, List.forall_mem_cons.mpr ⟨trivial, List.forall_mem_cons.mpr ⟨trivial, fun _ h => absurd h List.not_mem_nil⟩⟩⟩⟩⟩⟩⟩⟩), List.forall_mem_cons.mpr ⟨(List.forall_mem_cons.mpr ⟨trivial, List.forall_mem_cons.mpr ⟨rfl, fun _ h => absurd h List.not_mem_nil⟩⟩), fun _ h => absurd h List.not_mem_nil⟩⟩, by decide +kernel, rfl⟩
set_option maxRecDepth 100000 in
theorem okQ_32 : sm_Q PZ PP 32 := ⟨by decide +kernel, show ∀ ch ∈ pc_32, ∀ q ∈ ch, sm_okL PZ PP 32 q.2.1 q.2.2.2.1 q.2.2.2.2.1 q.2.2.2.2.2 from List.forall_mem_cons.mpr ⟨(List.forall_mem_cons.mpr ⟨trivial, List.forall_mem_cons.mpr ⟨trivial, List.forall_mem_cons.mpr ⟨⟨⟨okm_30.1, okm_30.2.1, okm_30.2.2.1, okm_30.2.2.2, Nat.le_of_ble_eq_true rfl, Nat.le_of_ble_eq_true rfl, Or.inl (tb2 93 rfl rfl)⟩, Nat.le_of_ble_eq_true rfl, oki_30, okv_30, ⟨_, rfl, rfl⟩⟩, List.forall_mem_cons.mpr ⟨trivial, List.forall_mem_cons.mpr ⟨trivial, List.forall_mem_cons.mpr ⟨trivial, List.forall_mem_cons.mpr ⟨trivial, List.forall_mem_cons.mpr ⟨trivial, List.forall_mem_cons.mpr ⟨trivial, fun _ h => absurd h List.not_mem_nil⟩⟩⟩⟩⟩⟩⟩⟩⟩), List.forall_mem_cons.mpr ⟨(List.forall_mem_cons.mpr ⟨trivial, List.forall_mem_cons.mpr ⟨trivial, List.forall_mem_cons.mpr ⟨trivial, List.forall_mem_cons.mpr ⟨rfl, List.forall_mem_cons.mpr ⟨trivial, List.forall_mem_cons.mpr ⟨trivial, List.forall_mem_cons.mpr ⟨trivial, List.forall_mem_cons.mpr ⟨trivial, List.forall_mem_cons.mpr ⟨rfl, List.forall_mem_cons.mpr ⟨trivial, List.forall_mem_cons.mpr ⟨trivial, fun _ h => absurd h List.not_mem_nil⟩⟩⟩⟩⟩⟩⟩⟩⟩⟩⟩), List.forall_mem_cons.mpr ⟨(List.forall_mem_cons.mpr ⟨trivial, List.forall_mem_cons.mpr ⟨trivial, List.forall_mem_cons.mpr ⟨trivial, List.forall_mem_cons.mpr ⟨trivial, List.forall_mem_cons.mpr ⟨trivial, List.forall_mem_cons.mpr ⟨trivial, List.forall_mem_cons.mpr ⟨trivial, List.forall_mem_cons.mpr ⟨⟨⟨okm_30.1, okm_30.2.1, okm_30.2.2.1, okm_30.2.2.2, Nat.le_of_ble_eq_true rfl, Nat.le_of_ble_eq_true rfl, Or.inl (tb2 93 rfl rfl)⟩, Nat.le_of_ble_eq_true rfl, oki_30, okv_30, ⟨_, rfl, rfl⟩⟩, List.forall_mem_cons.mpr ⟨trivial, fun _ h => absurd h List.not_mem_nil⟩⟩⟩⟩⟩⟩⟩⟩⟩), List.forall_mem_cons.mpr ⟨(List.forall_mem_cons.mpr ⟨trivial, List.forall_mem_cons.mpr ⟨trivial, List.forall_mem_cons.mpr ⟨trivial, List.forall_mem_cons.mpr ⟨trivial, List.forall_mem_cons.mpr ⟨trivial, List.forall_mem_cons.mpr ⟨⟨⟨okm_30.1, okm_30.2.1, okm_30.2.2.1, okm_30.2.2.2, Nat.le_of_ble_eq_true rfl, Nat.le_of_ble_eq_true rfl, Or.inl (tb2 93 rfl rfl)⟩, Nat.le_of_ble_eq_true rfl, oki_30, okv_30, ⟨_, rfl, rfl⟩⟩, List.forall_mem_cons.mpr ⟨trivial, List.forall_mem_cons.mpr ⟨trivial, fun _ h => absurd h List.not_mem_nil⟩⟩⟩⟩⟩⟩⟩⟩), List.forall_mem_cons.mpr ⟨(List.forall_mem_cons.mpr ⟨trivial, List.forall_mem_cons.mpr ⟨trivial, List.forall_mem_cons.mpr ⟨trivial, List.forall_mem_cons.mpr ⟨rfl, List.forall_mem_cons.mpr ⟨trivial, List.forall_mem_cons.mpr ⟨trivial, List.forall_mem_cons.mpr ⟨trivial, List.forall_mem_cons.mpr ⟨trivial, List.forall_mem_cons.mpr ⟨⟨⟨okm_31.1, okm_31.2.1, okm_31.2.2.1, okm_31.2.2.2, Nat.le_of_ble_eq_true rfl, Nat.le_of_ble_eq_true rfl, Or.inr ⟨_, List.mem_of_getElem? (i := 26) rfl⟩⟩, Nat.le_of_ble_eq_true rfl, oks_31⟩, fun _ h => absurd h List.not_mem_nil⟩⟩⟩⟩⟩⟩⟩⟩⟩), List.forall_mem_cons.mpr ⟨(List.forall_mem_cons.mpr ⟨trivial, List.forall_mem_cons.mpr ⟨trivial, List.forall_mem_cons.mpr ⟨trivial, List.forall_mem_cons.mpr ⟨trivial, List.forall_mem_cons.mpr ⟨rfl, fun _ h => absurd h List.not_mem_nil⟩⟩⟩⟩⟩), fun _ h => absurd h List.not_mem_nil⟩⟩⟩⟩⟩⟩, by decide +kernel, rfl⟩
set_option maxRecDepth 100000 in
theorem okQ_33 : sm_Q PZ PP 33 := ⟨by decide +kernel, show ∀ ch ∈ pc_33, ∀ q ∈ ch, sm_okL PZ PP 33 q.2.1 q.2.2.2.1 q.2.2.2.2.1 q.2.2.2.2.2 from List.forall_mem_cons.mpr ⟨(List.forall_mem_cons.mpr ⟨trivial, List.forall_mem_cons.mpr ⟨trivial, List.forall_mem_cons.mpr ⟨trivial, List.forall_mem_cons.mpr ⟨trivial, List.forall_mem_cons.mpr ⟨trivial, List.forall_mem_cons.mpr ⟨trivial, List.forall_mem_cons.mpr ⟨trivial, List.forall_mem_cons.mpr ⟨trivial, fun _ h => absurd h List.not_mem_nil⟩⟩⟩⟩⟩⟩⟩⟩), List.forall_mem_cons.mpr ⟨(List.forall_mem_cons.mpr ⟨trivial, List.forall_mem_cons.mpr ⟨rfl, fun _ h => absurd h List.not_mem_nil⟩⟩), fun _ h => absurd h List.not_mem_nil⟩⟩, by decide +kernel, rfl⟩
set_option maxRecDepth 100000 in
theorem okQ_34 : sm_Q PZ PP 34 := ⟨by decide +kernel, show ∀ ch ∈ pc_34, ∀ q ∈ ch, sm_okL PZ PP 34 q.2.1 q.2.2.2.1 q.2.2.2.2.1 q.2.2.2.2.2 from List.forall_mem_cons.mpr ⟨(List.forall_mem_cons.mpr ⟨trivial, List.forall_mem_cons.mpr ⟨trivial, List.forall_mem_cons.mpr ⟨trivial, List.forall_mem_cons.mpr ⟨trivial, List.forall_mem_cons.mpr ⟨trivial, List.forall_mem_cons.mpr ⟨trivial, List.forall_mem_cons.mpr ⟨trivial, List.forall_mem_cons.mpr ⟨⟨⟨okm_33.1, okm_33.2.1, okm_33.2.2.1, okm_33.2.2.2, Nat.le_of_ble_eq_true rfl, Nat.le_of_ble_eq_true rfl, Or.inr ⟨_, List.mem_of_getElem? (i := 27) rfl⟩⟩, Nat.le_of_ble_eq_true rfl, oks_33⟩, List.forall_mem_cons.mpr ⟨trivial, fun _ h => absurd h List.not_mem_nil⟩⟩⟩⟩⟩⟩⟩⟩⟩), List.forall_mem_cons.mpr ⟨(List.forall_mem_cons.mpr ⟨trivial, List.forall_mem_cons.mpr ⟨trivial, List.forall_mem_cons.mpr ⟨trivial, List.forall_mem_cons.mpr ⟨rfl, fun _ h => absurd h List.not_mem_nil⟩⟩⟩⟩), fun _ h => absurd h List.not_mem_nil⟩⟩, by decide +kernel, rfl⟩
set_option maxRecDepth 100000 in
theorem okQ_35 : sm_Q PZ PP 35 := ⟨by decide +kernel, show ∀ ch ∈ pc_35, ∀ q ∈ ch, sm_okL PZ PP 35 q.2.1 q.2.2.2.1 q.2.2.2.2.1 q.2.2.2.2.2 from List.forall_mem_cons.mpr ⟨(List.forall_mem_cons.mpr ⟨trivial, List.forall_mem_cons.mpr ⟨trivial, List.forall_mem_cons.mpr ⟨trivial, List.forall_mem_cons.mpr ⟨trivial, List.forall_mem_cons.mpr ⟨trivial, List.forall_mem_cons.mpr ⟨trivial, List.forall_mem_cons.mpr ⟨⟨_, rfl, Nat.le_of_ble_eq_true rfl, Or.inl (tb1 32 rfl rfl)⟩, List.forall_mem_cons.mpr ⟨trivial, List.forall_mem_cons.mpr ⟨trivial, List.forall_mem_cons.mpr ⟨trivial, fun _ h => absurd h List.not_mem_nil⟩⟩⟩⟩⟩⟩⟩⟩⟩⟩), List.forall_mem_cons.mpr ⟨(List.forall_mem_cons.mpr ⟨trivial, List.forall_mem_cons.mpr ⟨trivial, List.forall_mem_cons.mpr ⟨trivial, List.forall_mem_cons.mpr ⟨⟨⟨okm_32.1, okm_32.2.1, okm_32.2.2.1, okm_32.2.2.2, Nat.le_of_ble_eq_true rfl, Nat.le_of_ble_eq_true rfl, Or.inl (tb2 89 rfl rfl)⟩, Nat.le_of_ble_eq_true rfl, oki_32, okv_32, ⟨_, rfl, rfl⟩⟩, List.forall_mem_cons.mpr ⟨trivial, List.forall_mem_cons.mpr ⟨trivial, List.forall_mem_cons.mpr ⟨trivial, List.forall_mem_cons.mpr ⟨trivial, List.forall_mem_cons.mpr ⟨trivial, List.forall_mem_cons.mpr ⟨trivial, fun _ h => absurd h List.not_mem_nil⟩⟩⟩⟩⟩⟩⟩⟩⟩⟩), List.forall_mem_cons.mpr ⟨(List.forall_mem_cons.mpr ⟨⟨⟨okm_30.1, okm_30.2.1, okm_30.2.2.1, okm_30.2.2.2, Nat.le_of_ble_eq_true rfl, Nat.le_of_ble_eq_true rfl, Or.inl (tb2 93 rfl rfl)⟩, Nat.le_of_ble_eq_true rfl, oki_30, okv_30, ⟨_, rfl, rfl⟩⟩, List.forall_mem_cons.mpr ⟨⟨⟨okm_34.1, okm_34.2.1, okm_34.2.2.1, okm_34.2.2.2, Nat.le_of_ble_eq_true rfl, Nat.le_of_ble_eq_true rfl, Or.inl (tb2 100 rfl rfl)⟩, Nat.le_of_ble_eq_true rfl, oks_34⟩, List.forall_mem_cons.mpr ⟨trivial, List.forall_mem_cons.mpr ⟨trivial, List.forall_mem_cons.mpr ⟨trivial, List.forall_mem_cons.mpr ⟨trivial, List.forall_mem_cons.mpr ⟨rfl, List.forall_mem_cons.mpr ⟨trivial, List.forall_mem_cons.mpr ⟨trivial, List.forall_mem_cons.mpr ⟨⟨⟨okm_30.1, okm_30.2.1, okm_30.2.2.1, okm_30.2.2.2, Nat.le_of_ble_eq_true rfl, Nat.le_of_ble_eq_true rfl, Or.inl (tb2 93 rfl rfl)⟩, Nat.le_of_ble_eq_true rfl, oki_30, okv_30, ⟨_, rfl, rfl⟩⟩, fun _ h => absurd h List.not_mem_nil⟩⟩⟩⟩⟩⟩⟩⟩⟩⟩), List.forall_mem_cons.mpr ⟨(List.forall_mem_cons.mpr ⟨trivial, List.forall_mem_cons.mpr ⟨trivial, List.forall_mem_cons.mpr ⟨trivial, List.forall_mem_cons.mpr ⟨trivial, List.forall_mem_cons.mpr ⟨trivial, List.forall_mem_cons.mpr ⟨trivial, List.forall_mem_cons.mpr ⟨trivial, fun _ h => absurd h List.not_mem_nil⟩⟩⟩⟩⟩⟩⟩), List.forall_mem_cons.mpr ⟨(List.forall_mem_cons.mpr ⟨trivial, List.forall_mem_cons.mpr ⟨trivial, List.forall_mem_cons.mpr ⟨trivial, List.forall_mem_cons.mpr ⟨trivial, List.forall_mem_cons.mpr ⟨⟨_, rfl, Nat.le_of_ble_eq_true rfl, Or.inl (tb1 32 rfl rfl)⟩, List.forall_mem_cons.mpr ⟨trivial, List.forall_mem_cons.mpr ⟨trivial, List.forall_mem_cons.mpr ⟨trivial, List.forall_mem_cons.mpr ⟨trivial, fun _ h => absurd h List.not_mem_nil⟩⟩⟩⟩⟩⟩⟩⟩⟩), List.forall_mem_cons.mpr ⟨(List.forall_mem_cons.mpr ⟨trivial, List.forall_mem_cons.mpr ⟨trivial, List.forall_mem_cons.mpr ⟨trivial, List.forall_mem_cons.mpr ⟨trivial, List.forall_mem_cons.mpr ⟨trivial, List.forall_mem_cons.mpr ⟨trivial, List.forall_mem_cons.mpr ⟨⟨_, rfl, Nat.le_of_ble_eq_true rfl, Or.inl (tb1 32 rfl rfl)⟩, List.forall_mem_cons.mpr ⟨trivial, fun _ h => absurd h List.not_mem_nil⟩⟩⟩⟩⟩⟩⟩⟩), List.forall_mem_cons.mpr ⟨(List.forall_mem_cons.mpr ⟨trivial, List.forall_mem_cons.mpr ⟨rfl, fun _ h => absurd h List.not_mem_nil⟩⟩), fun _ h => absurd h List.not_mem_nil⟩⟩⟩⟩⟩⟩⟩, by decide +kernel, rfl⟩
set_option maxRecDepth 100000 in
theorem okQ_36 : sm_Q PZ PP 36 := ⟨by decide +kernel, show ∀ ch ∈ pc_36, ∀ q ∈ ch, sm_okL PZ PP 36 q.2.1 q.2.2.2.1 q.2.2.2.2.1 q.2.2.2.2.2 from List.forall_mem_cons.mpr ⟨(List.forall_mem_cons.mpr ⟨trivial, List.forall_mem_cons.mpr ⟨trivial, List.forall_mem_cons.mpr ⟨trivial, List.forall_mem_cons.mpr ⟨trivial, List.forall_mem_cons.mpr ⟨⟨_, rfl, Nat.le_of_ble_eq_true rfl, Or.inl (tb1 61 rfl rfl)⟩, List.forall_mem_cons.mpr ⟨trivial, List.forall_mem_cons.mpr ⟨trivial, List.forall_mem_cons.mpr ⟨trivial, List.forall_mem_cons.mpr ⟨⟨_, rfl, Nat.le_of_ble_eq_true rfl, Or.inl (tb1 60 rfl rfl)⟩, fun _ h => absurd h List.not_mem_nil⟩⟩⟩⟩⟩⟩⟩⟩⟩), List.forall_mem_cons.mpr ⟨(List.forall_mem_cons.mpr ⟨trivial, List.forall_mem_cons.mpr ⟨trivial, List.forall_mem_cons.mpr ⟨trivial, List.forall_mem_cons.mpr ⟨trivial, List.forall_mem_cons.mpr ⟨trivial, List.forall_mem_cons.mpr ⟨rfl, fun _ h => absurd h List.not_mem_nil⟩⟩⟩⟩⟩⟩), fun _ h => absurd h List.not_mem_nil⟩⟩, by decide +kernel, rfl⟩
set_option maxRecDepth 100000 in
theorem okQ_37 : sm_Q PZ PP 37 := ⟨by decide +kernel, show ∀ ch ∈ pc_37, ∀ q ∈ ch, sm_okL PZ PP 37 q.2.1 q.2.2.2.1 q.2.2.2.2.1 q.2.2.2.2.2 from List.forall_mem_cons.mpr ⟨(List.forall_mem_cons.mpr ⟨trivial, List.forall_mem_cons.mpr ⟨trivial, List.forall_mem_cons.mpr ⟨⟨⟨okm_36.1, okm_36.2.1, okm_36.2.2.1, okm_36.2.2.2, Nat.le_of_ble_eq_true rfl, Nat.le_of_ble_eq_true rfl, Or.inl (tb2 130 rfl rfl)⟩, Nat.le_of_ble_eq_true rfl, oki_36, okv_36, ⟨_, rfl, rfl⟩⟩, List.forall_mem_cons.mpr ⟨trivial, List.forall_mem_cons.mpr ⟨trivial, List.forall_mem_cons.mpr ⟨⟨_, rfl, Nat.le_of_ble_eq_true rfl, Or.inl (tb1 60 rfl rfl)⟩, List.forall_mem_cons.mpr ⟨trivial, List.forall_mem_cons.mpr ⟨trivial, List.forall_mem_cons.mpr ⟨trivial, fun _ h => absurd h List.not_mem_nil⟩⟩⟩⟩⟩⟩⟩⟩⟩), List.forall_mem_cons.mpr ⟨(List.forall_mem_cons.mpr ⟨trivial, List.forall_mem_cons.mpr ⟨rfl, fun _ h => absurd h List.not_mem_nil⟩⟩), fun _ h => absurd h List.not_mem_nil⟩⟩, by decide +kernel, rfl⟩
set_option maxRecDepth 100000 in
theorem okQ_38 : sm_Q PZ PP 38 := ⟨by decide +kernel, show ∀ ch ∈ pc_38, ∀ q ∈ ch, sm_okL PZ PP 38 q.2.1 q.2.2.2.1 q.2.2.2.2.1 q.2.2.2.2.2 from List.forall_mem_cons.mpr ⟨(List.forall_mem_cons.mpr ⟨trivial, List.forall_mem_cons.mpr ⟨trivial, List.forall_mem_cons.mpr ⟨⟨⟨okm_36.1, okm_36.2.1, okm_36.2.2.1, okm_36.2.2.2, Nat.le_of_ble_eq_true rfl, Nat.le_of_ble_eq_true rfl, Or.inl (tb2 130 rfl rfl)⟩, Nat.le_of_ble_eq_true rfl, oki_36, okv_36, ⟨_, rfl, rfl⟩⟩, List.forall_mem_cons.mpr ⟨trivial, List.forall_mem_cons.mpr ⟨trivial, List.forall_mem_cons.mpr ⟨⟨_, rfl, Nat.le_of_ble_eq_true rfl, Or.inl (tb1 60 rfl rfl)⟩, List.forall_mem_cons.mpr ⟨trivial, List.forall_mem_cons.mpr ⟨trivial, List.forall_mem_cons.mpr ⟨trivial, List.forall_mem_cons.mpr ⟨rfl, fun _ h => absurd h List.not_mem_nil⟩⟩⟩⟩⟩⟩⟩⟩⟩⟩), fun _ h => absurd h List.not_mem_nil⟩, by decide +kernel, rfl⟩
set_option maxRecDepth 100000 in
theorem okQ_39 : sm_Q PZ PP 39 := ⟨by decide +kernel, show ∀ ch ∈ pc_39, ∀ q ∈ ch, sm_okL PZ PP 39 q.2.1 q.2.2.2.1 q.2.2.2.2.1 q.2.2.2.2.2 from List.forall_mem_cons.mpr ⟨(List.forall_mem_cons.mpr ⟨trivial, List.forall_mem_cons.mpr ⟨trivial, List.forall_mem_cons.mpr ⟨⟨_, rfl, Nat.le_of_ble_eq_true rfl, Or.inl (tb1 61 rfl rfl)⟩, List.forall_mem_cons.mpr ⟨trivial, List.forall_mem_cons.mpr ⟨⟨_, rfl, Nat.le_of_ble_eq_true rfl, Or.inl (tb1 60 rfl rfl)⟩, List.forall_mem_cons.mpr ⟨trivial, List.forall_mem_cons.mpr ⟨⟨(tb2 125 rfl rfl), (tb2 119 rfl rfl), (tb1 5 rfl rfl), (tb2 120 rfl rfl), Nat.le_of_ble_eq_true rfl, Nat.le_of_ble_eq_true rfl⟩, List.forall_mem_cons.mpr ⟨⟨_, rfl, Nat.le_of_ble_eq_true rfl, ⟨.int, by decide +kernel, rfl⟩, Or.inl ⟨rfl, Or.inl (tb1 61 rfl rfl)⟩⟩, fun _ h => absurd h List.not_mem_nil⟩⟩⟩⟩⟩⟩⟩⟩), List.forall_mem_cons.mpr ⟨(List.forall_mem_cons.mpr ⟨trivial, List.forall_mem_cons.mpr ⟨trivial, List.forall_mem_cons.mpr ⟨trivial, List.forall_mem_cons.mpr ⟨trivial, List.forall_mem_cons.mpr ⟨⟨_, rfl, Nat.le_of_ble_eq_true rfl, Or.inl (tb1 61 rfl rfl)⟩, List.forall_mem_cons.mpr ⟨trivial, List.forall_mem_cons.mpr ⟨trivial, List.forall_mem_cons.mpr ⟨trivial, List.forall_mem_cons.mpr ⟨trivial, List.forall_mem_cons.mpr ⟨trivial, List.forall_mem_cons.mpr ⟨⟨⟨okm_37.1, okm_37.2.1, okm_37.2.2.1, okm_37.2.2.2, Nat.le_of_ble_eq_true rfl, Nat.le_of_ble_eq_true rfl, Or.inl (tb2 126 rfl rfl)⟩, Nat.le_of_ble_eq_true rfl, oki_37, okv_37, ⟨_, rfl, rfl⟩⟩, fun _ h => absurd h List.not_mem_nil⟩⟩⟩⟩⟩⟩⟩⟩⟩⟩⟩), List.forall_mem_cons.mpr ⟨(List.forall_mem_cons.mpr ⟨⟨⟨okm_38.1, okm_38.2.1, okm_38.2.2.1, okm_38.2.2.2, Nat.le_of_ble_eq_true rfl, Nat.le_of_ble_eq_true rfl, Or.inl (tb2 134 rfl rfl)⟩, Nat.le_of_ble_eq_true rfl, oki_38, okv_38, ⟨_, rfl, rfl⟩⟩, List.forall_mem_cons.mpr ⟨trivial, List.forall_mem_cons.mpr ⟨trivial, List.forall_mem_cons.mpr ⟨rfl, fun _ h => absurd h List.not_mem_nil⟩⟩⟩⟩), fun _ h => absurd h List.not_mem_nil⟩⟩⟩, by decide +kernel, rfl⟩
set_option maxRecDepth 100000 in
theorem okQ_40 : sm_Q PZ PP 40 := ⟨by decide +kernel, show ∀ ch ∈ pc_40, ∀ q ∈ ch, sm_okL PZ PP 40 q.2.1 q.2.2.2.1 q.2.2.2.2.1 q.2.2.2.2.2 from List.forall_mem_cons.mpr ⟨(List.forall_mem_cons.mpr ⟨trivial, List.forall_mem_cons.mpr ⟨trivial, List.forall_mem_cons.mpr ⟨⟨_, rfl, Nat.le_of_ble_eq_true rfl, Or.inl (tb1 75 rfl rfl)⟩, List.forall_mem_cons.mpr ⟨trivial, List.forall_mem_cons.mpr ⟨⟨(tb2 118 rfl rfl), (tb2 119 rfl rfl), (tb1 5 rfl rfl), (tb2 120 rfl rfl), Nat.le_of_ble_eq_true rfl, Nat.le_of_ble_eq_true rfl⟩, List.forall_mem_cons.mpr ⟨⟨_, rfl, Nat.le_of_ble_eq_true rfl, ⟨.int, by decide +kernel, rfl⟩, Or.inl ⟨rfl, Or.inl (tb1 75 rfl rfl)⟩⟩, List.forall_mem_cons.mpr ⟨trivial, List.forall_mem_cons.mpr ⟨trivial, List.forall_mem_cons.mpr ⟨⟨_, rfl, Nat.le_of_ble_eq_true rfl, Or.inl (tb1 78 rfl rfl)⟩, fun _ h => absurd h List.not_mem_nil⟩⟩⟩⟩⟩⟩⟩⟩⟩), List.forall_mem_cons.mpr ⟨(List.forall_mem_cons.mpr ⟨⟨_, rfl, Nat.le_of_ble_eq_true rfl, ⟨.int, by decide +kernel, rfl⟩, Or.inl ⟨rfl, Or.inl (tb1 78 rfl rfl)⟩⟩, List.forall_mem_cons.mpr ⟨trivial, List.forall_mem_cons.mpr ⟨trivial, List.forall_mem_cons.mpr ⟨⟨_, rfl, Nat.le_of_ble_eq_true rfl, Or.inl (tb1 81 rfl rfl)⟩, List.forall_mem_cons.mpr ⟨⟨_, rfl, Nat.le_of_ble_eq_true rfl, ⟨.int, by decide +kernel, rfl⟩, Or.inl ⟨rfl, Or.inl (tb1 81 rfl rfl)⟩⟩, List.forall_mem_cons.mpr ⟨trivial, List.forall_mem_cons.mpr ⟨trivial, List.forall_mem_cons.mpr ⟨trivial, fun _ h => absurd h List.not_mem_nil⟩⟩⟩⟩⟩⟩⟩⟩), List.forall_mem_cons.mpr ⟨(List.forall_mem_cons.mpr ⟨trivial, List.forall_mem_cons.mpr ⟨⟨_, rfl, Nat.le_of_ble_eq_true rfl, Or.inl (tb1 75 rfl rfl)⟩, List.forall_mem_cons.mpr ⟨trivial, List.forall_mem_cons.mpr ⟨trivial, List.forall_mem_cons.mpr ⟨⟨_, rfl, Nat.le_of_ble_eq_true rfl, Or.inl (tb1 71 rfl rfl)⟩, List.forall_mem_cons.mpr ⟨trivial, List.forall_mem_cons.mpr ⟨trivial, List.forall_mem_cons.mpr ⟨trivial, List.forall_mem_cons.mpr ⟨⟨_, rfl, Nat.le_of_ble_eq_true rfl, Or.inl (tb1 71 rfl rfl)⟩, fun _ h => absurd h List.not_mem_nil⟩⟩⟩⟩⟩⟩⟩⟩⟩), List.forall_mem_cons.mpr ⟨(List.forall_mem_cons.mpr ⟨trivial, List.forall_mem_cons.mpr ⟨trivial, List.forall_mem_cons.mpr ⟨⟨⟨okm_39.1, okm_39.2.1, okm_39.2.2.1, okm_39.2.2.2, Nat.le_of_ble_eq_true rfl, Nat.le_of_ble_eq_true rfl, Or.inl (tb2 121 rfl rfl)⟩, Nat.le_of_ble_eq_true rfl, oki_39, okv_39, ⟨_, rfl, rfl⟩⟩, List.forall_mem_cons.mpr ⟨trivial, List.forall_mem_cons.mpr ⟨⟨_, rfl, Nat.le_of_ble_eq_true rfl, Or.inl (tb1 73 rfl rfl)⟩, List.forall_mem_cons.mpr ⟨trivial, List.forall_mem_cons.mpr ⟨trivial, List.forall_mem_cons.mpr ⟨trivial, List.forall_mem_cons.mpr ⟨⟨_, rfl, Nat.le_of_ble_eq_true rfl, Or.inl (tb1 73 rfl rfl)⟩, fun _ h => absurd h List.not_mem_nil⟩⟩⟩⟩⟩⟩⟩⟩⟩), List.forall_mem_cons.mpr ⟨(List.forall_mem_cons.mpr ⟨trivial, List.forall_mem_cons.mpr ⟨trivial, List.forall_mem_cons.mpr ⟨⟨⟨okm_39.1, okm_39.2.1, okm_39.2.2.1, okm_39.2.2.2, Nat.le_of_ble_eq_true rfl, Nat.le_of_ble_eq_true rfl, Or.inl (tb2 121 rfl rfl)⟩, Nat.le_of_ble_eq_true rfl, oki_39, okv_39, ⟨_, rfl, rfl⟩⟩, List.forall_mem_cons.mpr ⟨trivial, List.forall_mem_cons.mpr ⟨trivial, List.forall_mem_cons.mpr ⟨rfl, fun _ h => absurd h List.not_mem_nil⟩⟩⟩⟩⟩⟩), fun _ h => absurd h List.not_mem_nil⟩⟩⟩⟩⟩, by decide +kernel, rfl⟩
set_option maxRecDepth 100000 in
theorem okQ_41 : sm_Q PZ PP 41 := ⟨by decide +kernel, show ∀ ch ∈ pc_41, ∀ q ∈ ch, sm_okL PZ PP 41 q.2.1 q.2.2.2.1 q.2.2.2.2.1 q.2.2.2.2.2 from List.forall_mem_cons.mpr ⟨(List.forall_mem_cons.mpr ⟨trivial, List.forall_mem_cons.mpr ⟨⟨_, rfl, Nat.le_of_ble_eq_true rfl, Or.inl (tb1 106 rfl rfl)⟩, List.forall_mem_cons.mpr ⟨trivial, List.forall_mem_cons.mpr ⟨⟨_, rfl, Nat.le_of_ble_eq_true rfl, Or.inl (tb1 107 rfl rfl)⟩, List.forall_mem_cons.mpr ⟨trivial, List.forall_mem_cons.mpr ⟨trivial, List.forall_mem_cons.mpr ⟨⟨⟨okm_40.1, okm_40.2.1, okm_40.2.2.1, okm_40.2.2.2, Nat.le_of_ble_eq_true rfl, Nat.le_of_ble_eq_true rfl, Or.inl (tb2 114 rfl rfl)⟩, Nat.le_of_ble_eq_true rfl, oki_40, okv_40, ⟨_, rfl, rfl⟩⟩, List.forall_mem_cons.mpr ⟨trivial, List.forall_mem_cons.mpr ⟨trivial, List.forall_mem_cons.mpr ⟨⟨_, rfl, Nat.le_of_ble_eq_true rfl, Or.inl (tb1 107 rfl rfl)⟩, fun _ h => absurd h List.not_mem_nil⟩⟩⟩⟩⟩⟩⟩⟩⟩⟩), List.forall_mem_cons.mpr ⟨(List.forall_mem_cons.mpr ⟨trivial, List.forall_mem_cons.mpr ⟨trivial, List.forall_mem_cons.mpr ⟨trivial, List.forall_mem_cons.mpr ⟨trivial, List.forall_mem_cons.mpr ⟨trivial, List.forall_mem_cons.mpr ⟨⟨_, rfl, Nat.le_of_ble_eq_true rfl, Or.inl (tb1 107 rfl rfl)⟩, List.forall_mem_cons.mpr ⟨trivial, List.forall_mem_cons.mpr ⟨trivial, List.forall_mem_cons.mpr ⟨trivial, fun _ h => absurd h List.not_mem_nil⟩⟩⟩⟩⟩⟩⟩⟩⟩), List.forall_mem_cons.mpr ⟨(List.forall_mem_cons.mpr ⟨trivial, List.forall_mem_cons.mpr ⟨⟨_, rfl, Nat.le_of_ble_eq_true rfl, ⟨.int, by decide +kernel, rfl⟩, Or.inl ⟨rfl, Or.inl (tb1 107 rfl rfl)⟩⟩, List.forall_mem_cons.mpr ⟨trivial, List.forall_mem_cons.mpr ⟨trivial, List.forall_mem_cons.mpr ⟨⟨_, rfl, Nat.le_of_ble_eq_true rfl, Or.inl (tb1 108 rfl rfl)⟩, List.forall_mem_cons.mpr ⟨trivial, List.forall_mem_cons.mpr ⟨trivial, List.forall_mem_cons.mpr ⟨trivial, List.forall_mem_cons.mpr ⟨⟨(tb2 138 rfl rfl), (tb2 119 rfl rfl), (tb1 5 rfl rfl), (tb2 120 rfl rfl), Nat.le_of_ble_eq_true rfl, Nat.le_of_ble_eq_true rfl⟩, fun _ h => absurd h List.not_mem_nil⟩⟩⟩⟩⟩⟩⟩⟩⟩), List.forall_mem_cons.mpr ⟨(List.forall_mem_cons.mpr ⟨⟨_, rfl, Nat.le_of_ble_eq_true rfl, ⟨.int, by decide +kernel, rfl⟩, Or.inl ⟨rfl, Or.inl (tb1 108 rfl rfl)⟩⟩, List.forall_mem_cons.mpr ⟨rfl, fun _ h => absurd h List.not_mem_nil⟩⟩), fun _ h => absurd h List.not_mem_nil⟩⟩⟩⟩, by decide +kernel, rfl⟩
set_option maxRecDepth 100000 in
theorem okQ_42 : sm_Q PZ PP 42 := ⟨by decide +kernel, show ∀ ch ∈ pc_42, ∀ q ∈ ch, sm_okL PZ PP 42 q.2.1 q.2.2.2.1 q.2.2.2.2.1 q.2.2.2.2.2 from List.forall_mem_cons.mpr ⟨(List.forall_mem_cons.mpr ⟨trivial, List.forall_mem_cons.mpr ⟨trivial, List.forall_mem_cons.mpr ⟨⟨_, rfl, Nat.le_of_ble_eq_true rfl, ⟨.boolean, by decide +kernel, rfl⟩, Or.inl ⟨rfl, Or.inl (tb2 22 rfl rfl)⟩⟩, List.forall_mem_cons.mpr ⟨trivial, List.forall_mem_cons.mpr ⟨trivial, List.forall_mem_cons.mpr ⟨⟨_, rfl, Nat.le_of_ble_eq_true rfl, ⟨.boolean, by decide +kernel, rfl⟩, Or.inl ⟨rfl, Or.inl (tb2 27 rfl rfl)⟩⟩, List.forall_mem_cons.mpr ⟨rfl, fun _ h => absurd h List.not_mem_nil⟩⟩⟩⟩⟩⟩⟩), fun _ h => absurd h List.not_mem_nil⟩, by decide +kernel, rfl⟩
set_option maxRecDepth 100000 in
theorem okQ_43 : sm_Q PZ PP 43 := ⟨by decide +kernel, show ∀ ch ∈ pc_43, ∀ q ∈ ch, sm_okL PZ PP 43 q.2.1 q.2.2.2.1 q.2.2.2.2.1 q.2.2.2.2.2 from List.forall_mem_cons.mpr ⟨(List.forall_mem_cons.mpr ⟨trivial, List.forall_mem_cons.mpr ⟨⟨_, rfl, Nat.le_of_ble_eq_true rfl, Or.inl (tb2 49 rfl rfl)⟩, List.forall_mem_cons.mpr ⟨trivial, List.forall_mem_cons.mpr ⟨⟨_, rfl, Nat.le_of_ble_eq_true rfl, Or.inl (tb2 48 rfl rfl)⟩, List.forall_mem_cons.mpr ⟨⟨⟨okm_41.1, okm_41.2.1, okm_41.2.2.1, okm_41.2.2.2, Nat.le_of_ble_eq_true rfl, Nat.le_of_ble_eq_true rfl, Or.inl (tb2 110 rfl rfl)⟩, Nat.le_of_ble_eq_true rfl, oki_41, okv_41, ⟨_, rfl, rfl⟩⟩, List.forall_mem_cons.mpr ⟨trivial, List.forall_mem_cons.mpr ⟨⟨_, rfl, Nat.le_of_ble_eq_true rfl, Or.inl (tb2 53 rfl rfl)⟩, List.forall_mem_cons.mpr ⟨⟨⟨okm_42.1, okm_42.2.1, okm_42.2.2.1, okm_42.2.2.2, Nat.le_of_ble_eq_true rfl, Nat.le_of_ble_eq_true rfl, Or.inl (tb2 139 rfl rfl)⟩, Nat.le_of_ble_eq_true rfl, oki_42, okv_42, ⟨_, rfl, rfl⟩⟩, fun _ h => absurd h List.not_mem_nil⟩⟩⟩⟩⟩⟩⟩⟩), List.forall_mem_cons.mpr ⟨(List.forall_mem_cons.mpr ⟨rfl, fun _ h => absurd h List.not_mem_nil⟩), fun _ h => absurd h List.not_mem_nil⟩⟩, by decide +kernel, rfl⟩
set_option maxRecDepth 100000 in
theorem okQ_44 : sm_Q PZ PP 44 := ⟨by decide +kernel, show ∀ ch ∈ pc_44, ∀ q ∈ ch, sm_okL PZ PP 44 q.2.1 q.2.2.2.1 q.2.2.2.2.1 q.2.2.2.2.2 from List.forall_mem_cons.mpr ⟨(List.forall_mem_cons.mpr ⟨trivial, List.forall_mem_cons.mpr ⟨trivial, List.forall_mem_cons.mpr ⟨trivial, List.forall_mem_cons.mpr ⟨trivial, List.forall_mem_cons.mpr ⟨⟨_, rfl, Nat.le_of_ble_eq_true rfl, Or.inl (tb1 32 rfl rfl)⟩, List.forall_mem_cons.mpr ⟨trivial, List.forall_mem_cons.mpr ⟨trivial, List.forall_mem_cons.mpr ⟨trivial, List.forall_mem_cons.mpr ⟨⟨⟨okm_30.1, okm_30.2.1, okm_30.2.2.1, okm_30.2.2.2, Nat.le_of_ble_eq_true rfl, Nat.le_of_ble_eq_true rfl, Or.inl (tb2 93 rfl rfl)⟩, Nat.le_of_ble_eq_true rfl, oki_30, okv_30, ⟨_, rfl, rfl⟩⟩, List.forall_mem_cons.mpr ⟨trivial, fun _ h => absurd h List.not_mem_nil⟩⟩⟩⟩⟩⟩⟩⟩⟩⟩), List.forall_mem_cons.mpr ⟨(List.forall_mem_cons.mpr ⟨trivial, List.forall_mem_cons.mpr ⟨trivial, List.forall_mem_cons.mpr ⟨rfl, List.forall_mem_cons.mpr ⟨trivial, List.forall_mem_cons.mpr ⟨trivial, List.forall_mem_cons.mpr ⟨trivial, List.forall_mem_cons.mpr ⟨⟨_, rfl, Nat.le_of_ble_eq_true rfl, Or.inl (tb1 32 rfl rfl)⟩, fun _ h => absurd h List.not_mem_nil⟩⟩⟩⟩⟩⟩⟩), List.forall_mem_cons.mpr ⟨(List.forall_mem_cons.mpr ⟨rfl, fun _ h => absurd h List.not_mem_nil⟩), fun _ h => absurd h List.not_mem_nil⟩⟩⟩, by decide +kernel, rfl⟩
set_option maxRecDepth 100000 in
theorem okQ_45 : sm_Q PZ PP 45 := ⟨by decide +kernel, show ∀ ch ∈ pc_45, ∀ q ∈ ch, sm_okL PZ PP 45 q.2.1 q.2.2.2.1 q.2.2.2.2.1 q.2.2.2.2.2 from List.forall_mem_cons.mpr ⟨(List.forall_mem_cons.mpr ⟨trivial, List.forall_mem_cons.mpr ⟨trivial, List.forall_mem_cons.mpr ⟨trivial, List.forall_mem_cons.mpr ⟨trivial, List.forall_mem_cons.mpr ⟨trivial, List.forall_mem_cons.mpr ⟨trivial, List.forall_mem_cons.mpr ⟨⟨_, rfl, Nat.le_of_ble_eq_true rfl, Or.inl (tb1 60 rfl rfl)⟩, List.forall_mem_cons.mpr ⟨trivial, List.forall_mem_cons.mpr ⟨⟨(tb2 125 rfl rfl), (tb2 119 rfl rfl), (tb1 5 rfl rfl), (tb2 120 rfl rfl), Nat.le_of_ble_eq_true rfl, Nat.le_of_ble_eq_true rfl⟩, List.forall_mem_cons.mpr ⟨⟨(tb1 57 rfl rfl), (tb1 58 rfl rfl), (tb1 5 rfl rfl), (tb1 59 rfl rfl), Nat.le_of_ble_eq_true rfl, Nat.le_of_ble_eq_true rfl⟩, fun _ h => absurd h List.not_mem_nil⟩⟩⟩⟩⟩⟩⟩⟩⟩⟩), List.forall_mem_cons.mpr ⟨(List.forall_mem_cons.mpr ⟨⟨_, rfl, Nat.le_of_ble_eq_true rfl, ⟨.int, by decide +kernel, rfl⟩, Or.inl ⟨rfl, Or.inl (tb1 61 rfl rfl)⟩⟩, List.forall_mem_cons.mpr ⟨trivial, List.forall_mem_cons.mpr ⟨trivial, List.forall_mem_cons.mpr ⟨trivial, List.forall_mem_cons.mpr ⟨trivial, List.forall_mem_cons.mpr ⟨⟨_, rfl, Nat.le_of_ble_eq_true rfl, Or.inl (tb1 61 rfl rfl)⟩, List.forall_mem_cons.mpr ⟨trivial, List.forall_mem_cons.mpr ⟨trivial, fun _ h => absurd h List.not_mem_nil⟩⟩⟩⟩⟩⟩⟩⟩), List.forall_mem_cons.mpr ⟨(List.forall_mem_cons.mpr ⟨trivial, List.forall_mem_cons.mpr ⟨trivial, List.forall_mem_cons.mpr ⟨trivial, List.forall_mem_cons.mpr ⟨trivial, List.forall_mem_cons.mpr ⟨trivial, List.forall_mem_cons.mpr ⟨⟨⟨okm_30.1, okm_30.2.1, okm_30.2.2.1, okm_30.2.2.2, Nat.le_of_ble_eq_true rfl, Nat.le_of_ble_eq_true rfl, Or.inl (tb2 155 rfl rfl)⟩, Nat.le_of_ble_eq_true rfl, oki_30, okv_30, ⟨_, rfl, rfl⟩⟩, List.forall_mem_cons.mpr ⟨⟨⟨okm_38.1, okm_38.2.1, okm_38.2.2.1, okm_38.2.2.2, Nat.le_of_ble_eq_true rfl, Nat.le_of_ble_eq_true rfl, Or.inl (tb2 134 rfl rfl)⟩, Nat.le_of_ble_eq_true rfl, oki_38, okv_38, ⟨_, rfl, rfl⟩⟩, List.forall_mem_cons.mpr ⟨trivial, fun _ h => absurd h List.not_mem_nil⟩⟩⟩⟩⟩⟩⟩⟩), List.forall_mem_cons.mpr ⟨(List.forall_mem_cons.mpr ⟨trivial, List.forall_mem_cons.mpr ⟨rfl, fun _ h => absurd h List.not_mem_nil⟩⟩), fun _ h => absurd h List.not_mem_nil⟩⟩⟩⟩, by decide +kernel, rfl⟩
set_option maxRecDepth 100000 in
theorem okQ_46 : sm_Q PZ PP 46 := ⟨by decide +kernel, show ∀ ch ∈ pc_46, ∀ q ∈ ch, sm_okL PZ PP 46 q.2.1 q.2.2.2.1 q.2.2.2.2.1 q.2.2.2.2.2 from List.forall_mem_cons.mpr ⟨(List.forall_mem_cons.mpr ⟨trivial, List.forall_mem_cons.mpr ⟨⟨_, rfl, Nat.le_of_ble_eq_true rfl, Or.inl (tb1 75 rfl rfl)⟩, List.forall_mem_cons.mpr ⟨trivial, List.forall_mem_cons.mpr ⟨trivial, List.forall_mem_cons.mpr ⟨rfl, List.forall_mem_cons.mpr ⟨trivial, List.forall_mem_cons.mpr ⟨⟨⟨okm_44.1, okm_44.2.1, okm_44.2.2.1, okm_44.2.2.2, Nat.le_of_ble_eq_true rfl, Nat.le_of_ble_eq_true rfl, Or.inl (tb2 147 rfl rfl)⟩, Nat.le_of_ble_eq_true rfl, oki_44, okv_44, ⟨_, rfl, rfl⟩⟩, List.forall_mem_cons.mpr ⟨trivial, List.forall_mem_cons.mpr ⟨trivial, fun _ h => absurd h List.not_mem_nil⟩⟩⟩⟩⟩⟩⟩⟩⟩), List.forall_mem_cons.mpr ⟨(List.forall_mem_cons.mpr ⟨⟨_, rfl, Nat.le_of_ble_eq_true rfl, Or.inl (tb1 71 rfl rfl)⟩, List.forall_mem_cons.mpr ⟨trivial, List.forall_mem_cons.mpr ⟨⟨_, rfl, Nat.le_of_ble_eq_true rfl, Or.inl (tb1 75 rfl rfl)⟩, List.forall_mem_cons.mpr ⟨trivial, List.forall_mem_cons.mpr ⟨trivial, List.forall_mem_cons.mpr ⟨trivial, List.forall_mem_cons.mpr ⟨trivial, List.forall_mem_cons.mpr ⟨⟨⟨okm_45.1, okm_45.2.1, okm_45.2.2.1, okm_45.2.2.2, Nat.le_of_ble_eq_true rfl, Nat.le_of_ble_eq_true rfl, Or.inl (tb2 151 rfl rfl)⟩, Nat.le_of_ble_eq_true rfl, oki_45, okv_45, ⟨_, rfl, rfl⟩⟩, List.forall_mem_cons.mpr ⟨trivial, List.forall_mem_cons.mpr ⟨⟨_, rfl, Nat.le_of_ble_eq_true rfl, Or.inl (tb1 73 rfl rfl)⟩, fun _ h => absurd h List.not_mem_nil⟩⟩⟩⟩⟩⟩⟩⟩⟩⟩), List.forall_mem_cons.mpr ⟨(List.forall_mem_cons.mpr ⟨trivial, List.forall_mem_cons.mpr ⟨⟨_, rfl, Nat.le_of_ble_eq_true rfl, Or.inl (tb1 75 rfl rfl)⟩, List.forall_mem_cons.mpr ⟨trivial, List.forall_mem_cons.mpr ⟨trivial, List.forall_mem_cons.mpr ⟨trivial, List.forall_mem_cons.mpr ⟨trivial, List.forall_mem_cons.mpr ⟨trivial, List.forall_mem_cons.mpr ⟨trivial, List.forall_mem_cons.mpr ⟨⟨_, rfl, Nat.le_of_ble_eq_true rfl, Or.inr ⟨_, List.mem_of_getElem? (i := 2) rfl⟩⟩, List.forall_mem_cons.mpr ⟨⟨⟨okm_45.1, okm_45.2.1, okm_45.2.2.1, okm_45.2.2.2, Nat.le_of_ble_eq_true rfl, Nat.le_of_ble_eq_true rfl, Or.inl (tb2 151 rfl rfl)⟩, Nat.le_of_ble_eq_true rfl, oki_45, okv_45, ⟨_, rfl, rfl⟩⟩, fun _ h => absurd h List.not_mem_nil⟩⟩⟩⟩⟩⟩⟩⟩⟩⟩), List.forall_mem_cons.mpr ⟨(List.forall_mem_cons.mpr ⟨trivial, List.forall_mem_cons.mpr ⟨trivial, List.forall_mem_cons.mpr ⟨⟨_, rfl, Nat.le_of_ble_eq_true rfl, Or.inl (tb1 75 rfl rfl)⟩, List.forall_mem_cons.mpr ⟨trivial, List.forall_mem_cons.mpr ⟨trivial, List.forall_mem_cons.mpr ⟨⟨_, rfl, Nat.le_of_ble_eq_true rfl, ⟨.int, by decide +kernel, rfl⟩, Or.inl ⟨rfl, Or.inl (tb1 75 rfl rfl)⟩⟩, List.forall_mem_cons.mpr ⟨rfl, fun _ h => absurd h List.not_mem_nil⟩⟩⟩⟩⟩⟩⟩), fun _ h => absurd h List.not_mem_nil⟩⟩⟩⟩, by decide +kernel, rfl⟩
set_option maxRecDepth 100000 in
theorem okQ_47 : sm_Q PZ PP 47 := ⟨by decide +kernel, show ∀ ch ∈ pc_47, ∀ q ∈ ch, sm_okL PZ PP 47 q.2.1 q.2.2.2.1 q.2.2.2.2.1 q.2.2.2.2.2 from List.forall_mem_cons.mpr ⟨(List.forall_mem_cons.mpr ⟨trivial, List.forall_mem_cons.mpr ⟨⟨_, rfl, Nat.le_of_ble_eq_true rfl, Or.inl (tb2 48 rfl rfl)⟩, List.forall_mem_cons.mpr ⟨⟨_, rfl, Nat.le_of_ble_eq_true rfl, Or.inr ⟨_, List.mem_of_getElem? (i := 11) rfl⟩⟩, List.forall_mem_cons.mpr ⟨trivial, List.forall_mem_cons.mpr ⟨trivial, List.forall_mem_cons.mpr ⟨trivial, List.forall_mem_cons.mpr ⟨rfl, List.forall_mem_cons.mpr ⟨trivial, fun _ h => absurd h List.not_mem_nil⟩⟩⟩⟩⟩⟩⟩⟩), List.forall_mem_cons.mpr ⟨(List.forall_mem_cons.mpr ⟨⟨_, rfl, Nat.le_of_ble_eq_true rfl, Or.inl (tb2 47 rfl rfl)⟩, List.forall_mem_cons.mpr ⟨⟨⟨okm_35.1, okm_35.2.1, okm_35.2.2.1, okm_35.2.2.2, Nat.le_of_ble_eq_true rfl, Nat.le_of_ble_eq_true rfl, Or.inl (tb2 85 rfl rfl)⟩, Nat.le_of_ble_eq_true rfl, oki_35, okv_35, ⟨_, rfl, rfl⟩⟩, List.forall_mem_cons.mpr ⟨trivial, List.forall_mem_cons.mpr ⟨trivial, List.forall_mem_cons.mpr ⟨trivial, List.forall_mem_cons.mpr ⟨trivial, List.forall_mem_cons.mpr ⟨trivial, List.forall_mem_cons.mpr ⟨trivial, fun _ h => absurd h List.not_mem_nil⟩⟩⟩⟩⟩⟩⟩⟩), List.forall_mem_cons.mpr ⟨(List.forall_mem_cons.mpr ⟨trivial, List.forall_mem_cons.mpr ⟨rfl, List.forall_mem_cons.mpr ⟨trivial, List.forall_mem_cons.mpr ⟨⟨⟨okm_43.1, okm_43.2.1, okm_43.2.2.1, okm_43.2.2.2, Nat.le_of_ble_eq_true rfl, Nat.le_of_ble_eq_true rfl, Or.inl (tb2 106 rfl rfl)⟩, Nat.le_of_ble_eq_true rfl, oki_43, okv_43, ⟨_, rfl, rfl⟩⟩, List.forall_mem_cons.mpr ⟨trivial, List.forall_mem_cons.mpr ⟨⟨_, rfl, Nat.le_of_ble_eq_true rfl, Or.inl (tb2 48 rfl rfl)⟩, List.forall_mem_cons.mpr ⟨trivial, List.forall_mem_cons.mpr ⟨⟨_, rfl, Nat.le_of_ble_eq_true rfl, Or.inl (tb2 47 rfl rfl)⟩, List.forall_mem_cons.mpr ⟨⟨⟨okm_46.1, okm_46.2.1, okm_46.2.2.1, okm_46.2.2.2, Nat.le_of_ble_eq_true rfl, Nat.le_of_ble_eq_true rfl, Or.inl (tb2 143 rfl rfl)⟩, Nat.le_of_ble_eq_true rfl, oki_46, okv_46, ⟨_, rfl, rfl⟩⟩, fun _ h => absurd h List.not_mem_nil⟩⟩⟩⟩⟩⟩⟩⟩⟩), List.forall_mem_cons.mpr ⟨(List.forall_mem_cons.mpr ⟨trivial, List.forall_mem_cons.mpr ⟨⟨_, rfl, Nat.le_of_ble_eq_true rfl, Or.inl (tb2 47 rfl rfl)⟩, List.forall_mem_cons.mpr ⟨trivial, List.forall_mem_cons.mpr ⟨⟨_, rfl, Nat.le_of_ble_eq_true rfl, ⟨.int, by decide +kernel, rfl⟩, Or.inl ⟨rfl, Or.inr ⟨_, List.mem_of_getElem? (i := 1) rfl⟩⟩⟩, List.forall_mem_cons.mpr ⟨trivial, List.forall_mem_cons.mpr ⟨⟨_, rfl, Nat.le_of_ble_eq_true rfl, Or.inl (tb2 48 rfl rfl)⟩, List.forall_mem_cons.mpr ⟨⟨_, rfl, Nat.le_of_ble_eq_true rfl, Or.inr ⟨_, List.mem_of_getElem? (i := 11) rfl⟩⟩, fun _ h => absurd h List.not_mem_nil⟩⟩⟩⟩⟩⟩⟩), List.forall_mem_cons.mpr ⟨(List.forall_mem_cons.mpr ⟨trivial, List.forall_mem_cons.mpr ⟨trivial, List.forall_mem_cons.mpr ⟨rfl, fun _ h => absurd h List.not_mem_nil⟩⟩⟩), fun _ h => absurd h List.not_mem_nil⟩⟩⟩⟩⟩, by decide +kernel, rfl⟩
set_option maxRecDepth 100000 in
theorem okQ_48 : sm_Q PZ PP 48 := ⟨by decide +kernel, show ∀ ch ∈ pc_48, ∀ q ∈ ch, sm_okL PZ PP 48 q.2.1 q.2.2.2.1 q.2.2.2.2.1 q.2.2.2.2.2 from List.forall_mem_cons.mpr ⟨(List.forall_mem_cons.mpr ⟨trivial, List.forall_mem_cons.mpr ⟨trivial, List.forall_mem_cons.mpr ⟨trivial, List.forall_mem_cons.mpr ⟨trivial, List.forall_mem_cons.mpr ⟨⟨_, rfl, Nat.le_of_ble_eq_true rfl, Or.inl (tb1 75 rfl rfl)⟩, List.forall_mem_cons.mpr ⟨trivial, List.forall_mem_cons.mpr ⟨trivial, List.forall_mem_cons.mpr ⟨trivial, List.forall_mem_cons.mpr ⟨trivial, fun _ h => absurd h List.not_mem_nil⟩⟩⟩⟩⟩⟩⟩⟩⟩), List.forall_mem_cons.mpr ⟨(List.forall_mem_cons.mpr ⟨trivial, List.forall_mem_cons.mpr ⟨trivial, List.forall_mem_cons.mpr ⟨trivial, List.forall_mem_cons.mpr ⟨rfl, fun _ h => absurd h List.not_mem_nil⟩⟩⟩⟩), fun _ h => absurd h List.not_mem_nil⟩⟩, by decide +kernel, rfl⟩
set_option maxRecDepth 100000 in
theorem okQ_49 : sm_Q PZ PP 49 := ⟨by decide +kernel, show ∀ ch ∈ pc_49, ∀ q ∈ ch, sm_okL PZ PP 49 q.2.1 q.2.2.2.1 q.2.2.2.2.1 q.2.2.2.2.2 from List.forall_mem_cons.mpr ⟨(List.forall_mem_cons.mpr ⟨trivial, List.forall_mem_cons.mpr ⟨trivial, List.forall_mem_cons.mpr ⟨⟨⟨okm_48.1, okm_48.2.1, okm_48.2.2.1, okm_48.2.2.2, Nat.le_of_ble_eq_true rfl, Nat.le_of_ble_eq_true rfl, Or.inl (tb2 168 rfl rfl)⟩, Nat.le_of_ble_eq_true rfl, oki_48, okv_48, ⟨_, rfl, rfl⟩⟩, List.forall_mem_cons.mpr ⟨trivial, List.forall_mem_cons.mpr ⟨rfl, List.forall_mem_cons.mpr ⟨trivial, List.forall_mem_cons.mpr ⟨trivial, List.forall_mem_cons.mpr ⟨trivial, List.forall_mem_cons.mpr ⟨trivial, List.forall_mem_cons.mpr ⟨⟨_, rfl, Nat.le_of_ble_eq_true rfl, Or.inl (tb1 75 rfl rfl)⟩, fun _ h => absurd h List.not_mem_nil⟩⟩⟩⟩⟩⟩⟩⟩⟩⟩), List.forall_mem_cons.mpr ⟨(List.forall_mem_cons.mpr ⟨trivial, List.forall_mem_cons.mpr ⟨trivial, List.forall_mem_cons.mpr ⟨trivial, List.forall_mem_cons.mpr ⟨trivial, List.forall_mem_cons.mpr ⟨trivial, List.forall_mem_cons.mpr ⟨trivial, List.forall_mem_cons.mpr ⟨trivial, List.forall_mem_cons.mpr ⟨⟨_, rfl, Nat.le_of_ble_eq_true rfl, Or.inl (tb1 71 rfl rfl)⟩, List.forall_mem_cons.mpr ⟨trivial, List.forall_mem_cons.mpr ⟨trivial, fun _ h => absurd h List.not_mem_nil⟩⟩⟩⟩⟩⟩⟩⟩⟩⟩), List.forall_mem_cons.mpr ⟨(List.forall_mem_cons.mpr ⟨trivial, List.forall_mem_cons.mpr ⟨⟨_, rfl, Nat.le_of_ble_eq_true rfl, Or.inl (tb1 71 rfl rfl)⟩, List.forall_mem_cons.mpr ⟨trivial, List.forall_mem_cons.mpr ⟨trivial, List.forall_mem_cons.mpr ⟨trivial, List.forall_mem_cons.mpr ⟨trivial, List.forall_mem_cons.mpr ⟨⟨⟨okm_39.1, okm_39.2.1, okm_39.2.2.1, okm_39.2.2.2, Nat.le_of_ble_eq_true rfl, Nat.le_of_ble_eq_true rfl, Or.inl (tb2 121 rfl rfl)⟩, Nat.le_of_ble_eq_true rfl, oki_39, okv_39, ⟨_, rfl, rfl⟩⟩, List.forall_mem_cons.mpr ⟨trivial, List.forall_mem_cons.mpr ⟨⟨_, rfl, Nat.le_of_ble_eq_true rfl, Or.inl (tb1 73 rfl rfl)⟩, List.forall_mem_cons.mpr ⟨trivial, fun _ h => absurd h List.not_mem_nil⟩⟩⟩⟩⟩⟩⟩⟩⟩⟩), List.forall_mem_cons.mpr ⟨(List.forall_mem_cons.mpr ⟨trivial, List.forall_mem_cons.mpr ⟨trivial, List.forall_mem_cons.mpr ⟨⟨_, rfl, Nat.le_of_ble_eq_true rfl, Or.inl (tb1 73 rfl rfl)⟩, List.forall_mem_cons.mpr ⟨trivial, List.forall_mem_cons.mpr ⟨trivial, List.forall_mem_cons.mpr ⟨trivial, List.forall_mem_cons.mpr ⟨trivial, List.forall_mem_cons.mpr ⟨⟨⟨okm_39.1, okm_39.2.1, okm_39.2.2.1, okm_39.2.2.2, Nat.le_of_ble_eq_true rfl, Nat.le_of_ble_eq_true rfl, Or.inl (tb2 121 rfl rfl)⟩, Nat.le_of_ble_eq_true rfl, oki_39, okv_39, ⟨_, rfl, rfl⟩⟩, List.forall_mem_cons.mpr ⟨trivial, List.forall_mem_cons.mpr ⟨trivial, fun _ h => absurd h List.not_mem_nil⟩⟩⟩⟩⟩⟩⟩⟩⟩⟩), List.forall_mem_cons.mpr ⟨(List.forall_mem_cons.mpr ⟨trivial, List.forall_mem_cons.mpr ⟨trivial, List.forall_mem_cons.mpr ⟨⟨_, rfl, Nat.le_of_ble_eq_true rfl, Or.inl (tb1 75 rfl rfl)⟩, List.forall_mem_cons.mpr ⟨trivial, List.forall_mem_cons.mpr ⟨trivial, List.forall_mem_cons.mpr ⟨⟨_, rfl, Nat.le_of_ble_eq_true rfl, ⟨.int, by decide +kernel, rfl⟩, Or.inl ⟨rfl, Or.inl (tb1 75 rfl rfl)⟩⟩, List.forall_mem_cons.mpr ⟨rfl, fun _ h => absurd h List.not_mem_nil⟩⟩⟩⟩⟩⟩⟩), fun _ h => absurd h List.not_mem_nil⟩⟩⟩⟩⟩, by decide +kernel, rfl⟩
set_option maxRecDepth 100000 in
theorem okQ_50 : sm_Q PZ PP 50 := ⟨by decide +kernel, show ∀ ch ∈ pc_50, ∀ q ∈ ch, sm_okL PZ PP 50 q.2.1 q.2.2.2.1 q.2.2.2.2.1 q.2.2.2.2.2 from List.forall_mem_cons.mpr ⟨(List.forall_mem_cons.mpr ⟨trivial, List.forall_mem_cons.mpr ⟨⟨_, rfl, Nat.le_of_ble_eq_true rfl, Or.inl (tb2 48 rfl rfl)⟩, List.forall_mem_cons.mpr ⟨trivial, List.forall_mem_cons.mpr ⟨⟨⟨okm_48.1, okm_48.2.1, okm_48.2.2.1, okm_48.2.2.2, Nat.le_of_ble_eq_true rfl, Nat.le_of_ble_eq_true rfl, Or.inl (tb2 160 rfl rfl)⟩, Nat.le_of_ble_eq_true rfl, oki_48, okv_48, ⟨_, rfl, rfl⟩⟩, List.forall_mem_cons.mpr ⟨trivial, List.forall_mem_cons.mpr ⟨trivial, List.forall_mem_cons.mpr ⟨rfl, List.forall_mem_cons.mpr ⟨trivial, List.forall_mem_cons.mpr ⟨⟨⟨okm_43.1, okm_43.2.1, okm_43.2.2.1, okm_43.2.2.2, Nat.le_of_ble_eq_true rfl, Nat.le_of_ble_eq_true rfl, Or.inl (tb2 106 rfl rfl)⟩, Nat.le_of_ble_eq_true rfl, oki_43, okv_43, ⟨_, rfl, rfl⟩⟩, fun _ h => absurd h List.not_mem_nil⟩⟩⟩⟩⟩⟩⟩⟩⟩), List.forall_mem_cons.mpr ⟨(List.forall_mem_cons.mpr ⟨trivial, List.forall_mem_cons.mpr ⟨⟨_, rfl, Nat.le_of_ble_eq_true rfl, Or.inl (tb2 48 rfl rfl)⟩, List.forall_mem_cons.mpr ⟨trivial, List.forall_mem_cons.mpr ⟨⟨⟨okm_49.1, okm_49.2.1, okm_49.2.2.1, okm_49.2.2.2, Nat.le_of_ble_eq_true rfl, Nat.le_of_ble_eq_true rfl, Or.inl (tb2 164 rfl rfl)⟩, Nat.le_of_ble_eq_true rfl, oki_49, okv_49, ⟨_, rfl, rfl⟩⟩, List.forall_mem_cons.mpr ⟨trivial, List.forall_mem_cons.mpr ⟨⟨_, rfl, Nat.le_of_ble_eq_true rfl, Or.inl (tb2 48 rfl rfl)⟩, List.forall_mem_cons.mpr ⟨⟨_, rfl, Nat.le_of_ble_eq_true rfl, Or.inr ⟨_, List.mem_of_getElem? (i := 11) rfl⟩⟩, fun _ h => absurd h List.not_mem_nil⟩⟩⟩⟩⟩⟩⟩), List.forall_mem_cons.mpr ⟨(List.forall_mem_cons.mpr ⟨rfl, fun _ h => absurd h List.not_mem_nil⟩), fun _ h => absurd h List.not_mem_nil⟩⟩⟩, by decide +kernel, rfl⟩
set_option maxRecDepth 100000 in
theorem okQ_51 : sm_Q PZ PP 51 := ⟨by decide +kernel, show ∀ ch ∈ pc_51, ∀ q ∈ ch, sm_okL PZ PP 51 q.2.1 q.2.2.2.1 q.2.2.2.2.1 q.2.2.2.2.2 from List.forall_mem_cons.mpr ⟨(List.forall_mem_cons.mpr ⟨trivial, List.forall_mem_cons.mpr ⟨trivial, List.forall_mem_cons.mpr ⟨⟨⟨okm_48.1, okm_48.2.1, okm_48.2.2.1, okm_48.2.2.2, Nat.le_of_ble_eq_true rfl, Nat.le_of_ble_eq_true rfl, Or.inl (tb2 168 rfl rfl)⟩, Nat.le_of_ble_eq_true rfl, oki_48, okv_48, ⟨_, rfl, rfl⟩⟩, List.forall_mem_cons.mpr ⟨trivial, List.forall_mem_cons.mpr ⟨trivial, List.forall_mem_cons.mpr ⟨trivial, List.forall_mem_cons.mpr ⟨trivial, List.forall_mem_cons.mpr ⟨trivial, List.forall_mem_cons.mpr ⟨trivial, fun _ h => absurd h List.not_mem_nil⟩⟩⟩⟩⟩⟩⟩⟩⟩), List.forall_mem_cons.mpr ⟨(List.forall_mem_cons.mpr ⟨trivial, List.forall_mem_cons.mpr ⟨⟨_, rfl, Or.inl ⟨_, rfl⟩⟩, List.forall_mem_cons.mpr ⟨trivial, List.forall_mem_cons.mpr ⟨trivial, List.forall_mem_cons.mpr ⟨trivial, List.forall_mem_cons.mpr ⟨⟨_, rfl, Nat.le_of_ble_eq_true rfl, Or.inl (tb1 71 rfl rfl)⟩, List.forall_mem_cons.mpr ⟨trivial, List.forall_mem_cons.mpr ⟨trivial, List.forall_mem_cons.mpr ⟨trivial, fun _ h => absurd h List.not_mem_nil⟩⟩⟩⟩⟩⟩⟩⟩⟩), List.forall_mem_cons.mpr ⟨(List.forall_mem_cons.mpr ⟨trivial, List.forall_mem_cons.mpr ⟨⟨_, rfl, Nat.le_of_ble_eq_true rfl, Or.inl (tb1 73 rfl rfl)⟩, List.forall_mem_cons.mpr ⟨trivial, List.forall_mem_cons.mpr ⟨trivial, List.forall_mem_cons.mpr ⟨⟨_, rfl, Or.inl ⟨_, rfl⟩⟩, fun _ h => absurd h List.not_mem_nil⟩⟩⟩⟩⟩), fun _ h => absurd h List.not_mem_nil⟩⟩⟩, by decide +kernel, rfl⟩
set_option maxRecDepth 100000 in
theorem okQ_52 : sm_Q PZ PP 52 := ⟨by decide +kernel, show ∀ ch ∈ pc_52, ∀ q ∈ ch, sm_okL PZ PP 52 q.2.1 q.2.2.2.1 q.2.2.2.2.1 q.2.2.2.2.2 from List.forall_mem_cons.mpr ⟨(List.forall_mem_cons.mpr ⟨trivial, List.forall_mem_cons.mpr ⟨⟨_, rfl, Nat.le_of_ble_eq_true rfl, Or.inl (tb2 48 rfl rfl)⟩, List.forall_mem_cons.mpr ⟨trivial, List.forall_mem_cons.mpr ⟨trivial, List.forall_mem_cons.mpr ⟨⟨⟨okm_51.1, okm_51.2.1, okm_51.2.2.1, okm_51.2.2.2, Nat.le_of_ble_eq_true rfl, Nat.le_of_ble_eq_true rfl, Or.inl (tb2 173 rfl rfl)⟩, Nat.le_of_ble_eq_true rfl, oki_51, okv_51, ⟨_, rfl, rfl⟩⟩, List.forall_mem_cons.mpr ⟨trivial, List.forall_mem_cons.mpr ⟨trivial, List.forall_mem_cons.mpr ⟨trivial, fun _ h => absurd h List.not_mem_nil⟩⟩⟩⟩⟩⟩⟩⟩), List.forall_mem_cons.mpr ⟨(List.forall_mem_cons.mpr ⟨trivial, List.forall_mem_cons.mpr ⟨trivial, List.forall_mem_cons.mpr ⟨⟨⟨okm_36.1, okm_36.2.1, okm_36.2.2.1, okm_36.2.2.2, Nat.le_of_ble_eq_true rfl, Nat.le_of_ble_eq_true rfl, Or.inl (tb2 177 rfl rfl)⟩, Nat.le_of_ble_eq_true rfl, oki_36, okv_36, ⟨_, rfl, rfl⟩⟩, List.forall_mem_cons.mpr ⟨trivial, List.forall_mem_cons.mpr ⟨trivial, List.forall_mem_cons.mpr ⟨rfl, List.forall_mem_cons.mpr ⟨trivial, List.forall_mem_cons.mpr ⟨trivial, List.forall_mem_cons.mpr ⟨⟨⟨okm_37.1, okm_37.2.1, okm_37.2.2.1, okm_37.2.2.2, Nat.le_of_ble_eq_true rfl, Nat.le_of_ble_eq_true rfl, Or.inl (tb2 178 rfl rfl)⟩, Nat.le_of_ble_eq_true rfl, oki_37, okv_37, ⟨_, rfl, rfl⟩⟩, fun _ h => absurd h List.not_mem_nil⟩⟩⟩⟩⟩⟩⟩⟩⟩), List.forall_mem_cons.mpr ⟨(List.forall_mem_cons.mpr ⟨trivial, List.forall_mem_cons.mpr ⟨trivial, List.forall_mem_cons.mpr ⟨trivial, List.forall_mem_cons.mpr ⟨trivial, List.forall_mem_cons.mpr ⟨trivial, List.forall_mem_cons.mpr ⟨trivial, List.forall_mem_cons.mpr ⟨trivial, fun _ h => absurd h List.not_mem_nil⟩⟩⟩⟩⟩⟩⟩), List.forall_mem_cons.mpr ⟨(List.forall_mem_cons.mpr ⟨trivial, List.forall_mem_cons.mpr ⟨rfl, List.forall_mem_cons.mpr ⟨trivial, List.forall_mem_cons.mpr ⟨⟨⟨okm_43.1, okm_43.2.1, okm_43.2.2.1, okm_43.2.2.2, Nat.le_of_ble_eq_true rfl, Nat.le_of_ble_eq_true rfl, Or.inl (tb2 106 rfl rfl)⟩, Nat.le_of_ble_eq_true rfl, oki_43, okv_43, ⟨_, rfl, rfl⟩⟩, List.forall_mem_cons.mpr ⟨trivial, List.forall_mem_cons.mpr ⟨trivial, List.forall_mem_cons.mpr ⟨trivial, List.forall_mem_cons.mpr ⟨⟨⟨okm_38.1, okm_38.2.1, okm_38.2.2.1, okm_38.2.2.2, Nat.le_of_ble_eq_true rfl, Nat.le_of_ble_eq_true rfl, Or.inl (tb2 179 rfl rfl)⟩, Nat.le_of_ble_eq_true rfl, oki_38, okv_38, ⟨_, rfl, rfl⟩⟩, fun _ h => absurd h List.not_mem_nil⟩⟩⟩⟩⟩⟩⟩⟩), List.forall_mem_cons.mpr ⟨(List.forall_mem_cons.mpr ⟨trivial, List.forall_mem_cons.mpr ⟨rfl, fun _ h => absurd h List.not_mem_nil⟩⟩), fun _ h => absurd h List.not_mem_nil⟩⟩⟩⟩⟩, by decide +kernel, rfl⟩
set_option maxRecDepth 100000 in
theorem okQ_53 : sm_Q PZ PP 53 := ⟨by decide +kernel, show ∀ ch ∈ pc_53, ∀ q ∈ ch, sm_okL PZ PP 53 q.2.1 q.2.2.2.1 q.2.2.2.2.1 q.2.2.2.2.2 from List.forall_mem_cons.mpr ⟨(List.forall_mem_cons.mpr ⟨trivial, List.forall_mem_cons.mpr ⟨trivial, List.forall_mem_cons.mpr ⟨trivial, List.forall_mem_cons.mpr ⟨⟨⟨okm_31.1, okm_31.2.1, okm_31.2.2.1, okm_31.2.2.2, Nat.le_of_ble_eq_true rfl, Nat.le_of_ble_eq_true rfl, Or.inl (tb2 187 rfl rfl)⟩, Nat.le_of_ble_eq_true rfl, oks_31⟩, List.forall_mem_cons.mpr ⟨trivial, List.forall_mem_cons.mpr ⟨trivial, List.forall_mem_cons.mpr ⟨⟨⟨okm_33.1, okm_33.2.1, okm_33.2.2.1, okm_33.2.2.2, Nat.le_of_ble_eq_true rfl, Nat.le_of_ble_eq_true rfl, Or.inl (tb2 188 rfl rfl)⟩, Nat.le_of_ble_eq_true rfl, oks_33⟩, List.forall_mem_cons.mpr ⟨rfl, fun _ h => absurd h List.not_mem_nil⟩⟩⟩⟩⟩⟩⟩⟩), fun _ h => absurd h List.not_mem_nil⟩, by decide +kernel, rfl⟩
set_option maxRecDepth 100000 in
theorem okQ_54 : sm_Q PZ PP 54 := ⟨by decide +kernel, show ∀ ch ∈ pc_54, ∀ q ∈ ch, sm_okL PZ PP 54 q.2.1 q.2.2.2.1 q.2.2.2.2.1 q.2.2.2.2.2 from List.forall_mem_cons.mpr ⟨(List.forall_mem_cons.mpr ⟨trivial, List.forall_mem_cons.mpr ⟨trivial, List.forall_mem_cons.mpr ⟨trivial, List.forall_mem_cons.mpr ⟨trivial, List.forall_mem_cons.mpr ⟨trivial, List.forall_mem_cons.mpr ⟨trivial, List.forall_mem_cons.mpr ⟨⟨_, rfl, Nat.le_of_ble_eq_true rfl, Or.inl (tb1 61 rfl rfl)⟩, List.forall_mem_cons.mpr ⟨trivial, List.forall_mem_cons.mpr ⟨trivial, List.forall_mem_cons.mpr ⟨trivial, List.forall_mem_cons.mpr ⟨⟨⟨okm_37.1, okm_37.2.1, okm_37.2.2.1, okm_37.2.2.2, Nat.le_of_ble_eq_true rfl, Nat.le_of_ble_eq_true rfl, Or.inl (tb2 126 rfl rfl)⟩, Nat.le_of_ble_eq_true rfl, oki_37, okv_37, ⟨_, rfl, rfl⟩⟩, fun _ h => absurd h List.not_mem_nil⟩⟩⟩⟩⟩⟩⟩⟩⟩⟩⟩), List.forall_mem_cons.mpr ⟨(List.forall_mem_cons.mpr ⟨trivial, List.forall_mem_cons.mpr ⟨trivial, List.forall_mem_cons.mpr ⟨trivial, List.forall_mem_cons.mpr ⟨trivial, List.forall_mem_cons.mpr ⟨trivial, List.forall_mem_cons.mpr ⟨trivial, fun _ h => absurd h List.not_mem_nil⟩⟩⟩⟩⟩⟩), List.forall_mem_cons.mpr ⟨(List.forall_mem_cons.mpr ⟨rfl, fun _ h => absurd h List.not_mem_nil⟩), fun _ h => absurd h List.not_mem_nil⟩⟩⟩, by decide +kernel, rfl⟩
set_option maxRecDepth 100000 in
theorem okQ_55 : sm_Q PZ PP 55 := ⟨by decide +kernel, show ∀ ch ∈ pc_55, ∀ q ∈ ch, sm_okL PZ PP 55 q.2.1 q.2.2.2.1 q.2.2.2.2.1 q.2.2.2.2.2 from List.forall_mem_cons.mpr ⟨(List.forall_mem_cons.mpr ⟨trivial, List.forall_mem_cons.mpr ⟨trivial, List.forall_mem_cons.mpr ⟨⟨⟨okm_48.1, okm_48.2.1, okm_48.2.2.1, okm_48.2.2.2, Nat.le_of_ble_eq_true rfl, Nat.le_of_ble_eq_true rfl, Or.inl (tb2 168 rfl rfl)⟩, Nat.le_of_ble_eq_true rfl, oki_48, okv_48, ⟨_, rfl, rfl⟩⟩, List.forall_mem_cons.mpr ⟨trivial, List.forall_mem_cons.mpr ⟨trivial, List.forall_mem_cons.mpr ⟨⟨_, rfl, Nat.le_of_ble_eq_true rfl, Or.inl (tb1 71 rfl rfl)⟩, List.forall_mem_cons.mpr ⟨trivial, List.forall_mem_cons.mpr ⟨trivial, List.forall_mem_cons.mpr ⟨⟨⟨okm_54.1, okm_54.2.1, okm_54.2.2.1, okm_54.2.2.2, Nat.le_of_ble_eq_true rfl, Nat.le_of_ble_eq_true rfl, Or.inl (tb2 193 rfl rfl)⟩, Nat.le_of_ble_eq_true rfl, oki_54, okv_54, ⟨_, rfl, rfl⟩⟩, fun _ h => absurd h List.not_mem_nil⟩⟩⟩⟩⟩⟩⟩⟩⟩), List.forall_mem_cons.mpr ⟨(List.forall_mem_cons.mpr ⟨trivial, List.forall_mem_cons.mpr ⟨⟨_, rfl, Nat.le_of_ble_eq_true rfl, Or.inl (tb1 73 rfl rfl)⟩, List.forall_mem_cons.mpr ⟨trivial, List.forall_mem_cons.mpr ⟨trivial, List.forall_mem_cons.mpr ⟨⟨⟨okm_54.1, okm_54.2.1, okm_54.2.2.1, okm_54.2.2.2, Nat.le_of_ble_eq_true rfl, Nat.le_of_ble_eq_true rfl, Or.inl (tb2 193 rfl rfl)⟩, Nat.le_of_ble_eq_true rfl, oki_54, okv_54, ⟨_, rfl, rfl⟩⟩, List.forall_mem_cons.mpr ⟨trivial, List.forall_mem_cons.mpr ⟨trivial, List.forall_mem_cons.mpr ⟨trivial, List.forall_mem_cons.mpr ⟨rfl, fun _ h => absurd h List.not_mem_nil⟩⟩⟩⟩⟩⟩⟩⟩⟩), fun _ h => absurd h List.not_mem_nil⟩⟩, by decide +kernel, rfl⟩
set_option maxRecDepth 100000 in
theorem okQ_56 : sm_Q PZ PP 56 := ⟨by decide +kernel, show ∀ ch ∈ pc_56, ∀ q ∈ ch, sm_okL PZ PP 56 q.2.1 q.2.2.2.1 q.2.2.2.2.1 q.2.2.2.2.2 from List.forall_mem_cons.mpr ⟨(List.forall_mem_cons.mpr ⟨trivial, List.forall_mem_cons.mpr ⟨⟨_, rfl, Nat.le_of_ble_eq_true rfl, Or.inl (tb2 48 rfl rfl)⟩, List.forall_mem_cons.mpr ⟨trivial, List.forall_mem_cons.mpr ⟨trivial, List.forall_mem_cons.mpr ⟨⟨⟨okm_51.1, okm_51.2.1, okm_51.2.2.1, okm_51.2.2.2, Nat.le_of_ble_eq_true rfl, Nat.le_of_ble_eq_true rfl, Or.inl (tb2 173 rfl rfl)⟩, Nat.le_of_ble_eq_true rfl, oki_51, okv_51, ⟨_, rfl, rfl⟩⟩, List.forall_mem_cons.mpr ⟨trivial, List.forall_mem_cons.mpr ⟨trivial, List.forall_mem_cons.mpr ⟨trivial, fun _ h => absurd h List.not_mem_nil⟩⟩⟩⟩⟩⟩⟩⟩), List.forall_mem_cons.mpr ⟨(List.forall_mem_cons.mpr ⟨trivial, List.forall_mem_cons.mpr ⟨trivial, List.forall_mem_cons.mpr ⟨⟨⟨okm_36.1, okm_36.2.1, okm_36.2.2.1, okm_36.2.2.2, Nat.le_of_ble_eq_true rfl, Nat.le_of_ble_eq_true rfl, Or.inl (tb2 177 rfl rfl)⟩, Nat.le_of_ble_eq_true rfl, oki_36, okv_36, ⟨_, rfl, rfl⟩⟩, List.forall_mem_cons.mpr ⟨trivial, List.forall_mem_cons.mpr ⟨trivial, List.forall_mem_cons.mpr ⟨trivial, List.forall_mem_cons.mpr ⟨⟨⟨okm_53.1, okm_53.2.1, okm_53.2.2.1, okm_53.2.2.2, Nat.le_of_ble_eq_true rfl, Nat.le_of_ble_eq_true rfl, Or.inl (tb2 184 rfl rfl)⟩, Nat.le_of_ble_eq_true rfl, oks_53⟩, List.forall_mem_cons.mpr ⟨trivial, fun _ h => absurd h List.not_mem_nil⟩⟩⟩⟩⟩⟩⟩⟩), List.forall_mem_cons.mpr ⟨(List.forall_mem_cons.mpr ⟨trivial, List.forall_mem_cons.mpr ⟨rfl, List.forall_mem_cons.mpr ⟨trivial, List.forall_mem_cons.mpr ⟨trivial, List.forall_mem_cons.mpr ⟨⟨⟨okm_37.1, okm_37.2.1, okm_37.2.2.1, okm_37.2.2.2, Nat.le_of_ble_eq_true rfl, Nat.le_of_ble_eq_true rfl, Or.inl (tb2 178 rfl rfl)⟩, Nat.le_of_ble_eq_true rfl, oki_37, okv_37, ⟨_, rfl, rfl⟩⟩, List.forall_mem_cons.mpr ⟨trivial, List.forall_mem_cons.mpr ⟨trivial, List.forall_mem_cons.mpr ⟨trivial, fun _ h => absurd h List.not_mem_nil⟩⟩⟩⟩⟩⟩⟩⟩), List.forall_mem_cons.mpr ⟨(List.forall_mem_cons.mpr ⟨rfl, List.forall_mem_cons.mpr ⟨trivial, List.forall_mem_cons.mpr ⟨⟨⟨okm_43.1, okm_43.2.1, okm_43.2.2.1, okm_43.2.2.2, Nat.le_of_ble_eq_true rfl, Nat.le_of_ble_eq_true rfl, Or.inl (tb2 106 rfl rfl)⟩, Nat.le_of_ble_eq_true rfl, oki_43, okv_43, ⟨_, rfl, rfl⟩⟩, List.forall_mem_cons.mpr ⟨trivial, List.forall_mem_cons.mpr ⟨trivial, List.forall_mem_cons.mpr ⟨trivial, List.forall_mem_cons.mpr ⟨trivial, List.forall_mem_cons.mpr ⟨⟨⟨okm_38.1, okm_38.2.1, okm_38.2.2.1, okm_38.2.2.2, Nat.le_of_ble_eq_true rfl, Nat.le_of_ble_eq_true rfl, Or.inl (tb2 179 rfl rfl)⟩, Nat.le_of_ble_eq_true rfl, oki_38, okv_38, ⟨_, rfl, rfl⟩⟩, List.forall_mem_cons.mpr ⟨trivial, fun _ h => absurd h List.not_mem_nil⟩⟩⟩⟩⟩⟩⟩⟩⟩), List.forall_mem_cons.mpr ⟨(List.forall_mem_cons.mpr ⟨⟨_, rfl, Nat.le_of_ble_eq_true rfl, Or.inl (tb2 48 rfl rfl)⟩, List.forall_mem_cons.mpr ⟨trivial, List.forall_mem_cons.mpr ⟨⟨⟨okm_55.1, okm_55.2.1, okm_55.2.2.1, okm_55.2.2.2, Nat.le_of_ble_eq_true rfl, Nat.le_of_ble_eq_true rfl, Or.inl (tb2 189 rfl rfl)⟩, Nat.le_of_ble_eq_true rfl, oki_55, okv_55, ⟨_, rfl, rfl⟩⟩, List.forall_mem_cons.mpr ⟨rfl, fun _ h => absurd h List.not_mem_nil⟩⟩⟩⟩), fun _ h => absurd h List.not_mem_nil⟩⟩⟩⟩⟩, by decide +kernel, rfl⟩
set_option maxRecDepth 100000 in
theorem okQ_57 : sm_Q PZ PP 57 := ⟨by decide +kernel, show ∀ ch ∈ pc_57, ∀ q ∈ ch, sm_okL PZ PP 57 q.2.1 q.2.2.2.1 q.2.2.2.2.1 q.2.2.2.2.2 from List.forall_mem_cons.mpr ⟨(List.forall_mem_cons.mpr ⟨trivial, List.forall_mem_cons.mpr ⟨trivial, List.forall_mem_cons.mpr ⟨trivial, List.forall_mem_cons.mpr ⟨trivial, List.forall_mem_cons.mpr ⟨trivial, List.forall_mem_cons.mpr ⟨trivial, List.forall_mem_cons.mpr ⟨rfl, List.forall_mem_cons.mpr ⟨trivial, List.forall_mem_cons.mpr ⟨⟨_, rfl, Nat.le_of_ble_eq_true rfl, Or.inl (tb2 48 rfl rfl)⟩, List.forall_mem_cons.mpr ⟨⟨_, rfl, Nat.le_of_ble_eq_true rfl, Or.inr ⟨_, List.mem_of_getElem? (i := 13) rfl⟩⟩, fun _ h => absurd h List.not_mem_nil⟩⟩⟩⟩⟩⟩⟩⟩⟩⟩), List.forall_mem_cons.mpr ⟨(List.forall_mem_cons.mpr ⟨trivial, List.forall_mem_cons.mpr ⟨trivial, List.forall_mem_cons.mpr ⟨trivial, List.forall_mem_cons.mpr ⟨trivial, List.forall_mem_cons.mpr ⟨trivial, List.forall_mem_cons.mpr ⟨rfl, List.forall_mem_cons.mpr ⟨trivial, List.forall_mem_cons.mpr ⟨⟨⟨okm_43.1, okm_43.2.1, okm_43.2.2.1, okm_43.2.2.2, Nat.le_of_ble_eq_true rfl, Nat.le_of_ble_eq_true rfl, Or.inl (tb2 106 rfl rfl)⟩, Nat.le_of_ble_eq_true rfl, oki_43, okv_43, ⟨_, rfl, rfl⟩⟩, List.forall_mem_cons.mpr ⟨trivial, fun _ h => absurd h List.not_mem_nil⟩⟩⟩⟩⟩⟩⟩⟩⟩), List.forall_mem_cons.mpr ⟨(List.forall_mem_cons.mpr ⟨⟨_, rfl, Nat.le_of_ble_eq_true rfl, Or.inl (tb2 48 rfl rfl)⟩, List.forall_mem_cons.mpr ⟨trivial, List.forall_mem_cons.mpr ⟨⟨_, rfl, Nat.le_of_ble_eq_true rfl, ⟨.int, by decide +kernel, rfl⟩, Or.inl ⟨rfl, Or.inr ⟨_, List.mem_of_getElem? (i := 13) rfl⟩⟩⟩, List.forall_mem_cons.mpr ⟨trivial, List.forall_mem_cons.mpr ⟨rfl, fun _ h => absurd h List.not_mem_nil⟩⟩⟩⟩⟩), fun _ h => absurd h List.not_mem_nil⟩⟩⟩, by decide +kernel, rfl⟩
set_option maxRecDepth 100000 in
theorem okQ_58 : sm_Q PZ PP 58 := ⟨by decide +kernel, show ∀ ch ∈ pc_58, ∀ q ∈ ch, sm_okL PZ PP 58 q.2.1 q.2.2.2.1 q.2.2.2.2.1 q.2.2.2.2.2 from List.forall_mem_cons.mpr ⟨(List.forall_mem_cons.mpr ⟨trivial, List.forall_mem_cons.mpr ⟨trivial, List.forall_mem_cons.mpr ⟨trivial, List.forall_mem_cons.mpr ⟨trivial, List.forall_mem_cons.mpr ⟨trivial, List.forall_mem_cons.mpr ⟨trivial, List.forall_mem_cons.mpr ⟨trivial, List.forall_mem_cons.mpr ⟨trivial, fun _ h => absurd h List.not_mem_nil⟩⟩⟩⟩⟩⟩⟩⟩), List.forall_mem_cons.mpr ⟨(List.forall_mem_cons.mpr ⟨trivial, List.forall_mem_cons.mpr ⟨rfl, List.forall_mem_cons.mpr ⟨trivial, List.forall_mem_cons.mpr ⟨⟨_, rfl, Nat.le_of_ble_eq_true rfl, Or.inl (tb2 48 rfl rfl)⟩, List.forall_mem_cons.mpr ⟨⟨_, rfl, Nat.le_of_ble_eq_true rfl, Or.inr ⟨_, List.mem_of_getElem? (i := 15) rfl⟩⟩, List.forall_mem_cons.mpr ⟨trivial, List.forall_mem_cons.mpr ⟨trivial, List.forall_mem_cons.mpr ⟨trivial, List.forall_mem_cons.mpr ⟨trivial, fun _ h => absurd h List.not_mem_nil⟩⟩⟩⟩⟩⟩⟩⟩⟩), List.forall_mem_cons.mpr ⟨(List.forall_mem_cons.mpr ⟨trivial, List.forall_mem_cons.mpr ⟨rfl, List.forall_mem_cons.mpr ⟨trivial, List.forall_mem_cons.mpr ⟨⟨⟨okm_43.1, okm_43.2.1, okm_43.2.2.1, okm_43.2.2.2, Nat.le_of_ble_eq_true rfl, Nat.le_of_ble_eq_true rfl, Or.inl (tb2 106 rfl rfl)⟩, Nat.le_of_ble_eq_true rfl, oki_43, okv_43, ⟨_, rfl, rfl⟩⟩, List.forall_mem_cons.mpr ⟨trivial, List.forall_mem_cons.mpr ⟨⟨_, rfl, Nat.le_of_ble_eq_true rfl, Or.inl (tb2 48 rfl rfl)⟩, List.forall_mem_cons.mpr ⟨trivial, List.forall_mem_cons.mpr ⟨⟨_, rfl, Nat.le_of_ble_eq_true rfl, ⟨.int, by decide +kernel, rfl⟩, Or.inl ⟨rfl, Or.inr ⟨_, List.mem_of_getElem? (i := 15) rfl⟩⟩⟩, List.forall_mem_cons.mpr ⟨trivial, fun _ h => absurd h List.not_mem_nil⟩⟩⟩⟩⟩⟩⟩⟩⟩), List.forall_mem_cons.mpr ⟨(List.forall_mem_cons.mpr ⟨rfl, fun _ h => absurd h List.not_mem_nil⟩), fun _ h => absurd h List.not_mem_nil⟩⟩⟩⟩, by decide +kernel, rfl⟩
set_option maxRecDepth 100000 in
theorem okQ_59 : sm_Q PZ PP 59 := ⟨by decide +kernel, show ∀ ch ∈ pc_59, ∀ q ∈ ch, sm_okL PZ PP 59 q.2.1 q.2.2.2.1 q.2.2.2.2.1 q.2.2.2.2.2 from List.forall_mem_cons.mpr ⟨(List.forall_mem_cons.mpr ⟨trivial, List.forall_mem_cons.mpr ⟨⟨_, rfl, Nat.le_of_ble_eq_true rfl, Or.inl (tb1 108 rfl rfl)⟩, List.forall_mem_cons.mpr ⟨trivial, List.forall_mem_cons.mpr ⟨rfl, List.forall_mem_cons.mpr ⟨trivial, List.forall_mem_cons.mpr ⟨trivial, List.forall_mem_cons.mpr ⟨⟨_, rfl, Nat.le_of_ble_eq_true rfl, Or.inl (tb1 107 rfl rfl)⟩, List.forall_mem_cons.mpr ⟨trivial, fun _ h => absurd h List.not_mem_nil⟩⟩⟩⟩⟩⟩⟩⟩), List.forall_mem_cons.mpr ⟨(List.forall_mem_cons.mpr ⟨trivial, List.forall_mem_cons.mpr ⟨⟨_, rfl, Nat.le_of_ble_eq_true rfl, Or.inl (tb1 107 rfl rfl)⟩, List.forall_mem_cons.mpr ⟨trivial, List.forall_mem_cons.mpr ⟨trivial, List.forall_mem_cons.mpr ⟨trivial, List.forall_mem_cons.mpr ⟨trivial, List.forall_mem_cons.mpr ⟨⟨_, rfl, Nat.le_of_ble_eq_true rfl, ⟨.int, by decide +kernel, rfl⟩, Or.inl ⟨rfl, Or.inl (tb1 107 rfl rfl)⟩⟩, List.forall_mem_cons.mpr ⟨trivial, List.forall_mem_cons.mpr ⟨trivial, fun _ h => absurd h List.not_mem_nil⟩⟩⟩⟩⟩⟩⟩⟩⟩), List.forall_mem_cons.mpr ⟨(List.forall_mem_cons.mpr ⟨⟨_, rfl, Nat.le_of_ble_eq_true rfl, Or.inl (tb1 106 rfl rfl)⟩, List.forall_mem_cons.mpr ⟨trivial, List.forall_mem_cons.mpr ⟨⟨_, rfl, Nat.le_of_ble_eq_true rfl, Or.inl (tb1 107 rfl rfl)⟩, List.forall_mem_cons.mpr ⟨trivial, List.forall_mem_cons.mpr ⟨⟨⟨okm_40.1, okm_40.2.1, okm_40.2.2.1, okm_40.2.2.2, Nat.le_of_ble_eq_true rfl, Nat.le_of_ble_eq_true rfl, Or.inl (tb2 114 rfl rfl)⟩, Nat.le_of_ble_eq_true rfl, oki_40, okv_40, ⟨_, rfl, rfl⟩⟩, List.forall_mem_cons.mpr ⟨trivial, List.forall_mem_cons.mpr ⟨trivial, List.forall_mem_cons.mpr ⟨⟨_, rfl, Nat.le_of_ble_eq_true rfl, Or.inl (tb1 108 rfl rfl)⟩, fun _ h => absurd h List.not_mem_nil⟩⟩⟩⟩⟩⟩⟩⟩), List.forall_mem_cons.mpr ⟨(List.forall_mem_cons.mpr ⟨trivial, List.forall_mem_cons.mpr ⟨trivial, List.forall_mem_cons.mpr ⟨⟨_, rfl, Nat.le_of_ble_eq_true rfl, ⟨.int, by decide +kernel, rfl⟩, Or.inl ⟨rfl, Or.inl (tb1 108 rfl rfl)⟩⟩, List.forall_mem_cons.mpr ⟨rfl, fun _ h => absurd h List.not_mem_nil⟩⟩⟩⟩), fun _ h => absurd h List.not_mem_nil⟩⟩⟩⟩, by decide +kernel, rfl⟩
set_option maxRecDepth 100000 in
theorem okQ_60 : sm_Q PZ PP 60 := ⟨by decide +kernel, show ∀ ch ∈ pc_60, ∀ q ∈ ch, sm_okL PZ PP 60 q.2.1 q.2.2.2.1 q.2.2.2.2.1 q.2.2.2.2.2 from List.forall_mem_cons.mpr ⟨(List.forall_mem_cons.mpr ⟨trivial, List.forall_mem_cons.mpr ⟨⟨_, rfl, Nat.le_of_ble_eq_true rfl, Or.inl (tb2 49 rfl rfl)⟩, List.forall_mem_cons.mpr ⟨⟨_, rfl, Nat.le_of_ble_eq_true rfl, Or.inr ⟨_, List.mem_of_getElem? (i := 18) rfl⟩⟩, List.forall_mem_cons.mpr ⟨trivial, List.forall_mem_cons.mpr ⟨trivial, List.forall_mem_cons.mpr ⟨rfl, List.forall_mem_cons.mpr ⟨trivial, List.forall_mem_cons.mpr ⟨⟨_, rfl, Nat.le_of_ble_eq_true rfl, Or.inl (tb2 49 rfl rfl)⟩, fun _ h => absurd h List.not_mem_nil⟩⟩⟩⟩⟩⟩⟩⟩), List.forall_mem_cons.mpr ⟨(List.forall_mem_cons.mpr ⟨trivial, List.forall_mem_cons.mpr ⟨⟨_, rfl, Nat.le_of_ble_eq_true rfl, Or.inl (tb2 48 rfl rfl)⟩, List.forall_mem_cons.mpr ⟨⟨⟨okm_59.1, okm_59.2.1, okm_59.2.2.1, okm_59.2.2.2, Nat.le_of_ble_eq_true rfl, Nat.le_of_ble_eq_true rfl, Or.inl (tb2 209 rfl rfl)⟩, Nat.le_of_ble_eq_true rfl, oki_59, okv_59, ⟨_, rfl, rfl⟩⟩, List.forall_mem_cons.mpr ⟨trivial, List.forall_mem_cons.mpr ⟨⟨_, rfl, Nat.le_of_ble_eq_true rfl, Or.inl (tb2 53 rfl rfl)⟩, List.forall_mem_cons.mpr ⟨⟨⟨okm_42.1, okm_42.2.1, okm_42.2.2.1, okm_42.2.2.2, Nat.le_of_ble_eq_true rfl, Nat.le_of_ble_eq_true rfl, Or.inl (tb2 139 rfl rfl)⟩, Nat.le_of_ble_eq_true rfl, oki_42, okv_42, ⟨_, rfl, rfl⟩⟩, List.forall_mem_cons.mpr ⟨trivial, fun _ h => absurd h List.not_mem_nil⟩⟩⟩⟩⟩⟩⟩), List.forall_mem_cons.mpr ⟨(List.forall_mem_cons.mpr ⟨⟨_, rfl, Nat.le_of_ble_eq_true rfl, Or.inl (tb2 49 rfl rfl)⟩, List.forall_mem_cons.mpr ⟨⟨_, rfl, Nat.le_of_ble_eq_true rfl, Or.inr ⟨_, List.mem_of_getElem? (i := 18) rfl⟩⟩, List.forall_mem_cons.mpr ⟨rfl, fun _ h => absurd h List.not_mem_nil⟩⟩⟩), fun _ h => absurd h List.not_mem_nil⟩⟩⟩, by decide +kernel, rfl⟩
set_option maxRecDepth 100000 in
theorem okQ_61 : sm_Q PZ PP 61 := ⟨by decide +kernel, show ∀ ch ∈ pc_61, ∀ q ∈ ch, sm_okL PZ PP 61 q.2.1 q.2.2.2.1 q.2.2.2.2.1 q.2.2.2.2.2 from List.forall_mem_cons.mpr ⟨(List.forall_mem_cons.mpr ⟨trivial, List.forall_mem_cons.mpr ⟨trivial, List.forall_mem_cons.mpr ⟨trivial, List.forall_mem_cons.mpr ⟨⟨⟨okm_51.1, okm_51.2.1, okm_51.2.2.1, okm_51.2.2.2, Nat.le_of_ble_eq_true rfl, Nat.le_of_ble_eq_true rfl, Or.inl (tb2 221 rfl rfl)⟩, Nat.le_of_ble_eq_true rfl, oki_51, okv_51, ⟨_, rfl, rfl⟩⟩, List.forall_mem_cons.mpr ⟨trivial, List.forall_mem_cons.mpr ⟨trivial, List.forall_mem_cons.mpr ⟨trivial, List.forall_mem_cons.mpr ⟨trivial, List.forall_mem_cons.mpr ⟨trivial, List.forall_mem_cons.mpr ⟨trivial, fun _ h => absurd h List.not_mem_nil⟩⟩⟩⟩⟩⟩⟩⟩⟩⟩), List.forall_mem_cons.mpr ⟨(List.forall_mem_cons.mpr ⟨⟨_, rfl, Nat.le_of_ble_eq_true rfl, Or.inr ⟨_, List.mem_of_getElem? (i := 5) rfl⟩⟩, List.forall_mem_cons.mpr ⟨rfl, fun _ h => absurd h List.not_mem_nil⟩⟩), fun _ h => absurd h List.not_mem_nil⟩⟩, by decide +kernel, rfl⟩
set_option maxRecDepth 100000 in
theorem okQ_62 : sm_Q PZ PP 62 := ⟨by decide +kernel, show ∀ ch ∈ pc_62, ∀ q ∈ ch, sm_okL PZ PP 62 q.2.1 q.2.2.2.1 q.2.2.2.2.1 q.2.2.2.2.2 from List.forall_mem_cons.mpr ⟨(List.forall_mem_cons.mpr ⟨trivial, List.forall_mem_cons.mpr ⟨⟨_, rfl, Nat.le_of_ble_eq_true rfl, Or.inr ⟨_, List.mem_of_getElem? (i := 6) rfl⟩⟩, List.forall_mem_cons.mpr ⟨trivial, List.forall_mem_cons.mpr ⟨trivial, List.forall_mem_cons.mpr ⟨⟨⟨okm_16.1, okm_16.2.1, okm_16.2.2.1, okm_16.2.2.2, Nat.le_of_ble_eq_true rfl, Nat.le_of_ble_eq_true rfl, Or.inl (tb1 198 rfl rfl)⟩, Nat.le_of_ble_eq_true rfl, oki_16, okv_16, ⟨_, rfl, rfl⟩⟩, List.forall_mem_cons.mpr ⟨trivial, List.forall_mem_cons.mpr ⟨trivial, List.forall_mem_cons.mpr ⟨rfl, List.forall_mem_cons.mpr ⟨trivial, fun _ h => absurd h List.not_mem_nil⟩⟩⟩⟩⟩⟩⟩⟩⟩), List.forall_mem_cons.mpr ⟨(List.forall_mem_cons.mpr ⟨trivial, List.forall_mem_cons.mpr ⟨trivial, List.forall_mem_cons.mpr ⟨trivial, List.forall_mem_cons.mpr ⟨trivial, List.forall_mem_cons.mpr ⟨trivial, List.forall_mem_cons.mpr ⟨trivial, List.forall_mem_cons.mpr ⟨trivial, List.forall_mem_cons.mpr ⟨⟨_, rfl, Nat.le_of_ble_eq_true rfl, Or.inr ⟨_, List.mem_of_getElem? (i := 6) rfl⟩⟩, List.forall_mem_cons.mpr ⟨trivial, fun _ h => absurd h List.not_mem_nil⟩⟩⟩⟩⟩⟩⟩⟩⟩), List.forall_mem_cons.mpr ⟨(List.forall_mem_cons.mpr ⟨trivial, List.forall_mem_cons.mpr ⟨trivial, List.forall_mem_cons.mpr ⟨⟨⟨okm_37.1, okm_37.2.1, okm_37.2.2.1, okm_37.2.2.2, Nat.le_of_ble_eq_true rfl, Nat.le_of_ble_eq_true rfl, Or.inl (tb2 238 rfl rfl)⟩, Nat.le_of_ble_eq_true rfl, oki_37, okv_37, ⟨_, rfl, rfl⟩⟩, List.forall_mem_cons.mpr ⟨trivial, List.forall_mem_cons.mpr ⟨trivial, List.forall_mem_cons.mpr ⟨trivial, List.forall_mem_cons.mpr ⟨trivial, List.forall_mem_cons.mpr ⟨⟨⟨okm_17.1, okm_17.2.1, okm_17.2.2.1, okm_17.2.2.2, Nat.le_of_ble_eq_true rfl, Nat.le_of_ble_eq_true rfl, Or.inl (tb1 202 rfl rfl)⟩, Nat.le_of_ble_eq_true rfl, oki_17, okv_17, ⟨_, rfl, rfl⟩⟩, fun _ h => absurd h List.not_mem_nil⟩⟩⟩⟩⟩⟩⟩⟩), List.forall_mem_cons.mpr ⟨(List.forall_mem_cons.mpr ⟨trivial, List.forall_mem_cons.mpr ⟨trivial, List.forall_mem_cons.mpr ⟨trivial, List.forall_mem_cons.mpr ⟨trivial, List.forall_mem_cons.mpr ⟨trivial, List.forall_mem_cons.mpr ⟨trivial, List.forall_mem_cons.mpr ⟨trivial, List.forall_mem_cons.mpr ⟨trivial, fun _ h => absurd h List.not_mem_nil⟩⟩⟩⟩⟩⟩⟩⟩), List.forall_mem_cons.mpr ⟨(List.forall_mem_cons.mpr ⟨trivial, List.forall_mem_cons.mpr ⟨trivial, List.forall_mem_cons.mpr ⟨trivial, List.forall_mem_cons.mpr ⟨trivial, List.forall_mem_cons.mpr ⟨trivial, List.forall_mem_cons.mpr ⟨trivial, List.forall_mem_cons.mpr ⟨trivial, List.forall_mem_cons.mpr ⟨rfl, fun _ h => absurd h List.not_mem_nil⟩⟩⟩⟩⟩⟩⟩⟩), List.forall_mem_cons.mpr ⟨(List.forall_mem_cons.mpr ⟨trivial, List.forall_mem_cons.mpr ⟨trivial, List.forall_mem_cons.mpr ⟨trivial, List.forall_mem_cons.mpr ⟨trivial, List.forall_mem_cons.mpr ⟨trivial, List.forall_mem_cons.mpr ⟨trivial, List.forall_mem_cons.mpr ⟨trivial, fun _ h => absurd h List.not_mem_nil⟩⟩⟩⟩⟩⟩⟩), List.forall_mem_cons.mpr ⟨(List.forall_mem_cons.mpr ⟨trivial, List.forall_mem_cons.mpr ⟨trivial, List.forall_mem_cons.mpr ⟨trivial, List.forall_mem_cons.mpr ⟨trivial, List.forall_mem_cons.mpr ⟨trivial, fun _ h => absurd h List.not_mem_nil⟩⟩⟩⟩⟩), List.forall_mem_cons.mpr ⟨(List.forall_mem_cons.mpr ⟨trivial, List.forall_mem_cons.mpr ⟨trivial, List.forall_mem_cons.mpr ⟨trivial, List.forall_mem_cons.mpr ⟨trivial, List.forall_mem_cons.mpr ⟨trivial, List.forall_mem_cons.mpr ⟨trivial, List.forall_mem_cons.mpr ⟨rfl, fun _ h => absurd h List.not_mem_nil⟩⟩⟩⟩⟩⟩⟩), fun _ h => absurd h List.not_mem_nil⟩⟩⟩⟩⟩⟩⟩⟩, by decide +kernel, rfl⟩
set_option maxRecDepth 100000 in
theorem okQ_63 : sm_Q PZ PP 63 := ⟨by decide +kernel, show ∀ ch ∈ pc_63, ∀ q ∈ ch, sm_okL PZ PP 63 q.2.1 q.2.2.2.1 q.2.2.2.2.1 q.2.2.2.2.2 from List.forall_mem_cons.mpr ⟨(List.forall_mem_cons.mpr ⟨trivial, List.forall_mem_cons.mpr ⟨trivial, List.forall_mem_cons.mpr ⟨trivial, List.forall_mem_cons.mpr ⟨trivial, List.forall_mem_cons.mpr ⟨rfl, List.forall_mem_cons.mpr ⟨trivial, List.forall_mem_cons.mpr ⟨trivial, List.forall_mem_cons.mpr ⟨trivial, List.forall_mem_cons.mpr ⟨trivial, List.forall_mem_cons.mpr ⟨trivial, fun _ h => absurd h List.not_mem_nil⟩⟩⟩⟩⟩⟩⟩⟩⟩⟩), List.forall_mem_cons.mpr ⟨(List.forall_mem_cons.mpr ⟨trivial, List.forall_mem_cons.mpr ⟨rfl, fun _ h => absurd h List.not_mem_nil⟩⟩), fun _ h => absurd h List.not_mem_nil⟩⟩, by decide +kernel, rfl⟩
set_option maxRecDepth 100000 in
theorem okQ_64 : sm_Q PZ PP 64 := ⟨by decide +kernel, show ∀ ch ∈ pc_64, ∀ q ∈ ch, sm_okL PZ PP 64 q.2.1 q.2.2.2.1 q.2.2.2.2.1 q.2.2.2.2.2 from List.forall_mem_cons.mpr ⟨(List.forall_mem_cons.mpr ⟨trivial, List.forall_mem_cons.mpr ⟨trivial, List.forall_mem_cons.mpr ⟨⟨(tb3 9 rfl rfl), (tb2 119 rfl rfl), (tb1 5 rfl rfl), (tb2 120 rfl rfl), Nat.le_of_ble_eq_true rfl, Nat.le_of_ble_eq_true rfl⟩, List.forall_mem_cons.mpr ⟨trivial, List.forall_mem_cons.mpr ⟨trivial, List.forall_mem_cons.mpr ⟨trivial, List.forall_mem_cons.mpr ⟨⟨(tb3 10 rfl rfl), (tb1 58 rfl rfl), (tb1 5 rfl rfl), (tb1 59 rfl rfl), Nat.le_of_ble_eq_true rfl, Nat.le_of_ble_eq_true rfl⟩, List.forall_mem_cons.mpr ⟨trivial, List.forall_mem_cons.mpr ⟨trivial, List.forall_mem_cons.mpr ⟨trivial, List.forall_mem_cons.mpr ⟨trivial, fun _ h => absurd h List.not_mem_nil⟩⟩⟩⟩⟩⟩⟩⟩⟩⟩⟩), List.forall_mem_cons.mpr ⟨(List.forall_mem_cons.mpr ⟨trivial, List.forall_mem_cons.mpr ⟨trivial, List.forall_mem_cons.mpr ⟨⟨_, List.mem_of_getElem? (i := 5) rfl⟩, List.forall_mem_cons.mpr ⟨⟨⟨okm_7.1, okm_7.2.1, okm_7.2.2.1, okm_7.2.2.2, Nat.le_of_ble_eq_true rfl, Nat.le_of_ble_eq_true rfl, Or.inl (tb3 12 rfl rfl)⟩, Nat.le_of_ble_eq_true rfl, oki_7, okv_7, rfl⟩, List.forall_mem_cons.mpr ⟨trivial, List.forall_mem_cons.mpr ⟨⟨_, List.mem_of_getElem? (i := 5) rfl⟩, List.forall_mem_cons.mpr ⟨trivial, List.forall_mem_cons.mpr ⟨⟨⟨okm_12.1, okm_12.2.1, okm_12.2.2.1, okm_12.2.2.2, Nat.le_of_ble_eq_true rfl, Nat.le_of_ble_eq_true rfl, Or.inl (tb3 13 rfl rfl)⟩, Nat.le_of_ble_eq_true rfl, oki_12, okv_12, rfl⟩, fun _ h => absurd h List.not_mem_nil⟩⟩⟩⟩⟩⟩⟩⟩), List.forall_mem_cons.mpr ⟨(List.forall_mem_cons.mpr ⟨trivial, List.forall_mem_cons.mpr ⟨trivial, List.forall_mem_cons.mpr ⟨⟨_, List.mem_of_getElem? (i := 5) rfl⟩, List.forall_mem_cons.mpr ⟨trivial, List.forall_mem_cons.mpr ⟨trivial, List.forall_mem_cons.mpr ⟨trivial, List.forall_mem_cons.mpr ⟨⟨⟨okm_12.1, okm_12.2.1, okm_12.2.2.1, okm_12.2.2.2, Nat.le_of_ble_eq_true rfl, Nat.le_of_ble_eq_true rfl, Or.inl (tb3 13 rfl rfl)⟩, Nat.le_of_ble_eq_true rfl, oki_12, okv_12, rfl⟩, List.forall_mem_cons.mpr ⟨trivial, fun _ h => absurd h List.not_mem_nil⟩⟩⟩⟩⟩⟩⟩⟩), List.forall_mem_cons.mpr ⟨(List.forall_mem_cons.mpr ⟨trivial, List.forall_mem_cons.mpr ⟨trivial, List.forall_mem_cons.mpr ⟨rfl, List.forall_mem_cons.mpr ⟨trivial, List.forall_mem_cons.mpr ⟨trivial, List.forall_mem_cons.mpr ⟨trivial, List.forall_mem_cons.mpr ⟨rfl, fun _ h => absurd h List.not_mem_nil⟩⟩⟩⟩⟩⟩⟩), fun _ h => absurd h List.not_mem_nil⟩⟩⟩⟩, by decide +kernel, rfl⟩
set_option maxRecDepth 100000 in
theorem okQ_65 : sm_Q PZ PP 65 := ⟨by decide +kernel, show ∀ ch ∈ pc_65, ∀ q ∈ ch, sm_okL PZ PP 65 q.2.1 q.2.2.2.1 q.2.2.2.2.1 q.2.2.2.2.2 from List.forall_mem_cons.mpr ⟨(List.forall_mem_cons.mpr ⟨trivial, List.forall_mem_cons.mpr ⟨⟨_, rfl, Nat.le_of_ble_eq_true rfl, Or.inr ⟨_, List.mem_of_getElem? (i := 4) rfl⟩⟩, List.forall_mem_cons.mpr ⟨trivial, List.forall_mem_cons.mpr ⟨⟨⟨okm_63.1, okm_63.2.1, okm_63.2.2.1, okm_63.2.2.2, Nat.le_of_ble_eq_true rfl, Nat.le_of_ble_eq_true rfl, Or.inl (tb3 2 rfl rfl)⟩, Nat.le_of_ble_eq_true rfl, oks_63⟩, List.forall_mem_cons.mpr ⟨trivial, List.forall_mem_cons.mpr ⟨trivial, List.forall_mem_cons.mpr ⟨rfl, List.forall_mem_cons.mpr ⟨trivial, List.forall_mem_cons.mpr ⟨trivial, fun _ h => absurd h List.not_mem_nil⟩⟩⟩⟩⟩⟩⟩⟩⟩), List.forall_mem_cons.mpr ⟨(List.forall_mem_cons.mpr ⟨trivial, List.forall_mem_cons.mpr ⟨trivial, List.forall_mem_cons.mpr ⟨trivial, List.forall_mem_cons.mpr ⟨⟨_, rfl, Nat.le_of_ble_eq_true rfl, Or.inr ⟨_, List.mem_of_getElem? (i := 4) rfl⟩⟩, List.forall_mem_cons.mpr ⟨trivial, List.forall_mem_cons.mpr ⟨trivial, List.forall_mem_cons.mpr ⟨trivial, List.forall_mem_cons.mpr ⟨trivial, List.forall_mem_cons.mpr ⟨trivial, List.forall_mem_cons.mpr ⟨trivial, fun _ h => absurd h List.not_mem_nil⟩⟩⟩⟩⟩⟩⟩⟩⟩⟩), List.forall_mem_cons.mpr ⟨(List.forall_mem_cons.mpr ⟨trivial, List.forall_mem_cons.mpr ⟨⟨⟨okm_37.1, okm_37.2.1, okm_37.2.2.1, okm_37.2.2.2, Nat.le_of_ble_eq_true rfl, Nat.le_of_ble_eq_true rfl, Or.inl (tb3 5 rfl rfl)⟩, Nat.le_of_ble_eq_true rfl, oki_37, okv_37, ⟨_, rfl, rfl⟩⟩, List.forall_mem_cons.mpr ⟨trivial, List.forall_mem_cons.mpr ⟨trivial, List.forall_mem_cons.mpr ⟨trivial, List.forall_mem_cons.mpr ⟨trivial, List.forall_mem_cons.mpr ⟨trivial, List.forall_mem_cons.mpr ⟨trivial, List.forall_mem_cons.mpr ⟨trivial, fun _ h => absurd h List.not_mem_nil⟩⟩⟩⟩⟩⟩⟩⟩⟩), List.forall_mem_cons.mpr ⟨(List.forall_mem_cons.mpr ⟨trivial, List.forall_mem_cons.mpr ⟨trivial, List.forall_mem_cons.mpr ⟨trivial, List.forall_mem_cons.mpr ⟨trivial, List.forall_mem_cons.mpr ⟨trivial, List.forall_mem_cons.mpr ⟨trivial, List.forall_mem_cons.mpr ⟨trivial, List.forall_mem_cons.mpr ⟨trivial, List.forall_mem_cons.mpr ⟨trivial, fun _ h => absurd h List.not_mem_nil⟩⟩⟩⟩⟩⟩⟩⟩⟩), List.forall_mem_cons.mpr ⟨(List.forall_mem_cons.mpr ⟨trivial, List.forall_mem_cons.mpr ⟨trivial, List.forall_mem_cons.mpr ⟨⟨⟨okm_64.1, okm_64.2.1, okm_64.2.2.1, okm_64.2.2.2, Nat.le_of_ble_eq_true rfl, Nat.le_of_ble_eq_true rfl, Or.inl (tb3 6 rfl rfl)⟩, Nat.le_of_ble_eq_true rfl, oks_64⟩, List.forall_mem_cons.mpr ⟨trivial, List.forall_mem_cons.mpr ⟨trivial, List.forall_mem_cons.mpr ⟨trivial, fun _ h => absurd h List.not_mem_nil⟩⟩⟩⟩⟩⟩), List.forall_mem_cons.mpr ⟨(List.forall_mem_cons.mpr ⟨trivial, List.forall_mem_cons.mpr ⟨trivial, List.forall_mem_cons.mpr ⟨trivial, List.forall_mem_cons.mpr ⟨trivial, List.forall_mem_cons.mpr ⟨rfl, List.forall_mem_cons.mpr ⟨trivial, List.forall_mem_cons.mpr ⟨trivial, fun _ h => absurd h List.not_mem_nil⟩⟩⟩⟩⟩⟩⟩), List.forall_mem_cons.mpr ⟨(List.forall_mem_cons.mpr ⟨trivial, List.forall_mem_cons.mpr ⟨rfl, fun _ h => absurd h List.not_mem_nil⟩⟩), fun _ h => absurd h List.not_mem_nil⟩⟩⟩⟩⟩⟩⟩, by decide +kernel, rfl⟩
set_option maxRecDepth 100000 in
theorem okQ_66 : sm_Q PZ PP 66 := ⟨by decide +kernel, show ∀ ch ∈ pc_66, ∀ q ∈ ch, sm_okL PZ PP 66 q.2.1 q.2.2.2.1 q.2.2.2.2.1 q.2.2.2.2.2 from List.forall_mem_cons.mpr ⟨(List.forall_mem_cons.mpr ⟨trivial, List.forall_mem_cons.mpr ⟨⟨_, rfl, Nat.le_of_ble_eq_true rfl, Or.inl (tb2 3 rfl rfl)⟩, List.forall_mem_cons.mpr ⟨trivial, List.forall_mem_cons.mpr ⟨⟨_, rfl, Nat.le_of_ble_eq_true rfl, Or.inl (tb2 1 rfl rfl)⟩, List.forall_mem_cons.mpr ⟨trivial, List.forall_mem_cons.mpr ⟨trivial, List.forall_mem_cons.mpr ⟨trivial, List.forall_mem_cons.mpr ⟨⟨_, rfl, Nat.le_of_ble_eq_true rfl, Or.inl (tb2 3 rfl rfl)⟩, fun _ h => absurd h List.not_mem_nil⟩⟩⟩⟩⟩⟩⟩⟩), List.forall_mem_cons.mpr ⟨(List.forall_mem_cons.mpr ⟨trivial, List.forall_mem_cons.mpr ⟨⟨_, rfl, Nat.le_of_ble_eq_true rfl, Or.inl (tb2 2 rfl rfl)⟩, List.forall_mem_cons.mpr ⟨trivial, List.forall_mem_cons.mpr ⟨trivial, List.forall_mem_cons.mpr ⟨trivial, List.forall_mem_cons.mpr ⟨⟨_, rfl, Nat.le_of_ble_eq_true rfl, Or.inl (tb2 1 rfl rfl)⟩, List.forall_mem_cons.mpr ⟨trivial, List.forall_mem_cons.mpr ⟨⟨_, rfl, Nat.le_of_ble_eq_true rfl, Or.inl (tb2 3 rfl rfl)⟩, fun _ h => absurd h List.not_mem_nil⟩⟩⟩⟩⟩⟩⟩⟩), List.forall_mem_cons.mpr ⟨(List.forall_mem_cons.mpr ⟨trivial, List.forall_mem_cons.mpr ⟨trivial, List.forall_mem_cons.mpr ⟨trivial, List.forall_mem_cons.mpr ⟨⟨_, rfl, Nat.le_of_ble_eq_true rfl, Or.inl (tb2 2 rfl rfl)⟩, List.forall_mem_cons.mpr ⟨trivial, List.forall_mem_cons.mpr ⟨⟨_, rfl, Nat.le_of_ble_eq_true rfl, Or.inl (tb2 3 rfl rfl)⟩, List.forall_mem_cons.mpr ⟨trivial, List.forall_mem_cons.mpr ⟨trivial, List.forall_mem_cons.mpr ⟨trivial, List.forall_mem_cons.mpr ⟨trivial, List.forall_mem_cons.mpr ⟨⟨_, rfl, Nat.le_of_ble_eq_true rfl, Or.inl (tb2 3 rfl rfl)⟩, fun _ h => absurd h List.not_mem_nil⟩⟩⟩⟩⟩⟩⟩⟩⟩⟩⟩), List.forall_mem_cons.mpr ⟨(List.forall_mem_cons.mpr ⟨trivial, List.forall_mem_cons.mpr ⟨trivial, List.forall_mem_cons.mpr ⟨⟨_, rfl, Nat.le_of_ble_eq_true rfl, ⟨.int, by decide +kernel, rfl⟩, Or.inl ⟨rfl, Or.inl (tb2 3 rfl rfl)⟩⟩, List.forall_mem_cons.mpr ⟨rfl, fun _ h => absurd h List.not_mem_nil⟩⟩⟩⟩), fun _ h => absurd h List.not_mem_nil⟩⟩⟩⟩, by decide +kernel, rfl⟩
set_option maxRecDepth 100000 in
theorem okQ_67 : sm_Q PZ PP 67 := ⟨by decide +kernel, show ∀ ch ∈ pc_67, ∀ q ∈ ch, sm_okL PZ PP 67 q.2.1 q.2.2.2.1 q.2.2.2.2.1 q.2.2.2.2.2 from List.forall_mem_cons.mpr ⟨(List.forall_mem_cons.mpr ⟨trivial, List.forall_mem_cons.mpr ⟨trivial, List.forall_mem_cons.mpr ⟨⟨_, rfl, Nat.le_of_ble_eq_true rfl, ⟨.int, by decide +kernel, rfl⟩, Or.inl ⟨rfl, Or.inl (tb2 3 rfl rfl)⟩⟩, List.forall_mem_cons.mpr ⟨trivial, List.forall_mem_cons.mpr ⟨trivial, List.forall_mem_cons.mpr ⟨⟨_, rfl, Nat.le_of_ble_eq_true rfl, ⟨.int, by decide +kernel, rfl⟩, Or.inl ⟨rfl, Or.inl (tb2 6 rfl rfl)⟩⟩, List.forall_mem_cons.mpr ⟨trivial, List.forall_mem_cons.mpr ⟨trivial, List.forall_mem_cons.mpr ⟨⟨_, rfl, Nat.le_of_ble_eq_true rfl, ⟨.int, by decide +kernel, rfl⟩, Or.inl ⟨rfl, Or.inl (tb2 8 rfl rfl)⟩⟩, List.forall_mem_cons.mpr ⟨trivial, fun _ h => absurd h List.not_mem_nil⟩⟩⟩⟩⟩⟩⟩⟩⟩⟩), List.forall_mem_cons.mpr ⟨(List.forall_mem_cons.mpr ⟨trivial, List.forall_mem_cons.mpr ⟨trivial, List.forall_mem_cons.mpr ⟨trivial, List.forall_mem_cons.mpr ⟨trivial, List.forall_mem_cons.mpr ⟨trivial, List.forall_mem_cons.mpr ⟨trivial, List.forall_mem_cons.mpr ⟨trivial, List.forall_mem_cons.mpr ⟨trivial, fun _ h => absurd h List.not_mem_nil⟩⟩⟩⟩⟩⟩⟩⟩), List.forall_mem_cons.mpr ⟨(List.forall_mem_cons.mpr ⟨⟨⟨okm_62.1, okm_62.2.1, okm_62.2.2.1, okm_62.2.2.2, Nat.le_of_ble_eq_true rfl, Nat.le_of_ble_eq_true rfl, Or.inl (tb2 234 rfl rfl)⟩, Nat.le_of_ble_eq_true rfl, oki_62, okv_62, ⟨_, rfl, rfl⟩⟩, List.forall_mem_cons.mpr ⟨trivial, List.forall_mem_cons.mpr ⟨trivial, List.forall_mem_cons.mpr ⟨trivial, List.forall_mem_cons.mpr ⟨⟨⟨okm_65.1, okm_65.2.1, okm_65.2.2.1, okm_65.2.2.2, Nat.le_of_ble_eq_true rfl, Nat.le_of_ble_eq_true rfl, Or.inl (tb2 239 rfl rfl)⟩, Nat.le_of_ble_eq_true rfl, oks_65⟩, List.forall_mem_cons.mpr ⟨trivial, List.forall_mem_cons.mpr ⟨trivial, List.forall_mem_cons.mpr ⟨trivial, fun _ h => absurd h List.not_mem_nil⟩⟩⟩⟩⟩⟩⟩⟩), List.forall_mem_cons.mpr ⟨(List.forall_mem_cons.mpr ⟨trivial, List.forall_mem_cons.mpr ⟨trivial, List.forall_mem_cons.mpr ⟨trivial, List.forall_mem_cons.mpr ⟨⟨_, rfl, Nat.le_of_ble_eq_true rfl, Or.inl (tb2 6 rfl rfl)⟩, List.forall_mem_cons.mpr ⟨trivial, List.forall_mem_cons.mpr ⟨trivial, List.forall_mem_cons.mpr ⟨⟨_, rfl, Nat.le_of_ble_eq_true rfl, ⟨.int, by decide +kernel, rfl⟩, Or.inl ⟨rfl, Or.inl (tb2 6 rfl rfl)⟩⟩, List.forall_mem_cons.mpr ⟨trivial, fun _ h => absurd h List.not_mem_nil⟩⟩⟩⟩⟩⟩⟩⟩), List.forall_mem_cons.mpr ⟨(List.forall_mem_cons.mpr ⟨trivial, List.forall_mem_cons.mpr ⟨trivial, List.forall_mem_cons.mpr ⟨trivial, List.forall_mem_cons.mpr ⟨trivial, List.forall_mem_cons.mpr ⟨⟨_, rfl, Nat.le_of_ble_eq_true rfl, Or.inl (tb2 8 rfl rfl)⟩, List.forall_mem_cons.mpr ⟨trivial, List.forall_mem_cons.mpr ⟨trivial, List.forall_mem_cons.mpr ⟨⟨_, rfl, Nat.le_of_ble_eq_true rfl, ⟨.int, by decide +kernel, rfl⟩, Or.inl ⟨rfl, Or.inl (tb2 8 rfl rfl)⟩⟩, List.forall_mem_cons.mpr ⟨trivial, fun _ h => absurd h List.not_mem_nil⟩⟩⟩⟩⟩⟩⟩⟩⟩), List.forall_mem_cons.mpr ⟨(List.forall_mem_cons.mpr ⟨trivial, List.forall_mem_cons.mpr ⟨trivial, List.forall_mem_cons.mpr ⟨trivial, List.forall_mem_cons.mpr ⟨trivial, List.forall_mem_cons.mpr ⟨trivial, List.forall_mem_cons.mpr ⟨trivial, List.forall_mem_cons.mpr ⟨trivial, fun _ h => absurd h List.not_mem_nil⟩⟩⟩⟩⟩⟩⟩), List.forall_mem_cons.mpr ⟨(List.forall_mem_cons.mpr ⟨trivial, List.forall_mem_cons.mpr ⟨trivial, List.forall_mem_cons.mpr ⟨trivial, List.forall_mem_cons.mpr ⟨⟨⟨okm_66.1, okm_66.2.1, okm_66.2.2.1, okm_66.2.2.2, Nat.le_of_ble_eq_true rfl, Nat.le_of_ble_eq_true rfl, Or.inl (tb3 14 rfl rfl)⟩, Nat.le_of_ble_eq_true rfl, oki_66, okv_66, ⟨_, rfl, rfl⟩⟩, List.forall_mem_cons.mpr ⟨trivial, List.forall_mem_cons.mpr ⟨trivial, List.forall_mem_cons.mpr ⟨rfl, fun _ h => absurd h List.not_mem_nil⟩⟩⟩⟩⟩⟩⟩), fun _ h => absurd h List.not_mem_nil⟩⟩⟩⟩⟩⟩⟩, by decide +kernel, rfl⟩
set_option maxRecDepth 100000 in
theorem okQ_68 : sm_Q PZ PP 68 := ⟨by decide +kernel, show ∀ ch ∈ pc_68, ∀ q ∈ ch, sm_okL PZ PP 68 q.2.1 q.2.2.2.1 q.2.2.2.2.1 q.2.2.2.2.2 from List.forall_mem_cons.mpr ⟨(List.forall_mem_cons.mpr ⟨trivial, List.forall_mem_cons.mpr ⟨⟨_, rfl, Nat.le_of_ble_eq_true rfl, Or.inl (tb2 22 rfl rfl)⟩, List.forall_mem_cons.mpr ⟨trivial, List.forall_mem_cons.mpr ⟨rfl, List.forall_mem_cons.mpr ⟨trivial, List.forall_mem_cons.mpr ⟨trivial, List.forall_mem_cons.mpr ⟨trivial, List.forall_mem_cons.mpr ⟨trivial, List.forall_mem_cons.mpr ⟨⟨_, rfl, Nat.le_of_ble_eq_true rfl, Or.inr ⟨_, List.mem_of_getElem? (i := 10) rfl⟩⟩, List.forall_mem_cons.mpr ⟨trivial, fun _ h => absurd h List.not_mem_nil⟩⟩⟩⟩⟩⟩⟩⟩⟩⟩), List.forall_mem_cons.mpr ⟨(List.forall_mem_cons.mpr ⟨trivial, List.forall_mem_cons.mpr ⟨trivial, List.forall_mem_cons.mpr ⟨trivial, List.forall_mem_cons.mpr ⟨trivial, List.forall_mem_cons.mpr ⟨⟨_, rfl, Nat.le_of_ble_eq_true rfl, Or.inl (tb2 21 rfl rfl)⟩, List.forall_mem_cons.mpr ⟨trivial, List.forall_mem_cons.mpr ⟨trivial, List.forall_mem_cons.mpr ⟨trivial, List.forall_mem_cons.mpr ⟨⟨_, rfl, Nat.le_of_ble_eq_true rfl, Or.inr ⟨_, List.mem_of_getElem? (i := 8) rfl⟩⟩, fun _ h => absurd h List.not_mem_nil⟩⟩⟩⟩⟩⟩⟩⟩⟩), List.forall_mem_cons.mpr ⟨(List.forall_mem_cons.mpr ⟨trivial, List.forall_mem_cons.mpr ⟨trivial, List.forall_mem_cons.mpr ⟨trivial, List.forall_mem_cons.mpr ⟨⟨_, rfl, Nat.le_of_ble_eq_true rfl, Or.inr ⟨_, List.mem_of_getElem? (i := 9) rfl⟩⟩, List.forall_mem_cons.mpr ⟨trivial, List.forall_mem_cons.mpr ⟨trivial, List.forall_mem_cons.mpr ⟨trivial, List.forall_mem_cons.mpr ⟨⟨_, rfl, Nat.le_of_ble_eq_true rfl, Or.inr ⟨_, List.mem_of_getElem? (i := 12) rfl⟩⟩, List.forall_mem_cons.mpr ⟨trivial, List.forall_mem_cons.mpr ⟨⟨⟨okm_67.1, okm_67.2.1, okm_67.2.2.1, okm_67.2.2.2, Nat.le_of_ble_eq_true rfl, Nat.le_of_ble_eq_true rfl, Or.inl (tb2 230 rfl rfl)⟩, Nat.le_of_ble_eq_true rfl, oki_67, okv_67, ⟨_, rfl, rfl⟩⟩, fun _ h => absurd h List.not_mem_nil⟩⟩⟩⟩⟩⟩⟩⟩⟩⟩), List.forall_mem_cons.mpr ⟨(List.forall_mem_cons.mpr ⟨trivial, List.forall_mem_cons.mpr ⟨trivial, List.forall_mem_cons.mpr ⟨trivial, List.forall_mem_cons.mpr ⟨trivial, List.forall_mem_cons.mpr ⟨⟨_, rfl, Nat.le_of_ble_eq_true rfl, ⟨.boolean, by decide +kernel, rfl⟩, Or.inl ⟨rfl, Or.inl (tb2 22 rfl rfl)⟩⟩, List.forall_mem_cons.mpr ⟨rfl, fun _ h => absurd h List.not_mem_nil⟩⟩⟩⟩⟩⟩), fun _ h => absurd h List.not_mem_nil⟩⟩⟩⟩, by decide +kernel, rfl⟩
set_option maxRecDepth 100000 in
theorem okQ_69 : sm_Q PZ PP 69 := ⟨by decide +kernel, show ∀ ch ∈ pc_69, ∀ q ∈ ch, sm_okL PZ PP 69 q.2.1 q.2.2.2.1 q.2.2.2.2.1 q.2.2.2.2.2 from List.forall_mem_cons.mpr ⟨(List.forall_mem_cons.mpr ⟨trivial, List.forall_mem_cons.mpr ⟨⟨_, rfl, Nat.le_of_ble_eq_true rfl, Or.inl (tb2 21 rfl rfl)⟩, List.forall_mem_cons.mpr ⟨trivial, List.forall_mem_cons.mpr ⟨trivial, List.forall_mem_cons.mpr ⟨trivial, List.forall_mem_cons.mpr ⟨trivial, List.forall_mem_cons.mpr ⟨trivial, List.forall_mem_cons.mpr ⟨trivial, List.forall_mem_cons.mpr ⟨trivial, fun _ h => absurd h List.not_mem_nil⟩⟩⟩⟩⟩⟩⟩⟩⟩), List.forall_mem_cons.mpr ⟨(List.forall_mem_cons.mpr ⟨trivial, List.forall_mem_cons.mpr ⟨trivial, List.forall_mem_cons.mpr ⟨⟨_, rfl, Or.inl ⟨_, rfl⟩⟩, fun _ h => absurd h List.not_mem_nil⟩⟩⟩), fun _ h => absurd h List.not_mem_nil⟩⟩, by decide +kernel, rfl⟩
set_option maxRecDepth 100000 in
theorem okQ_70 : sm_Q PZ PP 70 := ⟨by decide +kernel, show ∀ ch ∈ pc_70, ∀ q ∈ ch, sm_okL PZ PP 70 q.2.1 q.2.2.2.1 q.2.2.2.2.1 q.2.2.2.2.2 from List.forall_mem_cons.mpr ⟨(List.forall_mem_cons.mpr ⟨trivial, List.forall_mem_cons.mpr ⟨⟨_, rfl, Nat.le_of_ble_eq_true rfl, Or.inl (tb2 53 rfl rfl)⟩, List.forall_mem_cons.mpr ⟨trivial, List.forall_mem_cons.mpr ⟨⟨_, rfl, Nat.le_of_ble_eq_true rfl, Or.inl (tb2 48 rfl rfl)⟩, List.forall_mem_cons.mpr ⟨trivial, List.forall_mem_cons.mpr ⟨⟨_, rfl, Nat.le_of_ble_eq_true rfl, Or.inl (tb2 52 rfl rfl)⟩, List.forall_mem_cons.mpr ⟨⟨⟨okm_68.1, okm_68.2.1, okm_68.2.2.1, okm_68.2.2.2, Nat.le_of_ble_eq_true rfl, Nat.le_of_ble_eq_true rfl, Or.inl (tb2 226 rfl rfl)⟩, Nat.le_of_ble_eq_true rfl, oki_68, okv_68, ⟨_, rfl, rfl⟩⟩, List.forall_mem_cons.mpr ⟨trivial, fun _ h => absurd h List.not_mem_nil⟩⟩⟩⟩⟩⟩⟩⟩), List.forall_mem_cons.mpr ⟨(List.forall_mem_cons.mpr ⟨⟨_, rfl, Nat.le_of_ble_eq_true rfl, Or.inl (tb2 53 rfl rfl)⟩, List.forall_mem_cons.mpr ⟨trivial, List.forall_mem_cons.mpr ⟨⟨⟨okm_69.1, okm_69.2.1, okm_69.2.2.1, okm_69.2.2.2, Nat.le_of_ble_eq_true rfl, Nat.le_of_ble_eq_true rfl, Or.inl (tb3 18 rfl rfl)⟩, Nat.le_of_ble_eq_true rfl, oki_69, okv_69, ⟨_, rfl, rfl⟩⟩, List.forall_mem_cons.mpr ⟨⟨_, rfl, Or.inl ⟨_, rfl⟩⟩, fun _ h => absurd h List.not_mem_nil⟩⟩⟩⟩), fun _ h => absurd h List.not_mem_nil⟩⟩, by decide +kernel, rfl⟩
set_option maxRecDepth 100000 in
theorem okQ_71 : sm_Q PZ PP 71 := ⟨by decide +kernel, show ∀ ch ∈ pc_71, ∀ q ∈ ch, sm_okL PZ PP 71 q.2.1 q.2.2.2.1 q.2.2.2.2.1 q.2.2.2.2.2 from List.forall_mem_cons.mpr ⟨(List.forall_mem_cons.mpr ⟨trivial, List.forall_mem_cons.mpr ⟨⟨_, rfl, Nat.le_of_ble_eq_true rfl, Or.inl (tb2 48 rfl rfl)⟩, List.forall_mem_cons.mpr ⟨trivial, List.forall_mem_cons.mpr ⟨⟨⟨okm_48.1, okm_48.2.1, okm_48.2.2.1, okm_48.2.2.2, Nat.le_of_ble_eq_true rfl, Nat.le_of_ble_eq_true rfl, Or.inl (tb2 160 rfl rfl)⟩, Nat.le_of_ble_eq_true rfl, oki_48, okv_48, ⟨_, rfl, rfl⟩⟩, List.forall_mem_cons.mpr ⟨trivial, List.forall_mem_cons.mpr ⟨trivial, List.forall_mem_cons.mpr ⟨rfl, List.forall_mem_cons.mpr ⟨trivial, List.forall_mem_cons.mpr ⟨trivial, fun _ h => absurd h List.not_mem_nil⟩⟩⟩⟩⟩⟩⟩⟩⟩), List.forall_mem_cons.mpr ⟨(fun _ h => absurd h List.not_mem_nil), List.forall_mem_cons.mpr ⟨(fun _ h => absurd h List.not_mem_nil), List.forall_mem_cons.mpr ⟨(List.forall_mem_cons.mpr ⟨trivial, List.forall_mem_cons.mpr ⟨⟨_, rfl, Nat.le_of_ble_eq_true rfl, Or.inl (tb2 48 rfl rfl)⟩, List.forall_mem_cons.mpr ⟨trivial, List.forall_mem_cons.mpr ⟨trivial, List.forall_mem_cons.mpr ⟨⟨⟨okm_61.1, okm_61.2.1, okm_61.2.2.1, okm_61.2.2.2, Nat.le_of_ble_eq_true rfl, Nat.le_of_ble_eq_true rfl, Or.inl (tb2 217 rfl rfl)⟩, Nat.le_of_ble_eq_true rfl, oki_61, okv_61, ⟨_, rfl, rfl⟩⟩, List.forall_mem_cons.mpr ⟨rfl, List.forall_mem_cons.mpr ⟨trivial, List.forall_mem_cons.mpr ⟨⟨_, rfl, Nat.le_of_ble_eq_true rfl, Or.inl (tb2 48 rfl rfl)⟩, fun _ h => absurd h List.not_mem_nil⟩⟩⟩⟩⟩⟩⟩⟩), List.forall_mem_cons.mpr ⟨(List.forall_mem_cons.mpr ⟨trivial, List.forall_mem_cons.mpr ⟨trivial, List.forall_mem_cons.mpr ⟨⟨⟨okm_61.1, okm_61.2.1, okm_61.2.2.1, okm_61.2.2.2, Nat.le_of_ble_eq_true rfl, Nat.le_of_ble_eq_true rfl, Or.inl (tb2 217 rfl rfl)⟩, Nat.le_of_ble_eq_true rfl, oki_61, okv_61, ⟨_, rfl, rfl⟩⟩, List.forall_mem_cons.mpr ⟨rfl, List.forall_mem_cons.mpr ⟨trivial, List.forall_mem_cons.mpr ⟨⟨_, rfl, Nat.le_of_ble_eq_true rfl, Or.inl (tb2 48 rfl rfl)⟩, List.forall_mem_cons.mpr ⟨trivial, List.forall_mem_cons.mpr ⟨⟨⟨okm_55.1, okm_55.2.1, okm_55.2.2.1, okm_55.2.2.2, Nat.le_of_ble_eq_true rfl, Nat.le_of_ble_eq_true rfl, Or.inl (tb2 189 rfl rfl)⟩, Nat.le_of_ble_eq_true rfl, oki_55, okv_55, ⟨_, rfl, rfl⟩⟩, fun _ h => absurd h List.not_mem_nil⟩⟩⟩⟩⟩⟩⟩⟩), List.forall_mem_cons.mpr ⟨(List.forall_mem_cons.mpr ⟨rfl, List.forall_mem_cons.mpr ⟨trivial, List.forall_mem_cons.mpr ⟨trivial, List.forall_mem_cons.mpr ⟨⟨⟨okm_70.1, okm_70.2.1, okm_70.2.2.1, okm_70.2.2.2, Nat.le_of_ble_eq_true rfl, Nat.le_of_ble_eq_true rfl, Or.inl (tb2 222 rfl rfl)⟩, Nat.le_of_ble_eq_true rfl, oki_70, okv_70, ⟨_, rfl, rfl⟩⟩, List.forall_mem_cons.mpr ⟨⟨_, rfl, Nat.le_of_ble_eq_true rfl, Or.inr ⟨_, List.mem_of_getElem? (i := 23) rfl⟩⟩, List.forall_mem_cons.mpr ⟨rfl, List.forall_mem_cons.mpr ⟨trivial, List.forall_mem_cons.mpr ⟨trivial, List.forall_mem_cons.mpr ⟨⟨⟨okm_70.1, okm_70.2.1, okm_70.2.2.1, okm_70.2.2.2, Nat.le_of_ble_eq_true rfl, Nat.le_of_ble_eq_true rfl, Or.inl (tb2 222 rfl rfl)⟩, Nat.le_of_ble_eq_true rfl, oki_70, okv_70, ⟨_, rfl, rfl⟩⟩, List.forall_mem_cons.mpr ⟨⟨_, rfl, Nat.le_of_ble_eq_true rfl, Or.inr ⟨_, List.mem_of_getElem? (i := 24) rfl⟩⟩, fun _ h => absurd h List.not_mem_nil⟩⟩⟩⟩⟩⟩⟩⟩⟩⟩), List.forall_mem_cons.mpr ⟨(List.forall_mem_cons.mpr ⟨rfl, List.forall_mem_cons.mpr ⟨trivial, List.forall_mem_cons.mpr ⟨trivial, List.forall_mem_cons.mpr ⟨⟨⟨okm_70.1, okm_70.2.1, okm_70.2.2.1, okm_70.2.2.2, Nat.le_of_ble_eq_true rfl, Nat.le_of_ble_eq_true rfl, Or.inl (tb2 222 rfl rfl)⟩, Nat.le_of_ble_eq_true rfl, oki_70, okv_70, ⟨_, rfl, rfl⟩⟩, List.forall_mem_cons.mpr ⟨⟨_, rfl, Nat.le_of_ble_eq_true rfl, Or.inr ⟨_, List.mem_of_getElem? (i := 22) rfl⟩⟩, List.forall_mem_cons.mpr ⟨rfl, List.forall_mem_cons.mpr ⟨trivial, List.forall_mem_cons.mpr ⟨rfl, fun _ h => absurd h List.not_mem_nil⟩⟩⟩⟩⟩⟩⟩⟩), fun _ h => absurd h List.not_mem_nil⟩⟩⟩⟩⟩⟩⟩, by decide +kernel, rfl⟩
set_option maxRecDepth 100000 in
theorem okQ_72 : sm_Q PZ PP 72 := ⟨by decide +kernel, show ∀ ch ∈ pc_72, ∀ q ∈ ch, sm_okL PZ PP 72 q.2.1 q.2.2.2.1 q.2.2.2.2.1 q.2.2.2.2.2 from List.forall_mem_cons.mpr ⟨(List.forall_mem_cons.mpr ⟨trivial, List.forall_mem_cons.mpr ⟨⟨_, rfl, Nat.le_of_ble_eq_true rfl, Or.inl (tb2 48 rfl rfl)⟩, List.forall_mem_cons.mpr ⟨trivial, List.forall_mem_cons.mpr ⟨trivial, List.forall_mem_cons.mpr ⟨⟨⟨okm_51.1, okm_51.2.1, okm_51.2.2.1, okm_51.2.2.2, Nat.le_of_ble_eq_true rfl, Nat.le_of_ble_eq_true rfl, Or.inl (tb2 173 rfl rfl)⟩, Nat.le_of_ble_eq_true rfl, oki_51, okv_51, ⟨_, rfl, rfl⟩⟩, List.forall_mem_cons.mpr ⟨trivial, List.forall_mem_cons.mpr ⟨trivial, List.forall_mem_cons.mpr ⟨trivial, fun _ h => absurd h List.not_mem_nil⟩⟩⟩⟩⟩⟩⟩⟩), List.forall_mem_cons.mpr ⟨(List.forall_mem_cons.mpr ⟨trivial, List.forall_mem_cons.mpr ⟨trivial, List.forall_mem_cons.mpr ⟨⟨⟨okm_36.1, okm_36.2.1, okm_36.2.2.1, okm_36.2.2.2, Nat.le_of_ble_eq_true rfl, Nat.le_of_ble_eq_true rfl, Or.inl (tb2 177 rfl rfl)⟩, Nat.le_of_ble_eq_true rfl, oki_36, okv_36, ⟨_, rfl, rfl⟩⟩, List.forall_mem_cons.mpr ⟨trivial, List.forall_mem_cons.mpr ⟨trivial, List.forall_mem_cons.mpr ⟨trivial, List.forall_mem_cons.mpr ⟨trivial, List.forall_mem_cons.mpr ⟨trivial, fun _ h => absurd h List.not_mem_nil⟩⟩⟩⟩⟩⟩⟩⟩), List.forall_mem_cons.mpr ⟨(List.forall_mem_cons.mpr ⟨⟨⟨okm_37.1, okm_37.2.1, okm_37.2.2.1, okm_37.2.2.2, Nat.le_of_ble_eq_true rfl, Nat.le_of_ble_eq_true rfl, Or.inl (tb2 178 rfl rfl)⟩, Nat.le_of_ble_eq_true rfl, oki_37, okv_37, ⟨_, rfl, rfl⟩⟩, List.forall_mem_cons.mpr ⟨rfl, fun _ h => absurd h List.not_mem_nil⟩⟩), fun _ h => absurd h List.not_mem_nil⟩⟩⟩, by decide +kernel, rfl⟩
set_option maxRecDepth 100000 in
theorem okQ_73 : sm_Q PZ PP 73 := ⟨by decide +kernel, show ∀ ch ∈ pc_73, ∀ q ∈ ch, sm_okL PZ PP 73 q.2.1 q.2.2.2.1 q.2.2.2.2.1 q.2.2.2.2.2 from List.forall_mem_cons.mpr ⟨(List.forall_mem_cons.mpr ⟨trivial, List.forall_mem_cons.mpr ⟨⟨_, rfl, Nat.le_of_ble_eq_true rfl, Or.inl (tb2 48 rfl rfl)⟩, List.forall_mem_cons.mpr ⟨trivial, List.forall_mem_cons.mpr ⟨trivial, List.forall_mem_cons.mpr ⟨⟨⟨okm_51.1, okm_51.2.1, okm_51.2.2.1, okm_51.2.2.2, Nat.le_of_ble_eq_true rfl, Nat.le_of_ble_eq_true rfl, Or.inl (tb2 173 rfl rfl)⟩, Nat.le_of_ble_eq_true rfl, oki_51, okv_51, ⟨_, rfl, rfl⟩⟩, List.forall_mem_cons.mpr ⟨trivial, List.forall_mem_cons.mpr ⟨trivial, List.forall_mem_cons.mpr ⟨trivial, fun _ h => absurd h List.not_mem_nil⟩⟩⟩⟩⟩⟩⟩⟩), List.forall_mem_cons.mpr ⟨(List.forall_mem_cons.mpr ⟨trivial, List.forall_mem_cons.mpr ⟨⟨⟨okm_13.1, okm_13.2.1, okm_13.2.2.1, okm_13.2.2.2, Nat.le_of_ble_eq_true rfl, Nat.le_of_ble_eq_true rfl, Or.inl (tb3 30 rfl rfl)⟩, Nat.le_of_ble_eq_true rfl, oks_13⟩, List.forall_mem_cons.mpr ⟨trivial, List.forall_mem_cons.mpr ⟨trivial, List.forall_mem_cons.mpr ⟨rfl, List.forall_mem_cons.mpr ⟨trivial, List.forall_mem_cons.mpr ⟨trivial, List.forall_mem_cons.mpr ⟨trivial, List.forall_mem_cons.mpr ⟨⟨_, rfl, Nat.le_of_ble_eq_true rfl, Or.inl (tb2 52 rfl rfl)⟩, fun _ h => absurd h List.not_mem_nil⟩⟩⟩⟩⟩⟩⟩⟩⟩), List.forall_mem_cons.mpr ⟨(List.forall_mem_cons.mpr ⟨trivial, List.forall_mem_cons.mpr ⟨trivial, List.forall_mem_cons.mpr ⟨⟨_, rfl, Nat.le_of_ble_eq_true rfl, Or.inl (tb2 48 rfl rfl)⟩, List.forall_mem_cons.mpr ⟨⟨_, rfl, Nat.le_of_ble_eq_true rfl, Or.inr ⟨_, List.mem_of_getElem? (i := 13) rfl⟩⟩, List.forall_mem_cons.mpr ⟨trivial, List.forall_mem_cons.mpr ⟨⟨⟨okm_62.1, okm_62.2.1, okm_62.2.2.1, okm_62.2.2.2, Nat.le_of_ble_eq_true rfl, Nat.le_of_ble_eq_true rfl, Or.inl (tb3 31 rfl rfl)⟩, Nat.le_of_ble_eq_true rfl, oki_62, okv_62, ⟨_, rfl, rfl⟩⟩, List.forall_mem_cons.mpr ⟨trivial, fun _ h => absurd h List.not_mem_nil⟩⟩⟩⟩⟩⟩⟩), List.forall_mem_cons.mpr ⟨(List.forall_mem_cons.mpr ⟨trivial, List.forall_mem_cons.mpr ⟨trivial, List.forall_mem_cons.mpr ⟨⟨⟨okm_65.1, okm_65.2.1, okm_65.2.2.1, okm_65.2.2.2, Nat.le_of_ble_eq_true rfl, Nat.le_of_ble_eq_true rfl, Or.inl (tb3 32 rfl rfl)⟩, Nat.le_of_ble_eq_true rfl, oks_65⟩, List.forall_mem_cons.mpr ⟨rfl, fun _ h => absurd h List.not_mem_nil⟩⟩⟩⟩), fun _ h => absurd h List.not_mem_nil⟩⟩⟩⟩, by decide +kernel, rfl⟩
set_option maxRecDepth 100000 in
theorem okQ_74 : sm_Q PZ PP 74 := ⟨by decide +kernel, show ∀ ch ∈ pc_74, ∀ q ∈ ch, sm_okL PZ PP 74 q.2.1 q.2.2.2.1 q.2.2.2.2.1 q.2.2.2.2.2 from List.forall_mem_cons.mpr ⟨(List.forall_mem_cons.mpr ⟨trivial, List.forall_mem_cons.mpr ⟨trivial, List.forall_mem_cons.mpr ⟨trivial, List.forall_mem_cons.mpr ⟨trivial, List.forall_mem_cons.mpr ⟨⟨_, rfl, Nat.le_of_ble_eq_true rfl, Or.inl (tb2 3 rfl rfl)⟩, List.forall_mem_cons.mpr ⟨trivial, List.forall_mem_cons.mpr ⟨trivial, List.forall_mem_cons.mpr ⟨trivial, List.forall_mem_cons.mpr ⟨⟨_, rfl, Nat.le_of_ble_eq_true rfl, Or.inl (tb2 2 rfl rfl)⟩, fun _ h => absurd h List.not_mem_nil⟩⟩⟩⟩⟩⟩⟩⟩⟩), List.forall_mem_cons.mpr ⟨(List.forall_mem_cons.mpr ⟨trivial, List.forall_mem_cons.mpr ⟨trivial, List.forall_mem_cons.mpr ⟨trivial, List.forall_mem_cons.mpr ⟨⟨_, rfl, Nat.le_of_ble_eq_true rfl, Or.inl (tb2 2 rfl rfl)⟩, List.forall_mem_cons.mpr ⟨trivial, List.forall_mem_cons.mpr ⟨trivial, List.forall_mem_cons.mpr ⟨trivial, List.forall_mem_cons.mpr ⟨trivial, fun _ h => absurd h List.not_mem_nil⟩⟩⟩⟩⟩⟩⟩⟩), List.forall_mem_cons.mpr ⟨(List.forall_mem_cons.mpr ⟨rfl, fun _ h => absurd h List.not_mem_nil⟩), fun _ h => absurd h List.not_mem_nil⟩⟩⟩, by decide +kernel, rfl⟩
set_option maxRecDepth 100000 in
theorem okQ_75 : sm_Q PZ PP 75 := ⟨by decide +kernel, show ∀ ch ∈ pc_75, ∀ q ∈ ch, sm_okL PZ PP 75 q.2.1 q.2.2.2.1 q.2.2.2.2.1 q.2.2.2.2.2 from List.forall_mem_cons.mpr ⟨(List.forall_mem_cons.mpr ⟨trivial, List.forall_mem_cons.mpr ⟨trivial, List.forall_mem_cons.mpr ⟨trivial, List.forall_mem_cons.mpr ⟨trivial, List.forall_mem_cons.mpr ⟨trivial, List.forall_mem_cons.mpr ⟨trivial, List.forall_mem_cons.mpr ⟨⟨_, rfl, Nat.le_of_ble_eq_true rfl, Or.inl (tb2 3 rfl rfl)⟩, List.forall_mem_cons.mpr ⟨trivial, List.forall_mem_cons.mpr ⟨trivial, List.forall_mem_cons.mpr ⟨trivial, List.forall_mem_cons.mpr ⟨⟨⟨okm_74.1, okm_74.2.1, okm_74.2.2.1, okm_74.2.2.2, Nat.le_of_ble_eq_true rfl, Nat.le_of_ble_eq_true rfl, Or.inl (tb3 45 rfl rfl)⟩, Nat.le_of_ble_eq_true rfl, oki_74, okv_74, ⟨_, rfl, rfl⟩⟩, fun _ h => absurd h List.not_mem_nil⟩⟩⟩⟩⟩⟩⟩⟩⟩⟩⟩), List.forall_mem_cons.mpr ⟨(List.forall_mem_cons.mpr ⟨trivial, List.forall_mem_cons.mpr ⟨trivial, List.forall_mem_cons.mpr ⟨⟨⟨okm_74.1, okm_74.2.1, okm_74.2.2.1, okm_74.2.2.2, Nat.le_of_ble_eq_true rfl, Nat.le_of_ble_eq_true rfl, Or.inl (tb3 45 rfl rfl)⟩, Nat.le_of_ble_eq_true rfl, oki_74, okv_74, ⟨_, rfl, rfl⟩⟩, List.forall_mem_cons.mpr ⟨trivial, List.forall_mem_cons.mpr ⟨trivial, List.forall_mem_cons.mpr ⟨trivial, List.forall_mem_cons.mpr ⟨trivial, List.forall_mem_cons.mpr ⟨trivial, fun _ h => absurd h List.not_mem_nil⟩⟩⟩⟩⟩⟩⟩⟩), List.forall_mem_cons.mpr ⟨(List.forall_mem_cons.mpr ⟨trivial, List.forall_mem_cons.mpr ⟨trivial, List.forall_mem_cons.mpr ⟨⟨⟨okm_74.1, okm_74.2.1, okm_74.2.2.1, okm_74.2.2.2, Nat.le_of_ble_eq_true rfl, Nat.le_of_ble_eq_true rfl, Or.inl (tb3 45 rfl rfl)⟩, Nat.le_of_ble_eq_true rfl, oki_74, okv_74, ⟨_, rfl, rfl⟩⟩, List.forall_mem_cons.mpr ⟨trivial, List.forall_mem_cons.mpr ⟨trivial, List.forall_mem_cons.mpr ⟨⟨⟨okm_74.1, okm_74.2.1, okm_74.2.2.1, okm_74.2.2.2, Nat.le_of_ble_eq_true rfl, Nat.le_of_ble_eq_true rfl, Or.inl (tb3 45 rfl rfl)⟩, Nat.le_of_ble_eq_true rfl, oki_74, okv_74, ⟨_, rfl, rfl⟩⟩, List.forall_mem_cons.mpr ⟨trivial, List.forall_mem_cons.mpr ⟨trivial, List.forall_mem_cons.mpr ⟨trivial, List.forall_mem_cons.mpr ⟨trivial, fun _ h => absurd h List.not_mem_nil⟩⟩⟩⟩⟩⟩⟩⟩⟩⟩), List.forall_mem_cons.mpr ⟨(List.forall_mem_cons.mpr ⟨trivial, List.forall_mem_cons.mpr ⟨trivial, List.forall_mem_cons.mpr ⟨trivial, List.forall_mem_cons.mpr ⟨trivial, List.forall_mem_cons.mpr ⟨trivial, List.forall_mem_cons.mpr ⟨trivial, List.forall_mem_cons.mpr ⟨trivial, fun _ h => absurd h List.not_mem_nil⟩⟩⟩⟩⟩⟩⟩), List.forall_mem_cons.mpr ⟨(List.forall_mem_cons.mpr ⟨trivial, List.forall_mem_cons.mpr ⟨trivial, List.forall_mem_cons.mpr ⟨trivial, List.forall_mem_cons.mpr ⟨trivial, List.forall_mem_cons.mpr ⟨trivial, List.forall_mem_cons.mpr ⟨rfl, fun _ h => absurd h List.not_mem_nil⟩⟩⟩⟩⟩⟩), fun _ h => absurd h List.not_mem_nil⟩⟩⟩⟩⟩, by decide +kernel, rfl⟩
set_option maxRecDepth 100000 in
theorem okQ_76 : sm_Q PZ PP 76 := ⟨by decide +kernel, show ∀ ch ∈ pc_76, ∀ q ∈ ch, sm_okL PZ PP 76 q.2.1 q.2.2.2.1 q.2.2.2.2.1 q.2.2.2.2.2 from List.forall_mem_cons.mpr ⟨(List.forall_mem_cons.mpr ⟨trivial, List.forall_mem_cons.mpr ⟨trivial, List.forall_mem_cons.mpr ⟨trivial, List.forall_mem_cons.mpr ⟨trivial, List.forall_mem_cons.mpr ⟨⟨_, rfl, Nat.le_of_ble_eq_true rfl, Or.inl (tb2 3 rfl rfl)⟩, List.forall_mem_cons.mpr ⟨trivial, List.forall_mem_cons.mpr ⟨trivial, List.forall_mem_cons.mpr ⟨trivial, List.forall_mem_cons.mpr ⟨⟨⟨okm_75.1, okm_75.2.1, okm_75.2.2.1, okm_75.2.2.2, Nat.le_of_ble_eq_true rfl, Nat.le_of_ble_eq_true rfl, Or.inl (tb3 41 rfl rfl)⟩, Nat.le_of_ble_eq_true rfl, oki_75, okv_75, ⟨_, rfl, rfl⟩⟩, List.forall_mem_cons.mpr ⟨trivial, fun _ h => absurd h List.not_mem_nil⟩⟩⟩⟩⟩⟩⟩⟩⟩⟩), List.forall_mem_cons.mpr ⟨(List.forall_mem_cons.mpr ⟨trivial, List.forall_mem_cons.mpr ⟨trivial, List.forall_mem_cons.mpr ⟨rfl, List.forall_mem_cons.mpr ⟨trivial, List.forall_mem_cons.mpr ⟨trivial, List.forall_mem_cons.mpr ⟨trivial, List.forall_mem_cons.mpr ⟨rfl, fun _ h => absurd h List.not_mem_nil⟩⟩⟩⟩⟩⟩⟩), fun _ h => absurd h List.not_mem_nil⟩⟩, by decide +kernel, rfl⟩
set_option maxRecDepth 100000 in
theorem okQ_77 : sm_Q PZ PP 77 := ⟨by decide +kernel, show ∀ ch ∈ pc_77, ∀ q ∈ ch, sm_okL PZ PP 77 q.2.1 q.2.2.2.1 q.2.2.2.2.1 q.2.2.2.2.2 from List.forall_mem_cons.mpr ⟨(List.forall_mem_cons.mpr ⟨trivial, List.forall_mem_cons.mpr ⟨trivial, List.forall_mem_cons.mpr ⟨trivial, List.forall_mem_cons.mpr ⟨trivial, List.forall_mem_cons.mpr ⟨⟨_, rfl, Nat.le_of_ble_eq_true rfl, Or.inl (tb2 3 rfl rfl)⟩, List.forall_mem_cons.mpr ⟨trivial, List.forall_mem_cons.mpr ⟨trivial, List.forall_mem_cons.mpr ⟨trivial, List.forall_mem_cons.mpr ⟨⟨_, rfl, Nat.le_of_ble_eq_true rfl, Or.inl (tb2 1 rfl rfl)⟩, fun _ h => absurd h List.not_mem_nil⟩⟩⟩⟩⟩⟩⟩⟩⟩), List.forall_mem_cons.mpr ⟨(List.forall_mem_cons.mpr ⟨trivial, List.forall_mem_cons.mpr ⟨trivial, List.forall_mem_cons.mpr ⟨trivial, List.forall_mem_cons.mpr ⟨⟨_, rfl, Nat.le_of_ble_eq_true rfl, Or.inl (tb2 1 rfl rfl)⟩, List.forall_mem_cons.mpr ⟨trivial, List.forall_mem_cons.mpr ⟨trivial, List.forall_mem_cons.mpr ⟨trivial, List.forall_mem_cons.mpr ⟨trivial, fun _ h => absurd h List.not_mem_nil⟩⟩⟩⟩⟩⟩⟩⟩), List.forall_mem_cons.mpr ⟨(List.forall_mem_cons.mpr ⟨rfl, fun _ h => absurd h List.not_mem_nil⟩), fun _ h => absurd h List.not_mem_nil⟩⟩⟩, by decide +kernel, rfl⟩
set_option maxRecDepth 100000 in
theorem okQ_78 : sm_Q PZ PP 78 := ⟨by decide +kernel, show ∀ ch ∈ pc_78, ∀ q ∈ ch, sm_okL PZ PP 78 q.2.1 q.2.2.2.1 q.2.2.2.2.1 q.2.2.2.2.2 from List.forall_mem_cons.mpr ⟨(List.forall_mem_cons.mpr ⟨trivial, List.forall_mem_cons.mpr ⟨⟨_, rfl, Nat.le_of_ble_eq_true rfl, Or.inl (tb2 48 rfl rfl)⟩, List.forall_mem_cons.mpr ⟨trivial, List.forall_mem_cons.mpr ⟨⟨⟨okm_48.1, okm_48.2.1, okm_48.2.2.1, okm_48.2.2.2, Nat.le_of_ble_eq_true rfl, Nat.le_of_ble_eq_true rfl, Or.inl (tb2 160 rfl rfl)⟩, Nat.le_of_ble_eq_true rfl, oki_48, okv_48, ⟨_, rfl, rfl⟩⟩, List.forall_mem_cons.mpr ⟨trivial, List.forall_mem_cons.mpr ⟨trivial, List.forall_mem_cons.mpr ⟨trivial, List.forall_mem_cons.mpr ⟨trivial, fun _ h => absurd h List.not_mem_nil⟩⟩⟩⟩⟩⟩⟩⟩), List.forall_mem_cons.mpr ⟨(List.forall_mem_cons.mpr ⟨trivial, List.forall_mem_cons.mpr ⟨trivial, List.forall_mem_cons.mpr ⟨trivial, List.forall_mem_cons.mpr ⟨trivial, List.forall_mem_cons.mpr ⟨trivial, List.forall_mem_cons.mpr ⟨rfl, List.forall_mem_cons.mpr ⟨trivial, List.forall_mem_cons.mpr ⟨trivial, List.forall_mem_cons.mpr ⟨⟨⟨okm_70.1, okm_70.2.1, okm_70.2.2.1, okm_70.2.2.2, Nat.le_of_ble_eq_true rfl, Nat.le_of_ble_eq_true rfl, Or.inl (tb2 222 rfl rfl)⟩, Nat.le_of_ble_eq_true rfl, oki_70, okv_70, ⟨_, rfl, rfl⟩⟩, List.forall_mem_cons.mpr ⟨trivial, fun _ h => absurd h List.not_mem_nil⟩⟩⟩⟩⟩⟩⟩⟩⟩⟩), List.forall_mem_cons.mpr ⟨(List.forall_mem_cons.mpr ⟨trivial, List.forall_mem_cons.mpr ⟨trivial, List.forall_mem_cons.mpr ⟨⟨⟨okm_76.1, okm_76.2.1, okm_76.2.2.1, okm_76.2.2.2, Nat.le_of_ble_eq_true rfl, Nat.le_of_ble_eq_true rfl, Or.inl (tb3 37 rfl rfl)⟩, Nat.le_of_ble_eq_true rfl, oki_76, okv_76, ⟨_, rfl, rfl⟩⟩, List.forall_mem_cons.mpr ⟨trivial, List.forall_mem_cons.mpr ⟨trivial, List.forall_mem_cons.mpr ⟨trivial, List.forall_mem_cons.mpr ⟨trivial, fun _ h => absurd h List.not_mem_nil⟩⟩⟩⟩⟩⟩⟩), List.forall_mem_cons.mpr ⟨(List.forall_mem_cons.mpr ⟨trivial, List.forall_mem_cons.mpr ⟨rfl, List.forall_mem_cons.mpr ⟨trivial, List.forall_mem_cons.mpr ⟨trivial, List.forall_mem_cons.mpr ⟨trivial, List.forall_mem_cons.mpr ⟨trivial, List.forall_mem_cons.mpr ⟨⟨⟨okm_77.1, okm_77.2.1, okm_77.2.2.1, okm_77.2.2.2, Nat.le_of_ble_eq_true rfl, Nat.le_of_ble_eq_true rfl, Or.inl (tb3 49 rfl rfl)⟩, Nat.le_of_ble_eq_true rfl, oki_77, okv_77, ⟨_, rfl, rfl⟩⟩, List.forall_mem_cons.mpr ⟨trivial, fun _ h => absurd h List.not_mem_nil⟩⟩⟩⟩⟩⟩⟩⟩), List.forall_mem_cons.mpr ⟨(List.forall_mem_cons.mpr ⟨trivial, List.forall_mem_cons.mpr ⟨trivial, List.forall_mem_cons.mpr ⟨⟨⟨okm_74.1, okm_74.2.1, okm_74.2.2.1, okm_74.2.2.2, Nat.le_of_ble_eq_true rfl, Nat.le_of_ble_eq_true rfl, Or.inl (tb3 53 rfl rfl)⟩, Nat.le_of_ble_eq_true rfl, oki_74, okv_74, ⟨_, rfl, rfl⟩⟩, List.forall_mem_cons.mpr ⟨rfl, fun _ h => absurd h List.not_mem_nil⟩⟩⟩⟩), fun _ h => absurd h List.not_mem_nil⟩⟩⟩⟩⟩, by decide +kernel, rfl⟩
set_option maxRecDepth 100000 in
theorem okQ_79 : sm_Q PZ PP 79 := ⟨by decide +kernel, show ∀ ch ∈ pc_79, ∀ q ∈ ch, sm_okL PZ PP 79 q.2.1 q.2.2.2.1 q.2.2.2.2.1 q.2.2.2.2.2 from List.forall_mem_cons.mpr ⟨(List.forall_mem_cons.mpr ⟨trivial, List.forall_mem_cons.mpr ⟨⟨⟨okm_13.1, okm_13.2.1, okm_13.2.2.1, okm_13.2.2.2, Nat.le_of_ble_eq_true rfl, Nat.le_of_ble_eq_true rfl, Or.inl (tb3 30 rfl rfl)⟩, Nat.le_of_ble_eq_true rfl, oks_13⟩, List.forall_mem_cons.mpr ⟨trivial, List.forall_mem_cons.mpr ⟨trivial, List.forall_mem_cons.mpr ⟨trivial, List.forall_mem_cons.mpr ⟨trivial, List.forall_mem_cons.mpr ⟨trivial, List.forall_mem_cons.mpr ⟨rfl, List.forall_mem_cons.mpr ⟨trivial, List.forall_mem_cons.mpr ⟨trivial, fun _ h => absurd h List.not_mem_nil⟩⟩⟩⟩⟩⟩⟩⟩⟩⟩), List.forall_mem_cons.mpr ⟨(List.forall_mem_cons.mpr ⟨trivial, List.forall_mem_cons.mpr ⟨trivial, List.forall_mem_cons.mpr ⟨⟨_, rfl, Nat.le_of_ble_eq_true rfl, Or.inl (tb2 52 rfl rfl)⟩, List.forall_mem_cons.mpr ⟨trivial, List.forall_mem_cons.mpr ⟨⟨⟨okm_16.1, okm_16.2.1, okm_16.2.2.1, okm_16.2.2.2, Nat.le_of_ble_eq_true rfl, Nat.le_of_ble_eq_true rfl, Or.inl (tb3 58 rfl rfl)⟩, Nat.le_of_ble_eq_true rfl, oki_16, okv_16, ⟨_, rfl, rfl⟩⟩, List.forall_mem_cons.mpr ⟨trivial, List.forall_mem_cons.mpr ⟨trivial, List.forall_mem_cons.mpr ⟨⟨_, rfl, Nat.le_of_ble_eq_true rfl, Or.inl (tb2 52 rfl rfl)⟩, fun _ h => absurd h List.not_mem_nil⟩⟩⟩⟩⟩⟩⟩⟩), List.forall_mem_cons.mpr ⟨(List.forall_mem_cons.mpr ⟨trivial, List.forall_mem_cons.mpr ⟨trivial, List.forall_mem_cons.mpr ⟨⟨⟨okm_17.1, okm_17.2.1, okm_17.2.2.1, okm_17.2.2.2, Nat.le_of_ble_eq_true rfl, Nat.le_of_ble_eq_true rfl, Or.inl (tb3 59 rfl rfl)⟩, Nat.le_of_ble_eq_true rfl, oki_17, okv_17, ⟨_, rfl, rfl⟩⟩, List.forall_mem_cons.mpr ⟨rfl, fun _ h => absurd h List.not_mem_nil⟩⟩⟩⟩), fun _ h => absurd h List.not_mem_nil⟩⟩⟩, by decide +kernel, rfl⟩
set_option maxRecDepth 100000 in
theorem okQ_80 : sm_Q PZ PP 80 := ⟨by decide +kernel, show ∀ ch ∈ pc_80, ∀ q ∈ ch, sm_okL PZ PP 80 q.2.1 q.2.2.2.1 q.2.2.2.2.1 q.2.2.2.2.2 from List.forall_mem_cons.mpr ⟨(List.forall_mem_cons.mpr ⟨trivial, List.forall_mem_cons.mpr ⟨trivial, List.forall_mem_cons.mpr ⟨trivial, List.forall_mem_cons.mpr ⟨trivial, List.forall_mem_cons.mpr ⟨trivial, List.forall_mem_cons.mpr ⟨trivial, List.forall_mem_cons.mpr ⟨trivial, List.forall_mem_cons.mpr ⟨trivial, List.forall_mem_cons.mpr ⟨trivial, List.forall_mem_cons.mpr ⟨trivial, List.forall_mem_cons.mpr ⟨trivial, fun _ h => absurd h List.not_mem_nil⟩⟩⟩⟩⟩⟩⟩⟩⟩⟩⟩), List.forall_mem_cons.mpr ⟨(List.forall_mem_cons.mpr ⟨⟨_, rfl, Nat.le_of_ble_eq_true rfl, Or.inl (tb2 21 rfl rfl)⟩, List.forall_mem_cons.mpr ⟨trivial, List.forall_mem_cons.mpr ⟨trivial, List.forall_mem_cons.mpr ⟨⟨_, rfl, Nat.le_of_ble_eq_true rfl, Or.inr ⟨_, List.mem_of_getElem? (i := 21) rfl⟩⟩, List.forall_mem_cons.mpr ⟨trivial, List.forall_mem_cons.mpr ⟨trivial, List.forall_mem_cons.mpr ⟨trivial, fun _ h => absurd h List.not_mem_nil⟩⟩⟩⟩⟩⟩⟩), List.forall_mem_cons.mpr ⟨(List.forall_mem_cons.mpr ⟨trivial, List.forall_mem_cons.mpr ⟨trivial, List.forall_mem_cons.mpr ⟨rfl, fun _ h => absurd h List.not_mem_nil⟩⟩⟩), fun _ h => absurd h List.not_mem_nil⟩⟩⟩, by decide +kernel, rfl⟩
set_option maxRecDepth 100000 in
theorem okQ_81 : sm_Q PZ PP 81 := ⟨by decide +kernel, show ∀ ch ∈ pc_81, ∀ q ∈ ch, sm_okL PZ PP 81 q.2.1 q.2.2.2.1 q.2.2.2.2.1 q.2.2.2.2.2 from List.forall_mem_cons.mpr ⟨(List.forall_mem_cons.mpr ⟨trivial, List.forall_mem_cons.mpr ⟨trivial, List.forall_mem_cons.mpr ⟨⟨_, rfl, Nat.le_of_ble_eq_true rfl, ⟨.int, by decide +kernel, rfl⟩, Or.inl ⟨rfl, Or.inl (tb2 25 rfl rfl)⟩⟩, List.forall_mem_cons.mpr ⟨trivial, List.forall_mem_cons.mpr ⟨trivial, List.forall_mem_cons.mpr ⟨trivial, List.forall_mem_cons.mpr ⟨trivial, List.forall_mem_cons.mpr ⟨trivial, List.forall_mem_cons.mpr ⟨trivial, List.forall_mem_cons.mpr ⟨trivial, List.forall_mem_cons.mpr ⟨trivial, fun _ h => absurd h List.not_mem_nil⟩⟩⟩⟩⟩⟩⟩⟩⟩⟩⟩), List.forall_mem_cons.mpr ⟨(List.forall_mem_cons.mpr ⟨trivial, List.forall_mem_cons.mpr ⟨⟨_, rfl, Nat.le_of_ble_eq_true rfl, Or.inl (tb2 21 rfl rfl)⟩, List.forall_mem_cons.mpr ⟨trivial, List.forall_mem_cons.mpr ⟨trivial, List.forall_mem_cons.mpr ⟨trivial, List.forall_mem_cons.mpr ⟨⟨⟨okm_76.1, okm_76.2.1, okm_76.2.2.1, okm_76.2.2.2, Nat.le_of_ble_eq_true rfl, Nat.le_of_ble_eq_true rfl, Or.inl (tb3 78 rfl rfl)⟩, Nat.le_of_ble_eq_true rfl, oki_76, okv_76, ⟨_, rfl, rfl⟩⟩, List.forall_mem_cons.mpr ⟨trivial, List.forall_mem_cons.mpr ⟨trivial, List.forall_mem_cons.mpr ⟨⟨_, rfl, Nat.le_of_ble_eq_true rfl, Or.inl (tb2 24 rfl rfl)⟩, fun _ h => absurd h List.not_mem_nil⟩⟩⟩⟩⟩⟩⟩⟩⟩), List.forall_mem_cons.mpr ⟨(List.forall_mem_cons.mpr ⟨trivial, List.forall_mem_cons.mpr ⟨trivial, List.forall_mem_cons.mpr ⟨⟨_, rfl, Nat.le_of_ble_eq_true rfl, Or.inl (tb2 21 rfl rfl)⟩, List.forall_mem_cons.mpr ⟨trivial, List.forall_mem_cons.mpr ⟨trivial, List.forall_mem_cons.mpr ⟨trivial, List.forall_mem_cons.mpr ⟨⟨⟨okm_77.1, okm_77.2.1, okm_77.2.2.1, okm_77.2.2.2, Nat.le_of_ble_eq_true rfl, Nat.le_of_ble_eq_true rfl, Or.inl (tb3 79 rfl rfl)⟩, Nat.le_of_ble_eq_true rfl, oki_77, okv_77, ⟨_, rfl, rfl⟩⟩, List.forall_mem_cons.mpr ⟨trivial, List.forall_mem_cons.mpr ⟨trivial, List.forall_mem_cons.mpr ⟨trivial, List.forall_mem_cons.mpr ⟨⟨_, rfl, Nat.le_of_ble_eq_true rfl, Or.inl (tb2 25 rfl rfl)⟩, fun _ h => absurd h List.not_mem_nil⟩⟩⟩⟩⟩⟩⟩⟩⟩⟩⟩), List.forall_mem_cons.mpr ⟨(List.forall_mem_cons.mpr ⟨trivial, List.forall_mem_cons.mpr ⟨⟨_, rfl, Nat.le_of_ble_eq_true rfl, Or.inl (tb2 21 rfl rfl)⟩, List.forall_mem_cons.mpr ⟨trivial, List.forall_mem_cons.mpr ⟨trivial, List.forall_mem_cons.mpr ⟨trivial, List.forall_mem_cons.mpr ⟨⟨⟨okm_74.1, okm_74.2.1, okm_74.2.2.1, okm_74.2.2.2, Nat.le_of_ble_eq_true rfl, Nat.le_of_ble_eq_true rfl, Or.inl (tb3 80 rfl rfl)⟩, Nat.le_of_ble_eq_true rfl, oki_74, okv_74, ⟨_, rfl, rfl⟩⟩, List.forall_mem_cons.mpr ⟨trivial, List.forall_mem_cons.mpr ⟨⟨_, rfl, Nat.le_of_ble_eq_true rfl, ⟨.int, by decide +kernel, rfl⟩, Or.inl ⟨rfl, Or.inl (tb2 25 rfl rfl)⟩⟩, fun _ h => absurd h List.not_mem_nil⟩⟩⟩⟩⟩⟩⟩⟩), List.forall_mem_cons.mpr ⟨(List.forall_mem_cons.mpr ⟨trivial, List.forall_mem_cons.mpr ⟨trivial, List.forall_mem_cons.mpr ⟨rfl, fun _ h => absurd h List.not_mem_nil⟩⟩⟩), fun _ h => absurd h List.not_mem_nil⟩⟩⟩⟩⟩, by decide +kernel, rfl⟩
set_option maxRecDepth 100000 in
theorem okQ_82 : sm_Q PZ PP 82 := ⟨by decide +kernel, show ∀ ch ∈ pc_82, ∀ q ∈ ch, sm_okL PZ PP 82 q.2.1 q.2.2.2.1 q.2.2.2.2.1 q.2.2.2.2.2 from List.forall_mem_cons.mpr ⟨(List.forall_mem_cons.mpr ⟨trivial, List.forall_mem_cons.mpr ⟨trivial, List.forall_mem_cons.mpr ⟨trivial, List.forall_mem_cons.mpr ⟨trivial, List.forall_mem_cons.mpr ⟨trivial, List.forall_mem_cons.mpr ⟨trivial, List.forall_mem_cons.mpr ⟨trivial, List.forall_mem_cons.mpr ⟨trivial, List.forall_mem_cons.mpr ⟨trivial, List.forall_mem_cons.mpr ⟨trivial, List.forall_mem_cons.mpr ⟨trivial, List.forall_mem_cons.mpr ⟨trivial, List.forall_mem_cons.mpr ⟨trivial, fun _ h => absurd h List.not_mem_nil⟩⟩⟩⟩⟩⟩⟩⟩⟩⟩⟩⟩⟩), List.forall_mem_cons.mpr ⟨(List.forall_mem_cons.mpr ⟨trivial, List.forall_mem_cons.mpr ⟨rfl, fun _ h => absurd h List.not_mem_nil⟩⟩), fun _ h => absurd h List.not_mem_nil⟩⟩, by decide +kernel, rfl⟩
set_option maxRecDepth 100000 in
theorem okQ_83 : sm_Q PZ PP 83 := ⟨by decide +kernel, show ∀ ch ∈ pc_83, ∀ q ∈ ch, sm_okL PZ PP 83 q.2.1 q.2.2.2.1 q.2.2.2.2.1 q.2.2.2.2.2 from List.forall_mem_cons.mpr ⟨(List.forall_mem_cons.mpr ⟨trivial, List.forall_mem_cons.mpr ⟨⟨_, rfl, Nat.le_of_ble_eq_true rfl, Or.inl (tb2 3 rfl rfl)⟩, List.forall_mem_cons.mpr ⟨trivial, List.forall_mem_cons.mpr ⟨trivial, List.forall_mem_cons.mpr ⟨trivial, List.forall_mem_cons.mpr ⟨trivial, List.forall_mem_cons.mpr ⟨trivial, List.forall_mem_cons.mpr ⟨⟨_, rfl, Nat.le_of_ble_eq_true rfl, Or.inl (tb2 3 rfl rfl)⟩, fun _ h => absurd h List.not_mem_nil⟩⟩⟩⟩⟩⟩⟩⟩), List.forall_mem_cons.mpr ⟨(List.forall_mem_cons.mpr ⟨trivial, List.forall_mem_cons.mpr ⟨trivial, List.forall_mem_cons.mpr ⟨⟨⟨okm_77.1, okm_77.2.1, okm_77.2.2.1, okm_77.2.2.2, Nat.le_of_ble_eq_true rfl, Nat.le_of_ble_eq_true rfl, Or.inl (tb3 96 rfl rfl)⟩, Nat.le_of_ble_eq_true rfl, oki_77, okv_77, ⟨_, rfl, rfl⟩⟩, List.forall_mem_cons.mpr ⟨rfl, fun _ h => absurd h List.not_mem_nil⟩⟩⟩⟩), fun _ h => absurd h List.not_mem_nil⟩⟩, by decide +kernel, rfl⟩
set_option maxRecDepth 100000 in
theorem okQ_84 : sm_Q PZ PP 84 := ⟨by decide +kernel, show ∀ ch ∈ pc_84, ∀ q ∈ ch, sm_okL PZ PP 84 q.2.1 q.2.2.2.1 q.2.2.2.2.1 q.2.2.2.2.2 from List.forall_mem_cons.mpr ⟨(List.forall_mem_cons.mpr ⟨trivial, List.forall_mem_cons.mpr ⟨trivial, List.forall_mem_cons.mpr ⟨trivial, List.forall_mem_cons.mpr ⟨⟨⟨okm_77.1, okm_77.2.1, okm_77.2.2.1, okm_77.2.2.2, Nat.le_of_ble_eq_true rfl, Nat.le_of_ble_eq_true rfl, Or.inl (tb3 79 rfl rfl)⟩, Nat.le_of_ble_eq_true rfl, oki_77, okv_77, ⟨_, rfl, rfl⟩⟩, List.forall_mem_cons.mpr ⟨trivial, List.forall_mem_cons.mpr ⟨trivial, List.forall_mem_cons.mpr ⟨trivial, List.forall_mem_cons.mpr ⟨trivial, List.forall_mem_cons.mpr ⟨trivial, fun _ h => absurd h List.not_mem_nil⟩⟩⟩⟩⟩⟩⟩⟩⟩), List.forall_mem_cons.mpr ⟨(List.forall_mem_cons.mpr ⟨trivial, List.forall_mem_cons.mpr ⟨trivial, List.forall_mem_cons.mpr ⟨trivial, List.forall_mem_cons.mpr ⟨trivial, List.forall_mem_cons.mpr ⟨trivial, List.forall_mem_cons.mpr ⟨trivial, List.forall_mem_cons.mpr ⟨trivial, List.forall_mem_cons.mpr ⟨trivial, List.forall_mem_cons.mpr ⟨trivial, List.forall_mem_cons.mpr ⟨rfl, List.forall_mem_cons.mpr ⟨trivial, fun _ h => absurd h List.not_mem_nil⟩⟩⟩⟩⟩⟩⟩⟩⟩⟩⟩), List.forall_mem_cons.mpr ⟨(List.forall_mem_cons.mpr ⟨trivial, List.forall_mem_cons.mpr ⟨⟨⟨okm_74.1, okm_74.2.1, okm_74.2.2.1, okm_74.2.2.2, Nat.le_of_ble_eq_true rfl, Nat.le_of_ble_eq_true rfl, Or.inl (tb3 80 rfl rfl)⟩, Nat.le_of_ble_eq_true rfl, oki_74, okv_74, ⟨_, rfl, rfl⟩⟩, List.forall_mem_cons.mpr ⟨trivial, List.forall_mem_cons.mpr ⟨trivial, List.forall_mem_cons.mpr ⟨trivial, List.forall_mem_cons.mpr ⟨trivial, List.forall_mem_cons.mpr ⟨rfl, fun _ h => absurd h List.not_mem_nil⟩⟩⟩⟩⟩⟩⟩), fun _ h => absurd h List.not_mem_nil⟩⟩⟩, by decide +kernel, rfl⟩
set_option maxRecDepth 100000 in
theorem okQ_85 : sm_Q PZ PP 85 := ⟨by decide +kernel, show ∀ ch ∈ pc_85, ∀ q ∈ ch, sm_okL PZ PP 85 q.2.1 q.2.2.2.1 q.2.2.2.2.1 q.2.2.2.2.2 from List.forall_mem_cons.mpr ⟨(List.forall_mem_cons.mpr ⟨trivial, List.forall_mem_cons.mpr ⟨trivial, List.forall_mem_cons.mpr ⟨trivial, List.forall_mem_cons.mpr ⟨trivial, List.forall_mem_cons.mpr ⟨trivial, List.forall_mem_cons.mpr ⟨trivial, List.forall_mem_cons.mpr ⟨⟨_, rfl, Nat.le_of_ble_eq_true rfl, Or.inr ⟨_, List.mem_of_getElem? (i := 21) rfl⟩⟩, List.forall_mem_cons.mpr ⟨trivial, List.forall_mem_cons.mpr ⟨trivial, List.forall_mem_cons.mpr ⟨trivial, fun _ h => absurd h List.not_mem_nil⟩⟩⟩⟩⟩⟩⟩⟩⟩⟩), List.forall_mem_cons.mpr ⟨(List.forall_mem_cons.mpr ⟨trivial, List.forall_mem_cons.mpr ⟨trivial, List.forall_mem_cons.mpr ⟨⟨⟨okm_84.1, okm_84.2.1, okm_84.2.2.1, okm_84.2.2.2, Nat.le_of_ble_eq_true rfl, Nat.le_of_ble_eq_true rfl, Or.inl (tb3 100 rfl rfl)⟩, Nat.le_of_ble_eq_true rfl, oks_84⟩, List.forall_mem_cons.mpr ⟨trivial, List.forall_mem_cons.mpr ⟨trivial, List.forall_mem_cons.mpr ⟨trivial, List.forall_mem_cons.mpr ⟨trivial, List.forall_mem_cons.mpr ⟨trivial, List.forall_mem_cons.mpr ⟨trivial, fun _ h => absurd h List.not_mem_nil⟩⟩⟩⟩⟩⟩⟩⟩⟩), List.forall_mem_cons.mpr ⟨(List.forall_mem_cons.mpr ⟨trivial, List.forall_mem_cons.mpr ⟨trivial, List.forall_mem_cons.mpr ⟨trivial, List.forall_mem_cons.mpr ⟨trivial, List.forall_mem_cons.mpr ⟨trivial, List.forall_mem_cons.mpr ⟨trivial, List.forall_mem_cons.mpr ⟨trivial, List.forall_mem_cons.mpr ⟨trivial, fun _ h => absurd h List.not_mem_nil⟩⟩⟩⟩⟩⟩⟩⟩), List.forall_mem_cons.mpr ⟨(List.forall_mem_cons.mpr ⟨trivial, List.forall_mem_cons.mpr ⟨rfl, fun _ h => absurd h List.not_mem_nil⟩⟩), fun _ h => absurd h List.not_mem_nil⟩⟩⟩⟩, by decide +kernel, rfl⟩
set_option maxRecDepth 100000 in
theorem okQ_86 : sm_Q PZ PP 86 := ⟨by decide +kernel, show ∀ ch ∈ pc_86, ∀ q ∈ ch, sm_okL PZ PP 86 q.2.1 q.2.2.2.1 q.2.2.2.2.1 q.2.2.2.2.2 from List.forall_mem_cons.mpr ⟨(List.forall_mem_cons.mpr ⟨trivial, List.forall_mem_cons.mpr ⟨trivial, List.forall_mem_cons.mpr ⟨trivial, List.forall_mem_cons.mpr ⟨trivial, List.forall_mem_cons.mpr ⟨trivial, List.forall_mem_cons.mpr ⟨trivial, List.forall_mem_cons.mpr ⟨trivial, List.forall_mem_cons.mpr ⟨trivial, List.forall_mem_cons.mpr ⟨trivial, List.forall_mem_cons.mpr ⟨⟨_, rfl, Nat.le_of_ble_eq_true rfl, Or.inl (tb2 23 rfl rfl)⟩, fun _ h => absurd h List.not_mem_nil⟩⟩⟩⟩⟩⟩⟩⟩⟩⟩), List.forall_mem_cons.mpr ⟨(List.forall_mem_cons.mpr ⟨trivial, List.forall_mem_cons.mpr ⟨trivial, List.forall_mem_cons.mpr ⟨trivial, List.forall_mem_cons.mpr ⟨⟨⟨okm_82.1, okm_82.2.1, okm_82.2.2.1, okm_82.2.2.2, Nat.le_of_ble_eq_true rfl, Nat.le_of_ble_eq_true rfl, Or.inl (tb3 89 rfl rfl)⟩, Nat.le_of_ble_eq_true rfl, oks_82⟩, List.forall_mem_cons.mpr ⟨trivial, List.forall_mem_cons.mpr ⟨trivial, List.forall_mem_cons.mpr ⟨trivial, List.forall_mem_cons.mpr ⟨trivial, fun _ h => absurd h List.not_mem_nil⟩⟩⟩⟩⟩⟩⟩⟩), List.forall_mem_cons.mpr ⟨(List.forall_mem_cons.mpr ⟨trivial, List.forall_mem_cons.mpr ⟨trivial, List.forall_mem_cons.mpr ⟨trivial, List.forall_mem_cons.mpr ⟨trivial, List.forall_mem_cons.mpr ⟨⟨_, rfl, Nat.le_of_ble_eq_true rfl, Or.inl (tb2 23 rfl rfl)⟩, List.forall_mem_cons.mpr ⟨trivial, List.forall_mem_cons.mpr ⟨trivial, List.forall_mem_cons.mpr ⟨trivial, List.forall_mem_cons.mpr ⟨trivial, List.forall_mem_cons.mpr ⟨trivial, fun _ h => absurd h List.not_mem_nil⟩⟩⟩⟩⟩⟩⟩⟩⟩⟩), List.forall_mem_cons.mpr ⟨(List.forall_mem_cons.mpr ⟨trivial, List.forall_mem_cons.mpr ⟨trivial, List.forall_mem_cons.mpr ⟨trivial, List.forall_mem_cons.mpr ⟨trivial, List.forall_mem_cons.mpr ⟨⟨(tb3 69 rfl rfl), (tb2 119 rfl rfl), (tb1 5 rfl rfl), (tb2 120 rfl rfl), Nat.le_of_ble_eq_true rfl, Nat.le_of_ble_eq_true rfl⟩, List.forall_mem_cons.mpr ⟨trivial, List.forall_mem_cons.mpr ⟨trivial, List.forall_mem_cons.mpr ⟨trivial, List.forall_mem_cons.mpr ⟨trivial, List.forall_mem_cons.mpr ⟨trivial, fun _ h => absurd h List.not_mem_nil⟩⟩⟩⟩⟩⟩⟩⟩⟩⟩), List.forall_mem_cons.mpr ⟨(List.forall_mem_cons.mpr ⟨trivial, List.forall_mem_cons.mpr ⟨trivial, List.forall_mem_cons.mpr ⟨⟨_, rfl, Nat.le_of_ble_eq_true rfl, Or.inl (tb2 21 rfl rfl)⟩, List.forall_mem_cons.mpr ⟨trivial, List.forall_mem_cons.mpr ⟨trivial, List.forall_mem_cons.mpr ⟨⟨⟨okm_83.1, okm_83.2.1, okm_83.2.2.1, okm_83.2.2.2, Nat.le_of_ble_eq_true rfl, Nat.le_of_ble_eq_true rfl, Or.inl (tb3 92 rfl rfl)⟩, Nat.le_of_ble_eq_true rfl, oki_83, okv_83, ⟨_, rfl, rfl⟩⟩, List.forall_mem_cons.mpr ⟨trivial, List.forall_mem_cons.mpr ⟨trivial, List.forall_mem_cons.mpr ⟨trivial, fun _ h => absurd h List.not_mem_nil⟩⟩⟩⟩⟩⟩⟩⟩⟩), List.forall_mem_cons.mpr ⟨(List.forall_mem_cons.mpr ⟨⟨(tb3 69 rfl rfl), (tb2 119 rfl rfl), (tb1 5 rfl rfl), (tb2 120 rfl rfl), Nat.le_of_ble_eq_true rfl, Nat.le_of_ble_eq_true rfl⟩, List.forall_mem_cons.mpr ⟨⟨(tb3 69 rfl rfl), (tb2 119 rfl rfl), (tb1 5 rfl rfl), (tb2 120 rfl rfl), Nat.le_of_ble_eq_true rfl, Nat.le_of_ble_eq_true rfl⟩, List.forall_mem_cons.mpr ⟨trivial, List.forall_mem_cons.mpr ⟨trivial, List.forall_mem_cons.mpr ⟨trivial, List.forall_mem_cons.mpr ⟨trivial, List.forall_mem_cons.mpr ⟨trivial, List.forall_mem_cons.mpr ⟨trivial, fun _ h => absurd h List.not_mem_nil⟩⟩⟩⟩⟩⟩⟩⟩), List.forall_mem_cons.mpr ⟨(List.forall_mem_cons.mpr ⟨trivial, List.forall_mem_cons.mpr ⟨⟨_, rfl, Nat.le_of_ble_eq_true rfl, Or.inl (tb2 23 rfl rfl)⟩, List.forall_mem_cons.mpr ⟨trivial, List.forall_mem_cons.mpr ⟨trivial, List.forall_mem_cons.mpr ⟨trivial, List.forall_mem_cons.mpr ⟨trivial, List.forall_mem_cons.mpr ⟨⟨_, rfl, Nat.le_of_ble_eq_true rfl, Or.inl (tb2 21 rfl rfl)⟩, List.forall_mem_cons.mpr ⟨trivial, fun _ h => absurd h List.not_mem_nil⟩⟩⟩⟩⟩⟩⟩⟩), List.forall_mem_cons.mpr ⟨(List.forall_mem_cons.mpr ⟨trivial, List.forall_mem_cons.mpr ⟨trivial, List.forall_mem_cons.mpr ⟨⟨_, rfl, Nat.le_of_ble_eq_true rfl, Or.inl (tb2 23 rfl rfl)⟩, List.forall_mem_cons.mpr ⟨trivial, List.forall_mem_cons.mpr ⟨trivial, List.forall_mem_cons.mpr ⟨trivial, List.forall_mem_cons.mpr ⟨trivial, List.forall_mem_cons.mpr ⟨trivial, List.forall_mem_cons.mpr ⟨⟨⟨okm_85.1, okm_85.2.1, okm_85.2.2.1, okm_85.2.2.2, Nat.le_of_ble_eq_true rfl, Nat.le_of_ble_eq_true rfl, Or.inl (tb3 97 rfl rfl)⟩, Nat.le_of_ble_eq_true rfl, oks_85⟩, List.forall_mem_cons.mpr ⟨trivial, fun _ h => absurd h List.not_mem_nil⟩⟩⟩⟩⟩⟩⟩⟩⟩⟩), List.forall_mem_cons.mpr ⟨(List.forall_mem_cons.mpr ⟨trivial, List.forall_mem_cons.mpr ⟨trivial, List.forall_mem_cons.mpr ⟨trivial, List.forall_mem_cons.mpr ⟨trivial, List.forall_mem_cons.mpr ⟨rfl, fun _ h => absurd h List.not_mem_nil⟩⟩⟩⟩⟩), fun _ h => absurd h List.not_mem_nil⟩⟩⟩⟩⟩⟩⟩⟩⟩, by decide +kernel, rfl⟩
set_option maxRecDepth 100000 in
theorem okQ_87 : sm_Q PZ PP 87 := ⟨by decide +kernel, show ∀ ch ∈ pc_87, ∀ q ∈ ch, sm_okL PZ PP 87 q.2.1 q.2.2.2.1 q.2.2.2.2.1 q.2.2.2.2.2 from List.forall_mem_cons.mpr ⟨(List.forall_mem_cons.mpr ⟨trivial, List.forall_mem_cons.mpr ⟨trivial, List.forall_mem_cons.mpr ⟨trivial, List.forall_mem_cons.mpr ⟨trivial, List.forall_mem_cons.mpr ⟨trivial, List.forall_mem_cons.mpr ⟨trivial, List.forall_mem_cons.mpr ⟨trivial, List.forall_mem_cons.mpr ⟨rfl, List.forall_mem_cons.mpr ⟨trivial, List.forall_mem_cons.mpr ⟨trivial, List.forall_mem_cons.mpr ⟨trivial, fun _ h => absurd h List.not_mem_nil⟩⟩⟩⟩⟩⟩⟩⟩⟩⟩⟩), List.forall_mem_cons.mpr ⟨(List.forall_mem_cons.mpr ⟨trivial, List.forall_mem_cons.mpr ⟨⟨_, rfl, Nat.le_of_ble_eq_true rfl, Or.inr ⟨_, List.mem_of_getElem? (i := 21) rfl⟩⟩, List.forall_mem_cons.mpr ⟨trivial, List.forall_mem_cons.mpr ⟨trivial, List.forall_mem_cons.mpr ⟨trivial, List.forall_mem_cons.mpr ⟨trivial, List.forall_mem_cons.mpr ⟨trivial, List.forall_mem_cons.mpr ⟨⟨⟨okm_84.1, okm_84.2.1, okm_84.2.2.1, okm_84.2.2.2, Nat.le_of_ble_eq_true rfl, Nat.le_of_ble_eq_true rfl, Or.inl (tb3 100 rfl rfl)⟩, Nat.le_of_ble_eq_true rfl, oks_84⟩, fun _ h => absurd h List.not_mem_nil⟩⟩⟩⟩⟩⟩⟩⟩), List.forall_mem_cons.mpr ⟨(List.forall_mem_cons.mpr ⟨trivial, List.forall_mem_cons.mpr ⟨trivial, List.forall_mem_cons.mpr ⟨trivial, List.forall_mem_cons.mpr ⟨trivial, List.forall_mem_cons.mpr ⟨trivial, List.forall_mem_cons.mpr ⟨trivial, List.forall_mem_cons.mpr ⟨trivial, List.forall_mem_cons.mpr ⟨trivial, List.forall_mem_cons.mpr ⟨trivial, fun _ h => absurd h List.not_mem_nil⟩⟩⟩⟩⟩⟩⟩⟩⟩), List.forall_mem_cons.mpr ⟨(List.forall_mem_cons.mpr ⟨trivial, List.forall_mem_cons.mpr ⟨trivial, List.forall_mem_cons.mpr ⟨⟨⟨okm_77.1, okm_77.2.1, okm_77.2.2.1, okm_77.2.2.2, Nat.le_of_ble_eq_true rfl, Nat.le_of_ble_eq_true rfl, Or.inl (tb3 79 rfl rfl)⟩, Nat.le_of_ble_eq_true rfl, oki_77, okv_77, ⟨_, rfl, rfl⟩⟩, List.forall_mem_cons.mpr ⟨rfl, List.forall_mem_cons.mpr ⟨trivial, List.forall_mem_cons.mpr ⟨trivial, List.forall_mem_cons.mpr ⟨trivial, List.forall_mem_cons.mpr ⟨rfl, fun _ h => absurd h List.not_mem_nil⟩⟩⟩⟩⟩⟩⟩⟩), fun _ h => absurd h List.not_mem_nil⟩⟩⟩⟩, by decide +kernel, rfl⟩
set_option maxRecDepth 100000 in
theorem okQ_88 : sm_Q PZ PP 88 := ⟨by decide +kernel, show ∀ ch ∈ pc_88, ∀ q ∈ ch, sm_okL PZ PP 88 q.2.1 q.2.2.2.1 q.2.2.2.2.1 q.2.2.2.2.2 from List.forall_mem_cons.mpr ⟨(List.forall_mem_cons.mpr ⟨trivial, List.forall_mem_cons.mpr ⟨trivial, List.forall_mem_cons.mpr ⟨trivial, List.forall_mem_cons.mpr ⟨trivial, List.forall_mem_cons.mpr ⟨trivial, List.forall_mem_cons.mpr ⟨rfl, List.forall_mem_cons.mpr ⟨trivial, List.forall_mem_cons.mpr ⟨trivial, List.forall_mem_cons.mpr ⟨trivial, List.forall_mem_cons.mpr ⟨⟨⟨okm_86.1, okm_86.2.1, okm_86.2.2.1, okm_86.2.2.2, Nat.le_of_ble_eq_true rfl, Nat.le_of_ble_eq_true rfl, Or.inl (tb3 85 rfl rfl)⟩, Nat.le_of_ble_eq_true rfl, oki_86, okv_86, ⟨_, rfl, rfl⟩⟩, fun _ h => absurd h List.not_mem_nil⟩⟩⟩⟩⟩⟩⟩⟩⟩⟩), List.forall_mem_cons.mpr ⟨(List.forall_mem_cons.mpr ⟨trivial, List.forall_mem_cons.mpr ⟨⟨_, rfl, Nat.le_of_ble_eq_true rfl, Or.inl (tb2 23 rfl rfl)⟩, List.forall_mem_cons.mpr ⟨trivial, List.forall_mem_cons.mpr ⟨trivial, List.forall_mem_cons.mpr ⟨trivial, List.forall_mem_cons.mpr ⟨trivial, List.forall_mem_cons.mpr ⟨trivial, List.forall_mem_cons.mpr ⟨trivial, List.forall_mem_cons.mpr ⟨rfl, List.forall_mem_cons.mpr ⟨trivial, fun _ h => absurd h List.not_mem_nil⟩⟩⟩⟩⟩⟩⟩⟩⟩⟩), List.forall_mem_cons.mpr ⟨(List.forall_mem_cons.mpr ⟨trivial, List.forall_mem_cons.mpr ⟨⟨_, rfl, Nat.le_of_ble_eq_true rfl, Or.inl (tb2 23 rfl rfl)⟩, List.forall_mem_cons.mpr ⟨trivial, List.forall_mem_cons.mpr ⟨trivial, List.forall_mem_cons.mpr ⟨trivial, List.forall_mem_cons.mpr ⟨trivial, List.forall_mem_cons.mpr ⟨⟨_, rfl, Nat.le_of_ble_eq_true rfl, ⟨.int, by decide +kernel, rfl⟩, Or.inl ⟨rfl, Or.inl (tb2 25 rfl rfl)⟩⟩, List.forall_mem_cons.mpr ⟨trivial, List.forall_mem_cons.mpr ⟨trivial, List.forall_mem_cons.mpr ⟨trivial, List.forall_mem_cons.mpr ⟨trivial, fun _ h => absurd h List.not_mem_nil⟩⟩⟩⟩⟩⟩⟩⟩⟩⟩⟩), List.forall_mem_cons.mpr ⟨(List.forall_mem_cons.mpr ⟨trivial, List.forall_mem_cons.mpr ⟨trivial, List.forall_mem_cons.mpr ⟨trivial, List.forall_mem_cons.mpr ⟨trivial, List.forall_mem_cons.mpr ⟨trivial, List.forall_mem_cons.mpr ⟨trivial, List.forall_mem_cons.mpr ⟨trivial, List.forall_mem_cons.mpr ⟨⟨_, rfl, Nat.le_of_ble_eq_true rfl, Or.inl (tb2 24 rfl rfl)⟩, fun _ h => absurd h List.not_mem_nil⟩⟩⟩⟩⟩⟩⟩⟩), List.forall_mem_cons.mpr ⟨(List.forall_mem_cons.mpr ⟨trivial, List.forall_mem_cons.mpr ⟨trivial, List.forall_mem_cons.mpr ⟨⟨_, rfl, Nat.le_of_ble_eq_true rfl, Or.inl (tb2 21 rfl rfl)⟩, List.forall_mem_cons.mpr ⟨trivial, List.forall_mem_cons.mpr ⟨trivial, List.forall_mem_cons.mpr ⟨trivial, List.forall_mem_cons.mpr ⟨⟨_, rfl, Nat.le_of_ble_eq_true rfl, Or.inl (tb2 23 rfl rfl)⟩, List.forall_mem_cons.mpr ⟨trivial, fun _ h => absurd h List.not_mem_nil⟩⟩⟩⟩⟩⟩⟩⟩), List.forall_mem_cons.mpr ⟨(List.forall_mem_cons.mpr ⟨trivial, List.forall_mem_cons.mpr ⟨trivial, List.forall_mem_cons.mpr ⟨⟨_, rfl, Nat.le_of_ble_eq_true rfl, Or.inl (tb2 23 rfl rfl)⟩, List.forall_mem_cons.mpr ⟨trivial, List.forall_mem_cons.mpr ⟨trivial, List.forall_mem_cons.mpr ⟨trivial, List.forall_mem_cons.mpr ⟨trivial, List.forall_mem_cons.mpr ⟨trivial, List.forall_mem_cons.mpr ⟨⟨⟨okm_87.1, okm_87.2.1, okm_87.2.2.1, okm_87.2.2.2, Nat.le_of_ble_eq_true rfl, Nat.le_of_ble_eq_true rfl, Or.inl (tb3 103 rfl rfl)⟩, Nat.le_of_ble_eq_true rfl, oks_87⟩, List.forall_mem_cons.mpr ⟨trivial, List.forall_mem_cons.mpr ⟨trivial, fun _ h => absurd h List.not_mem_nil⟩⟩⟩⟩⟩⟩⟩⟩⟩⟩⟩), List.forall_mem_cons.mpr ⟨(List.forall_mem_cons.mpr ⟨trivial, List.forall_mem_cons.mpr ⟨⟨_, rfl, Nat.le_of_ble_eq_true rfl, Or.inl (tb2 24 rfl rfl)⟩, List.forall_mem_cons.mpr ⟨trivial, List.forall_mem_cons.mpr ⟨trivial, List.forall_mem_cons.mpr ⟨trivial, List.forall_mem_cons.mpr ⟨trivial, List.forall_mem_cons.mpr ⟨trivial, List.forall_mem_cons.mpr ⟨trivial, List.forall_mem_cons.mpr ⟨rfl, fun _ h => absurd h List.not_mem_nil⟩⟩⟩⟩⟩⟩⟩⟩⟩), fun _ h => absurd h List.not_mem_nil⟩⟩⟩⟩⟩⟩⟩, by decide +kernel, rfl⟩
set_option maxRecDepth 100000 in
theorem okQ_89 : sm_Q PZ PP 89 := ⟨by decide +kernel, show ∀ ch ∈ pc_89, ∀ q ∈ ch, sm_okL PZ PP 89 q.2.1 q.2.2.2.1 q.2.2.2.2.1 q.2.2.2.2.2 from List.forall_mem_cons.mpr ⟨(List.forall_mem_cons.mpr ⟨trivial, List.forall_mem_cons.mpr ⟨⟨_, rfl, Nat.le_of_ble_eq_true rfl, Or.inl (tb2 27 rfl rfl)⟩, List.forall_mem_cons.mpr ⟨trivial, List.forall_mem_cons.mpr ⟨rfl, List.forall_mem_cons.mpr ⟨trivial, List.forall_mem_cons.mpr ⟨trivial, List.forall_mem_cons.mpr ⟨trivial, List.forall_mem_cons.mpr ⟨⟨⟨okm_68.1, okm_68.2.1, okm_68.2.2.1, okm_68.2.2.2, Nat.le_of_ble_eq_true rfl, Nat.le_of_ble_eq_true rfl, Or.inl (tb3 68 rfl rfl)⟩, Nat.le_of_ble_eq_true rfl, oki_68, okv_68, ⟨_, rfl, rfl⟩⟩, List.forall_mem_cons.mpr ⟨trivial, List.forall_mem_cons.mpr ⟨⟨_, rfl, Nat.le_of_ble_eq_true rfl, Or.inr ⟨_, List.mem_of_getElem? (i := 10) rfl⟩⟩, fun _ h => absurd h List.not_mem_nil⟩⟩⟩⟩⟩⟩⟩⟩⟩⟩), List.forall_mem_cons.mpr ⟨(List.forall_mem_cons.mpr ⟨trivial, List.forall_mem_cons.mpr ⟨⟨(tb3 69 rfl rfl), (tb2 119 rfl rfl), (tb1 5 rfl rfl), (tb2 120 rfl rfl), Nat.le_of_ble_eq_true rfl, Nat.le_of_ble_eq_true rfl⟩, List.forall_mem_cons.mpr ⟨trivial, List.forall_mem_cons.mpr ⟨trivial, List.forall_mem_cons.mpr ⟨trivial, List.forall_mem_cons.mpr ⟨⟨_, rfl, Nat.le_of_ble_eq_true rfl, ⟨.int, by decide +kernel, rfl⟩, Or.inl ⟨rfl, Or.inl (tb2 25 rfl rfl)⟩⟩, List.forall_mem_cons.mpr ⟨trivial, List.forall_mem_cons.mpr ⟨trivial, fun _ h => absurd h List.not_mem_nil⟩⟩⟩⟩⟩⟩⟩⟩), List.forall_mem_cons.mpr ⟨(List.forall_mem_cons.mpr ⟨⟨⟨okm_80.1, okm_80.2.1, okm_80.2.2.1, okm_80.2.2.2, Nat.le_of_ble_eq_true rfl, Nat.le_of_ble_eq_true rfl, Or.inl (tb3 70 rfl rfl)⟩, Nat.le_of_ble_eq_true rfl, oki_80, okv_80, ⟨_, rfl, rfl⟩⟩, List.forall_mem_cons.mpr ⟨trivial, List.forall_mem_cons.mpr ⟨trivial, List.forall_mem_cons.mpr ⟨⟨_, rfl, Nat.le_of_ble_eq_true rfl, Or.inr ⟨_, List.mem_of_getElem? (i := 14) rfl⟩⟩, List.forall_mem_cons.mpr ⟨trivial, List.forall_mem_cons.mpr ⟨trivial, List.forall_mem_cons.mpr ⟨trivial, fun _ h => absurd h List.not_mem_nil⟩⟩⟩⟩⟩⟩⟩), List.forall_mem_cons.mpr ⟨(List.forall_mem_cons.mpr ⟨trivial, List.forall_mem_cons.mpr ⟨⟨⟨okm_81.1, okm_81.2.1, okm_81.2.2.1, okm_81.2.2.2, Nat.le_of_ble_eq_true rfl, Nat.le_of_ble_eq_true rfl, Or.inl (tb3 74 rfl rfl)⟩, Nat.le_of_ble_eq_true rfl, oki_81, okv_81, ⟨_, rfl, rfl⟩⟩, List.forall_mem_cons.mpr ⟨trivial, List.forall_mem_cons.mpr ⟨trivial, List.forall_mem_cons.mpr ⟨trivial, List.forall_mem_cons.mpr ⟨trivial, List.forall_mem_cons.mpr ⟨⟨_, rfl, Nat.le_of_ble_eq_true rfl, Or.inr ⟨_, List.mem_of_getElem? (i := 14) rfl⟩⟩, List.forall_mem_cons.mpr ⟨⟨⟨okm_88.1, okm_88.2.1, okm_88.2.2.1, okm_88.2.2.2, Nat.le_of_ble_eq_true rfl, Nat.le_of_ble_eq_true rfl, Or.inl (tb3 81 rfl rfl)⟩, Nat.le_of_ble_eq_true rfl, oki_88, okv_88, ⟨_, rfl, rfl⟩⟩, fun _ h => absurd h List.not_mem_nil⟩⟩⟩⟩⟩⟩⟩⟩), List.forall_mem_cons.mpr ⟨(List.forall_mem_cons.mpr ⟨trivial, List.forall_mem_cons.mpr ⟨trivial, List.forall_mem_cons.mpr ⟨⟨_, rfl, Nat.le_of_ble_eq_true rfl, ⟨.boolean, by decide +kernel, rfl⟩, Or.inl ⟨rfl, Or.inl (tb2 27 rfl rfl)⟩⟩, List.forall_mem_cons.mpr ⟨rfl, fun _ h => absurd h List.not_mem_nil⟩⟩⟩⟩), fun _ h => absurd h List.not_mem_nil⟩⟩⟩⟩⟩, by decide +kernel, rfl⟩
set_option maxRecDepth 100000 in
theorem okQ_90 : sm_Q PZ PP 90 := ⟨by decide +kernel, show ∀ ch ∈ pc_90, ∀ q ∈ ch, sm_okL PZ PP 90 q.2.1 q.2.2.2.1 q.2.2.2.2.1 q.2.2.2.2.2 from List.forall_mem_cons.mpr ⟨(List.forall_mem_cons.mpr ⟨trivial, List.forall_mem_cons.mpr ⟨⟨_, rfl, Nat.le_of_ble_eq_true rfl, Or.inl (tb2 25 rfl rfl)⟩, List.forall_mem_cons.mpr ⟨trivial, List.forall_mem_cons.mpr ⟨trivial, List.forall_mem_cons.mpr ⟨trivial, List.forall_mem_cons.mpr ⟨trivial, List.forall_mem_cons.mpr ⟨trivial, List.forall_mem_cons.mpr ⟨trivial, fun _ h => absurd h List.not_mem_nil⟩⟩⟩⟩⟩⟩⟩⟩), List.forall_mem_cons.mpr ⟨(List.forall_mem_cons.mpr ⟨trivial, List.forall_mem_cons.mpr ⟨trivial, List.forall_mem_cons.mpr ⟨trivial, List.forall_mem_cons.mpr ⟨trivial, List.forall_mem_cons.mpr ⟨trivial, List.forall_mem_cons.mpr ⟨trivial, List.forall_mem_cons.mpr ⟨trivial, List.forall_mem_cons.mpr ⟨trivial, List.forall_mem_cons.mpr ⟨⟨_, rfl, Nat.le_of_ble_eq_true rfl, Or.inl (tb2 24 rfl rfl)⟩, fun _ h => absurd h List.not_mem_nil⟩⟩⟩⟩⟩⟩⟩⟩⟩), List.forall_mem_cons.mpr ⟨(List.forall_mem_cons.mpr ⟨trivial, List.forall_mem_cons.mpr ⟨trivial, List.forall_mem_cons.mpr ⟨trivial, List.forall_mem_cons.mpr ⟨trivial, List.forall_mem_cons.mpr ⟨rfl, fun _ h => absurd h List.not_mem_nil⟩⟩⟩⟩⟩), fun _ h => absurd h List.not_mem_nil⟩⟩⟩, by decide +kernel, rfl⟩
set_option maxRecDepth 100000 in
theorem okQ_91 : sm_Q PZ PP 91 := ⟨by decide +kernel, show ∀ ch ∈ pc_91, ∀ q ∈ ch, sm_okL PZ PP 91 q.2.1 q.2.2.2.1 q.2.2.2.2.1 q.2.2.2.2.2 from List.forall_mem_cons.mpr ⟨(List.forall_mem_cons.mpr ⟨trivial, List.forall_mem_cons.mpr ⟨trivial, List.forall_mem_cons.mpr ⟨trivial, List.forall_mem_cons.mpr ⟨trivial, List.forall_mem_cons.mpr ⟨⟨_, rfl, Nat.le_of_ble_eq_true rfl, Or.inl (tb2 48 rfl rfl)⟩, List.forall_mem_cons.mpr ⟨trivial, List.forall_mem_cons.mpr ⟨⟨⟨okm_48.1, okm_48.2.1, okm_48.2.2.1, okm_48.2.2.2, Nat.le_of_ble_eq_true rfl, Nat.le_of_ble_eq_true rfl, Or.inl (tb2 160 rfl rfl)⟩, Nat.le_of_ble_eq_true rfl, oki_48, okv_48, ⟨_, rfl, rfl⟩⟩, List.forall_mem_cons.mpr ⟨trivial, fun _ h => absurd h List.not_mem_nil⟩⟩⟩⟩⟩⟩⟩⟩), List.forall_mem_cons.mpr ⟨(List.forall_mem_cons.mpr ⟨trivial, List.forall_mem_cons.mpr ⟨rfl, List.forall_mem_cons.mpr ⟨trivial, List.forall_mem_cons.mpr ⟨⟨_, rfl, Nat.le_of_ble_eq_true rfl, Or.inl (tb2 53 rfl rfl)⟩, List.forall_mem_cons.mpr ⟨trivial, List.forall_mem_cons.mpr ⟨⟨_, rfl, Nat.le_of_ble_eq_true rfl, Or.inl (tb2 48 rfl rfl)⟩, List.forall_mem_cons.mpr ⟨trivial, List.forall_mem_cons.mpr ⟨⟨_, rfl, Nat.le_of_ble_eq_true rfl, Or.inl (tb2 52 rfl rfl)⟩, List.forall_mem_cons.mpr ⟨⟨⟨okm_89.1, okm_89.2.1, okm_89.2.2.1, okm_89.2.2.2, Nat.le_of_ble_eq_true rfl, Nat.le_of_ble_eq_true rfl, Or.inl (tb3 64 rfl rfl)⟩, Nat.le_of_ble_eq_true rfl, oki_89, okv_89, ⟨_, rfl, rfl⟩⟩, fun _ h => absurd h List.not_mem_nil⟩⟩⟩⟩⟩⟩⟩⟩⟩), List.forall_mem_cons.mpr ⟨(List.forall_mem_cons.mpr ⟨trivial, List.forall_mem_cons.mpr ⟨trivial, List.forall_mem_cons.mpr ⟨trivial, List.forall_mem_cons.mpr ⟨trivial, List.forall_mem_cons.mpr ⟨⟨_, rfl, Nat.le_of_ble_eq_true rfl, Or.inl (tb2 53 rfl rfl)⟩, List.forall_mem_cons.mpr ⟨⟨_, rfl, Nat.le_of_ble_eq_true rfl, Or.inr ⟨_, List.mem_of_getElem? (i := 25) rfl⟩⟩, List.forall_mem_cons.mpr ⟨trivial, fun _ h => absurd h List.not_mem_nil⟩⟩⟩⟩⟩⟩⟩), List.forall_mem_cons.mpr ⟨(List.forall_mem_cons.mpr ⟨trivial, List.forall_mem_cons.mpr ⟨⟨_, rfl, Nat.le_of_ble_eq_true rfl, Or.inl (tb2 53 rfl rfl)⟩, List.forall_mem_cons.mpr ⟨trivial, List.forall_mem_cons.mpr ⟨⟨⟨okm_90.1, okm_90.2.1, okm_90.2.2.1, okm_90.2.2.2, Nat.le_of_ble_eq_true rfl, Nat.le_of_ble_eq_true rfl, Or.inl (tb3 106 rfl rfl)⟩, Nat.le_of_ble_eq_true rfl, oki_90, okv_90, ⟨_, rfl, rfl⟩⟩, List.forall_mem_cons.mpr ⟨rfl, fun _ h => absurd h List.not_mem_nil⟩⟩⟩⟩⟩), fun _ h => absurd h List.not_mem_nil⟩⟩⟩⟩, by decide +kernel, rfl⟩
set_option maxRecDepth 100000 in
theorem okQ_92 : sm_Q PZ PP 92 := ⟨by decide +kernel, show ∀ ch ∈ pc_92, ∀ q ∈ ch, sm_okL PZ PP 92 q.2.1 q.2.2.2.1 q.2.2.2.2.1 q.2.2.2.2.2 from List.forall_mem_cons.mpr ⟨(List.forall_mem_cons.mpr ⟨trivial, List.forall_mem_cons.mpr ⟨trivial, List.forall_mem_cons.mpr ⟨trivial, List.forall_mem_cons.mpr ⟨trivial, List.forall_mem_cons.mpr ⟨trivial, List.forall_mem_cons.mpr ⟨trivial, List.forall_mem_cons.mpr ⟨trivial, List.forall_mem_cons.mpr ⟨trivial, List.forall_mem_cons.mpr ⟨trivial, List.forall_mem_cons.mpr ⟨trivial, List.forall_mem_cons.mpr ⟨trivial, List.forall_mem_cons.mpr ⟨trivial, List.forall_mem_cons.mpr ⟨trivial, fun _ h => absurd h List.not_mem_nil⟩⟩⟩⟩⟩⟩⟩⟩⟩⟩⟩⟩⟩), List.forall_mem_cons.mpr ⟨(List.forall_mem_cons.mpr ⟨trivial, List.forall_mem_cons.mpr ⟨rfl, fun _ h => absurd h List.not_mem_nil⟩⟩), fun _ h => absurd h List.not_mem_nil⟩⟩, by decide +kernel, rfl⟩
set_option maxRecDepth 100000 in
theorem okQ_93 : sm_Q PZ PP 93 := ⟨by decide +kernel, show ∀ ch ∈ pc_93, ∀ q ∈ ch, sm_okL PZ PP 93 q.2.1 q.2.2.2.1 q.2.2.2.2.1 q.2.2.2.2.2 from List.forall_mem_cons.mpr ⟨(List.forall_mem_cons.mpr ⟨trivial, List.forall_mem_cons.mpr ⟨trivial, List.forall_mem_cons.mpr ⟨trivial, List.forall_mem_cons.mpr ⟨trivial, List.forall_mem_cons.mpr ⟨trivial, List.forall_mem_cons.mpr ⟨trivial, List.forall_mem_cons.mpr ⟨⟨_, rfl, Nat.le_of_ble_eq_true rfl, Or.inl (tb2 28 rfl rfl)⟩, List.forall_mem_cons.mpr ⟨trivial, fun _ h => absurd h List.not_mem_nil⟩⟩⟩⟩⟩⟩⟩⟩), List.forall_mem_cons.mpr ⟨(List.forall_mem_cons.mpr ⟨trivial, List.forall_mem_cons.mpr ⟨trivial, List.forall_mem_cons.mpr ⟨trivial, List.forall_mem_cons.mpr ⟨trivial, List.forall_mem_cons.mpr ⟨trivial, List.forall_mem_cons.mpr ⟨rfl, fun _ h => absurd h List.not_mem_nil⟩⟩⟩⟩⟩⟩), fun _ h => absurd h List.not_mem_nil⟩⟩, by decide +kernel, rfl⟩
set_option maxRecDepth 100000 in
theorem okQ_94 : sm_Q PZ PP 94 := ⟨by decide +kernel, show ∀ ch ∈ pc_94, ∀ q ∈ ch, sm_okL PZ PP 94 q.2.1 q.2.2.2.1 q.2.2.2.2.1 q.2.2.2.2.2 from List.forall_mem_cons.mpr ⟨(List.forall_mem_cons.mpr ⟨trivial, List.forall_mem_cons.mpr ⟨trivial, List.forall_mem_cons.mpr ⟨trivial, List.forall_mem_cons.mpr ⟨trivial, List.forall_mem_cons.mpr ⟨⟨_, rfl, Nat.le_of_ble_eq_true rfl, Or.inr ⟨_, List.mem_of_getElem? (i := 21) rfl⟩⟩, List.forall_mem_cons.mpr ⟨trivial, List.forall_mem_cons.mpr ⟨trivial, List.forall_mem_cons.mpr ⟨trivial, List.forall_mem_cons.mpr ⟨trivial, List.forall_mem_cons.mpr ⟨trivial, List.forall_mem_cons.mpr ⟨⟨⟨okm_77.1, okm_77.2.1, okm_77.2.2.1, okm_77.2.2.2, Nat.le_of_ble_eq_true rfl, Nat.le_of_ble_eq_true rfl, Or.inl (tb3 79 rfl rfl)⟩, Nat.le_of_ble_eq_true rfl, oki_77, okv_77, ⟨_, rfl, rfl⟩⟩, fun _ h => absurd h List.not_mem_nil⟩⟩⟩⟩⟩⟩⟩⟩⟩⟩⟩), List.forall_mem_cons.mpr ⟨(List.forall_mem_cons.mpr ⟨trivial, List.forall_mem_cons.mpr ⟨⟨⟨okm_93.1, okm_93.2.1, okm_93.2.2.1, okm_93.2.2.2, Nat.le_of_ble_eq_true rfl, Nat.le_of_ble_eq_true rfl, Or.inl (tb3 134 rfl rfl)⟩, Nat.le_of_ble_eq_true rfl, oki_93, okv_93, ⟨_, rfl, rfl⟩⟩, List.forall_mem_cons.mpr ⟨trivial, List.forall_mem_cons.mpr ⟨trivial, List.forall_mem_cons.mpr ⟨rfl, List.forall_mem_cons.mpr ⟨trivial, List.forall_mem_cons.mpr ⟨trivial, fun _ h => absurd h List.not_mem_nil⟩⟩⟩⟩⟩⟩⟩), List.forall_mem_cons.mpr ⟨(List.forall_mem_cons.mpr ⟨trivial, List.forall_mem_cons.mpr ⟨rfl, fun _ h => absurd h List.not_mem_nil⟩⟩), fun _ h => absurd h List.not_mem_nil⟩⟩⟩, by decide +kernel, rfl⟩
set_option maxRecDepth 100000 in
theorem okQ_95 : sm_Q PZ PP 95 := ⟨by decide +kernel, show ∀ ch ∈ pc_95, ∀ q ∈ ch, sm_okL PZ PP 95 q.2.1 q.2.2.2.1 q.2.2.2.2.1 q.2.2.2.2.2 from List.forall_mem_cons.mpr ⟨(List.forall_mem_cons.mpr ⟨trivial, List.forall_mem_cons.mpr ⟨trivial, List.forall_mem_cons.mpr ⟨⟨(tb3 69 rfl rfl), (tb2 119 rfl rfl), (tb1 5 rfl rfl), (tb2 120 rfl rfl), Nat.le_of_ble_eq_true rfl, Nat.le_of_ble_eq_true rfl⟩, List.forall_mem_cons.mpr ⟨trivial, List.forall_mem_cons.mpr ⟨trivial, List.forall_mem_cons.mpr ⟨trivial, List.forall_mem_cons.mpr ⟨trivial, List.forall_mem_cons.mpr ⟨⟨_, rfl, Nat.le_of_ble_eq_true rfl, Or.inl (tb2 28 rfl rfl)⟩, fun _ h => absurd h List.not_mem_nil⟩⟩⟩⟩⟩⟩⟩⟩), List.forall_mem_cons.mpr ⟨(List.forall_mem_cons.mpr ⟨trivial, List.forall_mem_cons.mpr ⟨trivial, List.forall_mem_cons.mpr ⟨trivial, List.forall_mem_cons.mpr ⟨trivial, List.forall_mem_cons.mpr ⟨⟨⟨okm_94.1, okm_94.2.1, okm_94.2.2.1, okm_94.2.2.2, Nat.le_of_ble_eq_true rfl, Nat.le_of_ble_eq_true rfl, Or.inl (tb3 130 rfl rfl)⟩, Nat.le_of_ble_eq_true rfl, oki_94, okv_94, ⟨_, rfl, rfl⟩⟩, List.forall_mem_cons.mpr ⟨trivial, List.forall_mem_cons.mpr ⟨trivial, List.forall_mem_cons.mpr ⟨trivial, List.forall_mem_cons.mpr ⟨rfl, fun _ h => absurd h List.not_mem_nil⟩⟩⟩⟩⟩⟩⟩⟩⟩), fun _ h => absurd h List.not_mem_nil⟩⟩, by decide +kernel, rfl⟩
set_option maxRecDepth 100000 in
theorem okQ_96 : sm_Q PZ PP 96 := ⟨by decide +kernel, show ∀ ch ∈ pc_96, ∀ q ∈ ch, sm_okL PZ PP 96 q.2.1 q.2.2.2.1 q.2.2.2.2.1 q.2.2.2.2.2 from List.forall_mem_cons.mpr ⟨(List.forall_mem_cons.mpr ⟨trivial, List.forall_mem_cons.mpr ⟨⟨_, rfl, Nat.le_of_ble_eq_true rfl, Or.inl (tb2 28 rfl rfl)⟩, List.forall_mem_cons.mpr ⟨trivial, List.forall_mem_cons.mpr ⟨⟨⟨okm_92.1, okm_92.2.1, okm_92.2.2.1, okm_92.2.2.2, Nat.le_of_ble_eq_true rfl, Nat.le_of_ble_eq_true rfl, Or.inl (tb3 123 rfl rfl)⟩, Nat.le_of_ble_eq_true rfl, oks_92⟩, List.forall_mem_cons.mpr ⟨trivial, List.forall_mem_cons.mpr ⟨⟨_, rfl, Nat.le_of_ble_eq_true rfl, Or.inl (tb2 28 rfl rfl)⟩, List.forall_mem_cons.mpr ⟨trivial, List.forall_mem_cons.mpr ⟨trivial, List.forall_mem_cons.mpr ⟨trivial, List.forall_mem_cons.mpr ⟨trivial, fun _ h => absurd h List.not_mem_nil⟩⟩⟩⟩⟩⟩⟩⟩⟩⟩), List.forall_mem_cons.mpr ⟨(List.forall_mem_cons.mpr ⟨trivial, List.forall_mem_cons.mpr ⟨trivial, List.forall_mem_cons.mpr ⟨trivial, List.forall_mem_cons.mpr ⟨trivial, List.forall_mem_cons.mpr ⟨trivial, List.forall_mem_cons.mpr ⟨trivial, List.forall_mem_cons.mpr ⟨trivial, List.forall_mem_cons.mpr ⟨trivial, List.forall_mem_cons.mpr ⟨trivial, fun _ h => absurd h List.not_mem_nil⟩⟩⟩⟩⟩⟩⟩⟩⟩), List.forall_mem_cons.mpr ⟨(List.forall_mem_cons.mpr ⟨trivial, List.forall_mem_cons.mpr ⟨trivial, List.forall_mem_cons.mpr ⟨trivial, List.forall_mem_cons.mpr ⟨trivial, List.forall_mem_cons.mpr ⟨trivial, List.forall_mem_cons.mpr ⟨⟨_, rfl, Nat.le_of_ble_eq_true rfl, Or.inl (tb2 21 rfl rfl)⟩, List.forall_mem_cons.mpr ⟨trivial, fun _ h => absurd h List.not_mem_nil⟩⟩⟩⟩⟩⟩⟩), List.forall_mem_cons.mpr ⟨(List.forall_mem_cons.mpr ⟨trivial, List.forall_mem_cons.mpr ⟨⟨⟨okm_83.1, okm_83.2.1, okm_83.2.2.1, okm_83.2.2.2, Nat.le_of_ble_eq_true rfl, Nat.le_of_ble_eq_true rfl, Or.inl (tb3 92 rfl rfl)⟩, Nat.le_of_ble_eq_true rfl, oki_83, okv_83, ⟨_, rfl, rfl⟩⟩, List.forall_mem_cons.mpr ⟨trivial, List.forall_mem_cons.mpr ⟨trivial, List.forall_mem_cons.mpr ⟨trivial, List.forall_mem_cons.mpr ⟨⟨(tb3 69 rfl rfl), (tb2 119 rfl rfl), (tb1 5 rfl rfl), (tb2 120 rfl rfl), Nat.le_of_ble_eq_true rfl, Nat.le_of_ble_eq_true rfl⟩, List.forall_mem_cons.mpr ⟨⟨(tb3 69 rfl rfl), (tb2 119 rfl rfl), (tb1 5 rfl rfl), (tb2 120 rfl rfl), Nat.le_of_ble_eq_true rfl, Nat.le_of_ble_eq_true rfl⟩, List.forall_mem_cons.mpr ⟨trivial, fun _ h => absurd h List.not_mem_nil⟩⟩⟩⟩⟩⟩⟩⟩), List.forall_mem_cons.mpr ⟨(List.forall_mem_cons.mpr ⟨trivial, List.forall_mem_cons.mpr ⟨trivial, List.forall_mem_cons.mpr ⟨⟨_, rfl, Nat.le_of_ble_eq_true rfl, Or.inl (tb2 21 rfl rfl)⟩, List.forall_mem_cons.mpr ⟨trivial, List.forall_mem_cons.mpr ⟨trivial, List.forall_mem_cons.mpr ⟨trivial, List.forall_mem_cons.mpr ⟨⟨⟨okm_95.1, okm_95.2.1, okm_95.2.2.1, okm_95.2.2.2, Nat.le_of_ble_eq_true rfl, Nat.le_of_ble_eq_true rfl, Or.inl (tb3 126 rfl rfl)⟩, Nat.le_of_ble_eq_true rfl, oki_95, okv_95, ⟨_, rfl, rfl⟩⟩, List.forall_mem_cons.mpr ⟨trivial, fun _ h => absurd h List.not_mem_nil⟩⟩⟩⟩⟩⟩⟩⟩), List.forall_mem_cons.mpr ⟨(List.forall_mem_cons.mpr ⟨trivial, List.forall_mem_cons.mpr ⟨rfl, fun _ h => absurd h List.not_mem_nil⟩⟩), fun _ h => absurd h List.not_mem_nil⟩⟩⟩⟩⟩⟩, by decide +kernel, rfl⟩
set_option maxRecDepth 100000 in
theorem okQ_97 : sm_Q PZ PP 97 := ⟨by decide +kernel, show ∀ ch ∈ pc_97, ∀ q ∈ ch, sm_okL PZ PP 97 q.2.1 q.2.2.2.1 q.2.2.2.2.1 q.2.2.2.2.2 from List.forall_mem_cons.mpr ⟨(List.forall_mem_cons.mpr ⟨trivial, List.forall_mem_cons.mpr ⟨trivial, List.forall_mem_cons.mpr ⟨⟨⟨okm_80.1, okm_80.2.1, okm_80.2.2.1, okm_80.2.2.2, Nat.le_of_ble_eq_true rfl, Nat.le_of_ble_eq_true rfl, Or.inl (tb3 70 rfl rfl)⟩, Nat.le_of_ble_eq_true rfl, oki_80, okv_80, ⟨_, rfl, rfl⟩⟩, List.forall_mem_cons.mpr ⟨trivial, List.forall_mem_cons.mpr ⟨trivial, List.forall_mem_cons.mpr ⟨rfl, List.forall_mem_cons.mpr ⟨trivial, List.forall_mem_cons.mpr ⟨trivial, List.forall_mem_cons.mpr ⟨⟨⟨okm_69.1, okm_69.2.1, okm_69.2.2.1, okm_69.2.2.2, Nat.le_of_ble_eq_true rfl, Nat.le_of_ble_eq_true rfl, Or.inl (tb3 118 rfl rfl)⟩, Nat.le_of_ble_eq_true rfl, oki_69, okv_69, ⟨_, rfl, rfl⟩⟩, fun _ h => absurd h List.not_mem_nil⟩⟩⟩⟩⟩⟩⟩⟩⟩), List.forall_mem_cons.mpr ⟨(List.forall_mem_cons.mpr ⟨trivial, List.forall_mem_cons.mpr ⟨trivial, List.forall_mem_cons.mpr ⟨trivial, List.forall_mem_cons.mpr ⟨trivial, List.forall_mem_cons.mpr ⟨trivial, List.forall_mem_cons.mpr ⟨⟨_, rfl, Nat.le_of_ble_eq_true rfl, Or.inr ⟨_, List.mem_of_getElem? (i := 21) rfl⟩⟩, List.forall_mem_cons.mpr ⟨trivial, List.forall_mem_cons.mpr ⟨trivial, fun _ h => absurd h List.not_mem_nil⟩⟩⟩⟩⟩⟩⟩⟩), List.forall_mem_cons.mpr ⟨(List.forall_mem_cons.mpr ⟨trivial, List.forall_mem_cons.mpr ⟨trivial, List.forall_mem_cons.mpr ⟨⟨⟨okm_77.1, okm_77.2.1, okm_77.2.2.1, okm_77.2.2.2, Nat.le_of_ble_eq_true rfl, Nat.le_of_ble_eq_true rfl, Or.inl (tb3 79 rfl rfl)⟩, Nat.le_of_ble_eq_true rfl, oki_77, okv_77, ⟨_, rfl, rfl⟩⟩, List.forall_mem_cons.mpr ⟨trivial, List.forall_mem_cons.mpr ⟨trivial, List.forall_mem_cons.mpr ⟨rfl, List.forall_mem_cons.mpr ⟨trivial, List.forall_mem_cons.mpr ⟨trivial, List.forall_mem_cons.mpr ⟨trivial, fun _ h => absurd h List.not_mem_nil⟩⟩⟩⟩⟩⟩⟩⟩⟩), List.forall_mem_cons.mpr ⟨(List.forall_mem_cons.mpr ⟨trivial, List.forall_mem_cons.mpr ⟨⟨⟨okm_96.1, okm_96.2.1, okm_96.2.2.1, okm_96.2.2.2, Nat.le_of_ble_eq_true rfl, Nat.le_of_ble_eq_true rfl, Or.inl (tb3 119 rfl rfl)⟩, Nat.le_of_ble_eq_true rfl, oki_96, okv_96, ⟨_, rfl, rfl⟩⟩, List.forall_mem_cons.mpr ⟨trivial, List.forall_mem_cons.mpr ⟨trivial, List.forall_mem_cons.mpr ⟨trivial, List.forall_mem_cons.mpr ⟨trivial, List.forall_mem_cons.mpr ⟨trivial, List.forall_mem_cons.mpr ⟨trivial, List.forall_mem_cons.mpr ⟨⟨_, rfl, Nat.le_of_ble_eq_true rfl, Or.inr ⟨_, List.mem_of_getElem? (i := 21) rfl⟩⟩, fun _ h => absurd h List.not_mem_nil⟩⟩⟩⟩⟩⟩⟩⟩⟩), List.forall_mem_cons.mpr ⟨(List.forall_mem_cons.mpr ⟨trivial, List.forall_mem_cons.mpr ⟨trivial, List.forall_mem_cons.mpr ⟨trivial, List.forall_mem_cons.mpr ⟨trivial, List.forall_mem_cons.mpr ⟨trivial, List.forall_mem_cons.mpr ⟨⟨⟨okm_77.1, okm_77.2.1, okm_77.2.2.1, okm_77.2.2.2, Nat.le_of_ble_eq_true rfl, Nat.le_of_ble_eq_true rfl, Or.inl (tb3 79 rfl rfl)⟩, Nat.le_of_ble_eq_true rfl, oki_77, okv_77, ⟨_, rfl, rfl⟩⟩, List.forall_mem_cons.mpr ⟨trivial, List.forall_mem_cons.mpr ⟨⟨⟨okm_93.1, okm_93.2.1, okm_93.2.2.1, okm_93.2.2.2, Nat.le_of_ble_eq_true rfl, Nat.le_of_ble_eq_true rfl, Or.inl (tb3 134 rfl rfl)⟩, Nat.le_of_ble_eq_true rfl, oki_93, okv_93, ⟨_, rfl, rfl⟩⟩, fun _ h => absurd h List.not_mem_nil⟩⟩⟩⟩⟩⟩⟩⟩), List.forall_mem_cons.mpr ⟨(List.forall_mem_cons.mpr ⟨trivial, List.forall_mem_cons.mpr ⟨trivial, List.forall_mem_cons.mpr ⟨trivial, List.forall_mem_cons.mpr ⟨trivial, List.forall_mem_cons.mpr ⟨trivial, List.forall_mem_cons.mpr ⟨rfl, List.forall_mem_cons.mpr ⟨trivial, fun _ h => absurd h List.not_mem_nil⟩⟩⟩⟩⟩⟩⟩), List.forall_mem_cons.mpr ⟨(List.forall_mem_cons.mpr ⟨trivial, List.forall_mem_cons.mpr ⟨⟨⟨okm_77.1, okm_77.2.1, okm_77.2.2.1, okm_77.2.2.2, Nat.le_of_ble_eq_true rfl, Nat.le_of_ble_eq_true rfl, Or.inl (tb3 79 rfl rfl)⟩, Nat.le_of_ble_eq_true rfl, oki_77, okv_77, ⟨_, rfl, rfl⟩⟩, List.forall_mem_cons.mpr ⟨trivial, List.forall_mem_cons.mpr ⟨trivial, List.forall_mem_cons.mpr ⟨trivial, List.forall_mem_cons.mpr ⟨trivial, fun _ h => absurd h List.not_mem_nil⟩⟩⟩⟩⟩⟩), List.forall_mem_cons.mpr ⟨(List.forall_mem_cons.mpr ⟨rfl, fun _ h => absurd h List.not_mem_nil⟩), fun _ h => absurd h List.not_mem_nil⟩⟩⟩⟩⟩⟩⟩⟩, by decide +kernel, rfl⟩
set_option maxRecDepth 100000 in
theorem okQ_98 : sm_Q PZ PP 98 := ⟨by decide +kernel, show ∀ ch ∈ pc_98, ∀ q ∈ ch, sm_okL PZ PP 98 q.2.1 q.2.2.2.1 q.2.2.2.2.1 q.2.2.2.2.2 from List.forall_mem_cons.mpr ⟨(List.forall_mem_cons.mpr ⟨trivial, List.forall_mem_cons.mpr ⟨⟨_, rfl, Nat.le_of_ble_eq_true rfl, Or.inl (tb2 48 rfl rfl)⟩, List.forall_mem_cons.mpr ⟨trivial, List.forall_mem_cons.mpr ⟨⟨⟨okm_48.1, okm_48.2.1, okm_48.2.2.1, okm_48.2.2.2, Nat.le_of_ble_eq_true rfl, Nat.le_of_ble_eq_true rfl, Or.inl (tb2 160 rfl rfl)⟩, Nat.le_of_ble_eq_true rfl, oki_48, okv_48, ⟨_, rfl, rfl⟩⟩, List.forall_mem_cons.mpr ⟨trivial, List.forall_mem_cons.mpr ⟨trivial, List.forall_mem_cons.mpr ⟨rfl, List.forall_mem_cons.mpr ⟨trivial, List.forall_mem_cons.mpr ⟨⟨_, rfl, Nat.le_of_ble_eq_true rfl, Or.inl (tb2 53 rfl rfl)⟩, fun _ h => absurd h List.not_mem_nil⟩⟩⟩⟩⟩⟩⟩⟩⟩), List.forall_mem_cons.mpr ⟨(List.forall_mem_cons.mpr ⟨trivial, List.forall_mem_cons.mpr ⟨⟨_, rfl, Nat.le_of_ble_eq_true rfl, Or.inl (tb2 48 rfl rfl)⟩, List.forall_mem_cons.mpr ⟨trivial, List.forall_mem_cons.mpr ⟨⟨_, rfl, Nat.le_of_ble_eq_true rfl, Or.inl (tb2 52 rfl rfl)⟩, List.forall_mem_cons.mpr ⟨⟨⟨okm_68.1, okm_68.2.1, okm_68.2.2.1, okm_68.2.2.2, Nat.le_of_ble_eq_true rfl, Nat.le_of_ble_eq_true rfl, Or.inl (tb2 226 rfl rfl)⟩, Nat.le_of_ble_eq_true rfl, oki_68, okv_68, ⟨_, rfl, rfl⟩⟩, List.forall_mem_cons.mpr ⟨trivial, List.forall_mem_cons.mpr ⟨⟨_, rfl, Nat.le_of_ble_eq_true rfl, Or.inl (tb2 53 rfl rfl)⟩, fun _ h => absurd h List.not_mem_nil⟩⟩⟩⟩⟩⟩⟩), List.forall_mem_cons.mpr ⟨(List.forall_mem_cons.mpr ⟨trivial, List.forall_mem_cons.mpr ⟨trivial, List.forall_mem_cons.mpr ⟨⟨_, rfl, Nat.le_of_ble_eq_true rfl, Or.inl (tb2 48 rfl rfl)⟩, List.forall_mem_cons.mpr ⟨⟨_, rfl, Nat.le_of_ble_eq_true rfl, Or.inr ⟨_, List.mem_of_getElem? (i := 11) rfl⟩⟩, List.forall_mem_cons.mpr ⟨trivial, List.forall_mem_cons.mpr ⟨⟨_, rfl, Nat.le_of_ble_eq_true rfl, Or.inl (tb2 48 rfl rfl)⟩, List.forall_mem_cons.mpr ⟨⟨_, rfl, Nat.le_of_ble_eq_true rfl, Or.inr ⟨_, List.mem_of_getElem? (i := 15) rfl⟩⟩, List.forall_mem_cons.mpr ⟨⟨⟨okm_97.1, okm_97.2.1, okm_97.2.2.1, okm_97.2.2.2, Nat.le_of_ble_eq_true rfl, Nat.le_of_ble_eq_true rfl, Or.inl (tb3 114 rfl rfl)⟩, Nat.le_of_ble_eq_true rfl, oki_97, okv_97, ⟨_, rfl, rfl⟩⟩, fun _ h => absurd h List.not_mem_nil⟩⟩⟩⟩⟩⟩⟩⟩), List.forall_mem_cons.mpr ⟨(List.forall_mem_cons.mpr ⟨rfl, fun _ h => absurd h List.not_mem_nil⟩), fun _ h => absurd h List.not_mem_nil⟩⟩⟩⟩, by decide +kernel, rfl⟩
set_option maxRecDepth 100000 in
theorem okQ_99 : sm_Q PZ PP 99 := ⟨by decide +kernel, show ∀ ch ∈ pc_99, ∀ q ∈ ch, sm_okL PZ PP 99 q.2.1 q.2.2.2.1 q.2.2.2.2.1 q.2.2.2.2.2 from List.forall_mem_cons.mpr ⟨(List.forall_mem_cons.mpr ⟨trivial, List.forall_mem_cons.mpr ⟨⟨_, rfl, Nat.le_of_ble_eq_true rfl, Or.inl (tb2 29 rfl rfl)⟩, List.forall_mem_cons.mpr ⟨trivial, List.forall_mem_cons.mpr ⟨⟨⟨okm_82.1, okm_82.2.1, okm_82.2.2.1, okm_82.2.2.2, Nat.le_of_ble_eq_true rfl, Nat.le_of_ble_eq_true rfl, Or.inl (tb3 89 rfl rfl)⟩, Nat.le_of_ble_eq_true rfl, oks_82⟩, List.forall_mem_cons.mpr ⟨trivial, List.forall_mem_cons.mpr ⟨trivial, List.forall_mem_cons.mpr ⟨trivial, List.forall_mem_cons.mpr ⟨trivial, List.forall_mem_cons.mpr ⟨trivial, fun _ h => absurd h List.not_mem_nil⟩⟩⟩⟩⟩⟩⟩⟩⟩), List.forall_mem_cons.mpr ⟨(List.forall_mem_cons.mpr ⟨trivial, List.forall_mem_cons.mpr ⟨⟨_, rfl, Nat.le_of_ble_eq_true rfl, Or.inr ⟨_, List.mem_of_getElem? (i := 21) rfl⟩⟩, List.forall_mem_cons.mpr ⟨trivial, List.forall_mem_cons.mpr ⟨trivial, List.forall_mem_cons.mpr ⟨trivial, List.forall_mem_cons.mpr ⟨trivial, List.forall_mem_cons.mpr ⟨⟨⟨okm_77.1, okm_77.2.1, okm_77.2.2.1, okm_77.2.2.2, Nat.le_of_ble_eq_true rfl, Nat.le_of_ble_eq_true rfl, Or.inl (tb3 79 rfl rfl)⟩, Nat.le_of_ble_eq_true rfl, oki_77, okv_77, ⟨_, rfl, rfl⟩⟩, List.forall_mem_cons.mpr ⟨trivial, List.forall_mem_cons.mpr ⟨⟨⟨okm_17.1, okm_17.2.1, okm_17.2.2.1, okm_17.2.2.2, Nat.le_of_ble_eq_true rfl, Nat.le_of_ble_eq_true rfl, Or.inl (tb3 151 rfl rfl)⟩, Nat.le_of_ble_eq_true rfl, oki_17, okv_17, ⟨_, rfl, rfl⟩⟩, fun _ h => absurd h List.not_mem_nil⟩⟩⟩⟩⟩⟩⟩⟩⟩), List.forall_mem_cons.mpr ⟨(List.forall_mem_cons.mpr ⟨trivial, List.forall_mem_cons.mpr ⟨trivial, List.forall_mem_cons.mpr ⟨trivial, List.forall_mem_cons.mpr ⟨trivial, List.forall_mem_cons.mpr ⟨trivial, List.forall_mem_cons.mpr ⟨trivial, List.forall_mem_cons.mpr ⟨trivial, fun _ h => absurd h List.not_mem_nil⟩⟩⟩⟩⟩⟩⟩), List.forall_mem_cons.mpr ⟨(List.forall_mem_cons.mpr ⟨trivial, List.forall_mem_cons.mpr ⟨trivial, List.forall_mem_cons.mpr ⟨⟨_, rfl, Nat.le_of_ble_eq_true rfl, Or.inl (tb2 29 rfl rfl)⟩, List.forall_mem_cons.mpr ⟨trivial, List.forall_mem_cons.mpr ⟨trivial, List.forall_mem_cons.mpr ⟨trivial, List.forall_mem_cons.mpr ⟨trivial, List.forall_mem_cons.mpr ⟨trivial, List.forall_mem_cons.mpr ⟨trivial, List.forall_mem_cons.mpr ⟨trivial, fun _ h => absurd h List.not_mem_nil⟩⟩⟩⟩⟩⟩⟩⟩⟩⟩), List.forall_mem_cons.mpr ⟨(List.forall_mem_cons.mpr ⟨trivial, List.forall_mem_cons.mpr ⟨⟨_, rfl, Nat.le_of_ble_eq_true rfl, Or.inl (tb2 29 rfl rfl)⟩, List.forall_mem_cons.mpr ⟨trivial, List.forall_mem_cons.mpr ⟨trivial, List.forall_mem_cons.mpr ⟨⟨(tb3 152 rfl rfl), (tb1 58 rfl rfl), (tb1 5 rfl rfl), (tb1 59 rfl rfl), Nat.le_of_ble_eq_true rfl, Nat.le_of_ble_eq_true rfl⟩, List.forall_mem_cons.mpr ⟨trivial, List.forall_mem_cons.mpr ⟨trivial, List.forall_mem_cons.mpr ⟨trivial, fun _ h => absurd h List.not_mem_nil⟩⟩⟩⟩⟩⟩⟩⟩), List.forall_mem_cons.mpr ⟨(List.forall_mem_cons.mpr ⟨trivial, List.forall_mem_cons.mpr ⟨rfl, fun _ h => absurd h List.not_mem_nil⟩⟩), fun _ h => absurd h List.not_mem_nil⟩⟩⟩⟩⟩⟩, by decide +kernel, rfl⟩
set_option maxRecDepth 100000 in
theorem okQ_100 : sm_Q PZ PP 100 := ⟨by decide +kernel, show ∀ ch ∈ pc_100, ∀ q ∈ ch, sm_okL PZ PP 100 q.2.1 q.2.2.2.1 q.2.2.2.2.1 q.2.2.2.2.2 from List.forall_mem_cons.mpr ⟨(List.forall_mem_cons.mpr ⟨trivial, List.forall_mem_cons.mpr ⟨trivial, List.forall_mem_cons.mpr ⟨trivial, List.forall_mem_cons.mpr ⟨trivial, List.forall_mem_cons.mpr ⟨trivial, List.forall_mem_cons.mpr ⟨trivial, List.forall_mem_cons.mpr ⟨trivial, List.forall_mem_cons.mpr ⟨trivial, List.forall_mem_cons.mpr ⟨⟨_, rfl, Nat.le_of_ble_eq_true rfl, Or.inr ⟨_, List.mem_of_getElem? (i := 7) rfl⟩⟩, fun _ h => absurd h List.not_mem_nil⟩⟩⟩⟩⟩⟩⟩⟩⟩), List.forall_mem_cons.mpr ⟨(List.forall_mem_cons.mpr ⟨trivial, List.forall_mem_cons.mpr ⟨trivial, List.forall_mem_cons.mpr ⟨trivial, List.forall_mem_cons.mpr ⟨⟨⟨okm_37.1, okm_37.2.1, okm_37.2.2.1, okm_37.2.2.2, Nat.le_of_ble_eq_true rfl, Nat.le_of_ble_eq_true rfl, Or.inl (tb3 146 rfl rfl)⟩, Nat.le_of_ble_eq_true rfl, oki_37, okv_37, ⟨_, rfl, rfl⟩⟩, List.forall_mem_cons.mpr ⟨trivial, List.forall_mem_cons.mpr ⟨trivial, List.forall_mem_cons.mpr ⟨trivial, List.forall_mem_cons.mpr ⟨trivial, fun _ h => absurd h List.not_mem_nil⟩⟩⟩⟩⟩⟩⟩⟩), List.forall_mem_cons.mpr ⟨(List.forall_mem_cons.mpr ⟨trivial, List.forall_mem_cons.mpr ⟨trivial, List.forall_mem_cons.mpr ⟨⟨⟨okm_99.1, okm_99.2.1, okm_99.2.2.1, okm_99.2.2.2, Nat.le_of_ble_eq_true rfl, Nat.le_of_ble_eq_true rfl, Or.inl (tb3 147 rfl rfl)⟩, Nat.le_of_ble_eq_true rfl, oki_99, okv_99, ⟨_, rfl, rfl⟩⟩, List.forall_mem_cons.mpr ⟨trivial, List.forall_mem_cons.mpr ⟨trivial, List.forall_mem_cons.mpr ⟨trivial, List.forall_mem_cons.mpr ⟨trivial, List.forall_mem_cons.mpr ⟨trivial, fun _ h => absurd h List.not_mem_nil⟩⟩⟩⟩⟩⟩⟩⟩), List.forall_mem_cons.mpr ⟨(List.forall_mem_cons.mpr ⟨trivial, List.forall_mem_cons.mpr ⟨trivial, List.forall_mem_cons.mpr ⟨trivial, List.forall_mem_cons.mpr ⟨trivial, List.forall_mem_cons.mpr ⟨trivial, List.forall_mem_cons.mpr ⟨trivial, List.forall_mem_cons.mpr ⟨trivial, fun _ h => absurd h List.not_mem_nil⟩⟩⟩⟩⟩⟩⟩), List.forall_mem_cons.mpr ⟨(List.forall_mem_cons.mpr ⟨trivial, List.forall_mem_cons.mpr ⟨trivial, List.forall_mem_cons.mpr ⟨rfl, fun _ h => absurd h List.not_mem_nil⟩⟩⟩), fun _ h => absurd h List.not_mem_nil⟩⟩⟩⟩⟩, by decide +kernel, rfl⟩
set_option maxRecDepth 100000 in
theorem okQ_101 : sm_Q PZ PP 101 := ⟨by decide +kernel, show ∀ ch ∈ pc_101, ∀ q ∈ ch, sm_okL PZ PP 101 q.2.1 q.2.2.2.1 q.2.2.2.2.1 q.2.2.2.2.2 from List.forall_mem_cons.mpr ⟨(List.forall_mem_cons.mpr ⟨trivial, List.forall_mem_cons.mpr ⟨⟨_, rfl, Nat.le_of_ble_eq_true rfl, Or.inl (tb2 48 rfl rfl)⟩, List.forall_mem_cons.mpr ⟨trivial, List.forall_mem_cons.mpr ⟨trivial, List.forall_mem_cons.mpr ⟨⟨⟨okm_51.1, okm_51.2.1, okm_51.2.2.1, okm_51.2.2.2, Nat.le_of_ble_eq_true rfl, Nat.le_of_ble_eq_true rfl, Or.inl (tb2 173 rfl rfl)⟩, Nat.le_of_ble_eq_true rfl, oki_51, okv_51, ⟨_, rfl, rfl⟩⟩, List.forall_mem_cons.mpr ⟨trivial, List.forall_mem_cons.mpr ⟨trivial, List.forall_mem_cons.mpr ⟨trivial, List.forall_mem_cons.mpr ⟨trivial, List.forall_mem_cons.mpr ⟨rfl, fun _ h => absurd h List.not_mem_nil⟩⟩⟩⟩⟩⟩⟩⟩⟩⟩), List.forall_mem_cons.mpr ⟨(List.forall_mem_cons.mpr ⟨trivial, List.forall_mem_cons.mpr ⟨trivial, List.forall_mem_cons.mpr ⟨⟨⟨okm_70.1, okm_70.2.1, okm_70.2.2.1, okm_70.2.2.2, Nat.le_of_ble_eq_true rfl, Nat.le_of_ble_eq_true rfl, Or.inl (tb2 222 rfl rfl)⟩, Nat.le_of_ble_eq_true rfl, oki_70, okv_70, ⟨_, rfl, rfl⟩⟩, List.forall_mem_cons.mpr ⟨trivial, List.forall_mem_cons.mpr ⟨trivial, List.forall_mem_cons.mpr ⟨⟨_, rfl, Nat.le_of_ble_eq_true rfl, Or.inr ⟨_, List.mem_of_getElem? (i := 22) rfl⟩⟩, List.forall_mem_cons.mpr ⟨trivial, List.forall_mem_cons.mpr ⟨trivial, List.forall_mem_cons.mpr ⟨trivial, fun _ h => absurd h List.not_mem_nil⟩⟩⟩⟩⟩⟩⟩⟩⟩), List.forall_mem_cons.mpr ⟨(List.forall_mem_cons.mpr ⟨trivial, List.forall_mem_cons.mpr ⟨trivial, List.forall_mem_cons.mpr ⟨⟨_, rfl, Nat.le_of_ble_eq_true rfl, Or.inl (tb2 53 rfl rfl)⟩, List.forall_mem_cons.mpr ⟨trivial, List.forall_mem_cons.mpr ⟨trivial, List.forall_mem_cons.mpr ⟨trivial, List.forall_mem_cons.mpr ⟨⟨_, rfl, Nat.le_of_ble_eq_true rfl, Or.inl (tb2 52 rfl rfl)⟩, List.forall_mem_cons.mpr ⟨⟨⟨okm_100.1, okm_100.2.1, okm_100.2.2.1, okm_100.2.2.2, Nat.le_of_ble_eq_true rfl, Nat.le_of_ble_eq_true rfl, Or.inl (tb3 142 rfl rfl)⟩, Nat.le_of_ble_eq_true rfl, oki_100, okv_100, ⟨_, rfl, rfl⟩⟩, fun _ h => absurd h List.not_mem_nil⟩⟩⟩⟩⟩⟩⟩⟩), List.forall_mem_cons.mpr ⟨(List.forall_mem_cons.mpr ⟨rfl, fun _ h => absurd h List.not_mem_nil⟩), fun _ h => absurd h List.not_mem_nil⟩⟩⟩⟩, by decide +kernel, rfl⟩
set_option maxRecDepth 100000 in
theorem okQ_102 : sm_Q PZ PP 102 := ⟨by decide +kernel, show ∀ ch ∈ pc_102, ∀ q ∈ ch, sm_okL PZ PP 102 q.2.1 q.2.2.2.1 q.2.2.2.2.1 q.2.2.2.2.2 from List.forall_mem_cons.mpr ⟨(List.forall_mem_cons.mpr ⟨trivial, List.forall_mem_cons.mpr ⟨trivial, List.forall_mem_cons.mpr ⟨trivial, List.forall_mem_cons.mpr ⟨trivial, List.forall_mem_cons.mpr ⟨trivial, List.forall_mem_cons.mpr ⟨trivial, List.forall_mem_cons.mpr ⟨rfl, List.forall_mem_cons.mpr ⟨trivial, List.forall_mem_cons.mpr ⟨⟨_, rfl, Nat.le_of_ble_eq_true rfl, Or.inl (tb2 50 rfl rfl)⟩, List.forall_mem_cons.mpr ⟨trivial, fun _ h => absurd h List.not_mem_nil⟩⟩⟩⟩⟩⟩⟩⟩⟩⟩), List.forall_mem_cons.mpr ⟨(List.forall_mem_cons.mpr ⟨trivial, List.forall_mem_cons.mpr ⟨trivial, List.forall_mem_cons.mpr ⟨⟨_, rfl, Nat.le_of_ble_eq_true rfl, Or.inl (tb2 48 rfl rfl)⟩, List.forall_mem_cons.mpr ⟨⟨⟨okm_40.1, okm_40.2.1, okm_40.2.2.1, okm_40.2.2.2, Nat.le_of_ble_eq_true rfl, Nat.le_of_ble_eq_true rfl, Or.inl (tb3 157 rfl rfl)⟩, Nat.le_of_ble_eq_true rfl, oki_40, okv_40, ⟨_, rfl, rfl⟩⟩, List.forall_mem_cons.mpr ⟨trivial, List.forall_mem_cons.mpr ⟨⟨_, rfl, Nat.le_of_ble_eq_true rfl, Or.inl (tb2 51 rfl rfl)⟩, List.forall_mem_cons.mpr ⟨trivial, List.forall_mem_cons.mpr ⟨trivial, List.forall_mem_cons.mpr ⟨trivial, List.forall_mem_cons.mpr ⟨trivial, fun _ h => absurd h List.not_mem_nil⟩⟩⟩⟩⟩⟩⟩⟩⟩⟩), List.forall_mem_cons.mpr ⟨(List.forall_mem_cons.mpr ⟨⟨_, rfl, Nat.le_of_ble_eq_true rfl, Or.inl (tb2 48 rfl rfl)⟩, List.forall_mem_cons.mpr ⟨⟨_, rfl, Nat.le_of_ble_eq_true rfl, Or.inr ⟨_, List.mem_of_getElem? (i := 11) rfl⟩⟩, List.forall_mem_cons.mpr ⟨rfl, fun _ h => absurd h List.not_mem_nil⟩⟩⟩), fun _ h => absurd h List.not_mem_nil⟩⟩⟩, by decide +kernel, rfl⟩
set_option maxRecDepth 100000 in
theorem okQ_103 : sm_Q PZ PP 103 := ⟨by decide +kernel, show ∀ ch ∈ pc_103, ∀ q ∈ ch, sm_okL PZ PP 103 q.2.1 q.2.2.2.1 q.2.2.2.2.1 q.2.2.2.2.2 from List.forall_mem_cons.mpr ⟨(List.forall_mem_cons.mpr ⟨trivial, List.forall_mem_cons.mpr ⟨trivial, List.forall_mem_cons.mpr ⟨trivial, List.forall_mem_cons.mpr ⟨trivial, List.forall_mem_cons.mpr ⟨trivial, List.forall_mem_cons.mpr ⟨trivial, List.forall_mem_cons.mpr ⟨rfl, List.forall_mem_cons.mpr ⟨trivial, List.forall_mem_cons.mpr ⟨⟨_, rfl, Nat.le_of_ble_eq_true rfl, Or.inl (tb2 51 rfl rfl)⟩, List.forall_mem_cons.mpr ⟨trivial, fun _ h => absurd h List.not_mem_nil⟩⟩⟩⟩⟩⟩⟩⟩⟩⟩), List.forall_mem_cons.mpr ⟨(List.forall_mem_cons.mpr ⟨trivial, List.forall_mem_cons.mpr ⟨trivial, List.forall_mem_cons.mpr ⟨trivial, List.forall_mem_cons.mpr ⟨rfl, List.forall_mem_cons.mpr ⟨trivial, List.forall_mem_cons.mpr ⟨⟨_, rfl, Nat.le_of_ble_eq_true rfl, Or.inl (tb2 48 rfl rfl)⟩, List.forall_mem_cons.mpr ⟨trivial, List.forall_mem_cons.mpr ⟨⟨_, rfl, Nat.le_of_ble_eq_true rfl, Or.inl (tb2 50 rfl rfl)⟩, List.forall_mem_cons.mpr ⟨trivial, fun _ h => absurd h List.not_mem_nil⟩⟩⟩⟩⟩⟩⟩⟩⟩), List.forall_mem_cons.mpr ⟨(List.forall_mem_cons.mpr ⟨trivial, List.forall_mem_cons.mpr ⟨⟨⟨okm_40.1, okm_40.2.1, okm_40.2.2.1, okm_40.2.2.2, Nat.le_of_ble_eq_true rfl, Nat.le_of_ble_eq_true rfl, Or.inl (tb3 157 rfl rfl)⟩, Nat.le_of_ble_eq_true rfl, oki_40, okv_40, ⟨_, rfl, rfl⟩⟩, List.forall_mem_cons.mpr ⟨trivial, List.forall_mem_cons.mpr ⟨⟨_, rfl, Nat.le_of_ble_eq_true rfl, Or.inl (tb2 49 rfl rfl)⟩, List.forall_mem_cons.mpr ⟨trivial, List.forall_mem_cons.mpr ⟨⟨_, rfl, Nat.le_of_ble_eq_true rfl, ⟨.int, by decide +kernel, rfl⟩, Or.inl ⟨rfl, Or.inr ⟨_, List.mem_of_getElem? (i := 18) rfl⟩⟩⟩, List.forall_mem_cons.mpr ⟨trivial, List.forall_mem_cons.mpr ⟨⟨_, rfl, Nat.le_of_ble_eq_true rfl, Or.inl (tb2 53 rfl rfl)⟩, fun _ h => absurd h List.not_mem_nil⟩⟩⟩⟩⟩⟩⟩⟩), List.forall_mem_cons.mpr ⟨(List.forall_mem_cons.mpr ⟨⟨⟨okm_42.1, okm_42.2.1, okm_42.2.2.1, okm_42.2.2.2, Nat.le_of_ble_eq_true rfl, Nat.le_of_ble_eq_true rfl, Or.inl (tb2 139 rfl rfl)⟩, Nat.le_of_ble_eq_true rfl, oki_42, okv_42, ⟨_, rfl, rfl⟩⟩, List.forall_mem_cons.mpr ⟨trivial, List.forall_mem_cons.mpr ⟨⟨_, rfl, Nat.le_of_ble_eq_true rfl, Or.inl (tb2 48 rfl rfl)⟩, List.forall_mem_cons.mpr ⟨⟨_, rfl, Nat.le_of_ble_eq_true rfl, Or.inr ⟨_, List.mem_of_getElem? (i := 11) rfl⟩⟩, List.forall_mem_cons.mpr ⟨rfl, fun _ h => absurd h List.not_mem_nil⟩⟩⟩⟩⟩), fun _ h => absurd h List.not_mem_nil⟩⟩⟩⟩, by decide +kernel, rfl⟩
set_option maxRecDepth 100000 in
theorem okQ_104 : sm_Q PZ PP 104 := ⟨by decide +kernel, show ∀ ch ∈ pc_104, ∀ q ∈ ch, sm_okL PZ PP 104 q.2.1 q.2.2.2.1 q.2.2.2.2.1 q.2.2.2.2.2 from List.forall_mem_cons.mpr ⟨(List.forall_mem_cons.mpr ⟨trivial, List.forall_mem_cons.mpr ⟨trivial, List.forall_mem_cons.mpr ⟨trivial, List.forall_mem_cons.mpr ⟨trivial, List.forall_mem_cons.mpr ⟨trivial, List.forall_mem_cons.mpr ⟨trivial, List.forall_mem_cons.mpr ⟨⟨_, rfl, Nat.le_of_ble_eq_true rfl, Or.inl (tb1 75 rfl rfl)⟩, List.forall_mem_cons.mpr ⟨trivial, List.forall_mem_cons.mpr ⟨trivial, List.forall_mem_cons.mpr ⟨trivial, List.forall_mem_cons.mpr ⟨trivial, List.forall_mem_cons.mpr ⟨⟨⟨okm_55.1, okm_55.2.1, okm_55.2.2.1, okm_55.2.2.2, Nat.le_of_ble_eq_true rfl, Nat.le_of_ble_eq_true rfl, Or.inl (tb3 171 rfl rfl)⟩, Nat.le_of_ble_eq_true rfl, oki_55, okv_55, ⟨_, rfl, rfl⟩⟩, fun _ h => absurd h List.not_mem_nil⟩⟩⟩⟩⟩⟩⟩⟩⟩⟩⟩⟩), List.forall_mem_cons.mpr ⟨(List.forall_mem_cons.mpr ⟨trivial, List.forall_mem_cons.mpr ⟨trivial, List.forall_mem_cons.mpr ⟨trivial, List.forall_mem_cons.mpr ⟨trivial, List.forall_mem_cons.mpr ⟨trivial, List.forall_mem_cons.mpr ⟨rfl, fun _ h => absurd h List.not_mem_nil⟩⟩⟩⟩⟩⟩), fun _ h => absurd h List.not_mem_nil⟩⟩, by decide +kernel, rfl⟩
set_option maxRecDepth 100000 in
theorem okQ_105 : sm_Q PZ PP 105 := ⟨by decide +kernel, show ∀ ch ∈ pc_105, ∀ q ∈ ch, sm_okL PZ PP 105 q.2.1 q.2.2.2.1 q.2.2.2.2.1 q.2.2.2.2.2 from List.forall_mem_cons.mpr ⟨(List.forall_mem_cons.mpr ⟨trivial, List.forall_mem_cons.mpr ⟨trivial, fun _ h => absurd h List.not_mem_nil⟩⟩), List.forall_mem_cons.mpr ⟨(fun _ h => absurd h List.not_mem_nil), List.forall_mem_cons.mpr ⟨(List.forall_mem_cons.mpr ⟨trivial, List.forall_mem_cons.mpr ⟨⟨_, rfl, Nat.le_of_ble_eq_true rfl, Or.inl (tb2 48 rfl rfl)⟩, fun _ h => absurd h List.not_mem_nil⟩⟩), List.forall_mem_cons.mpr ⟨(List.forall_mem_cons.mpr ⟨⟨_, rfl, Nat.le_of_ble_eq_true rfl, Or.inr ⟨_, List.mem_of_getElem? (i := 11) rfl⟩⟩, List.forall_mem_cons.mpr ⟨rfl, List.forall_mem_cons.mpr ⟨trivial, List.forall_mem_cons.mpr ⟨⟨_, rfl, Nat.le_of_ble_eq_true rfl, Or.inl (tb2 53 rfl rfl)⟩, List.forall_mem_cons.mpr ⟨trivial, List.forall_mem_cons.mpr ⟨⟨_, rfl, Nat.le_of_ble_eq_true rfl, Or.inl (tb2 48 rfl rfl)⟩, List.forall_mem_cons.mpr ⟨trivial, List.forall_mem_cons.mpr ⟨⟨_, rfl, Nat.le_of_ble_eq_true rfl, Or.inl (tb2 52 rfl rfl)⟩, fun _ h => absurd h List.not_mem_nil⟩⟩⟩⟩⟩⟩⟩⟩), List.forall_mem_cons.mpr ⟨(List.forall_mem_cons.mpr ⟨⟨⟨okm_68.1, okm_68.2.1, okm_68.2.2.1, okm_68.2.2.2, Nat.le_of_ble_eq_true rfl, Nat.le_of_ble_eq_true rfl, Or.inl (tb2 226 rfl rfl)⟩, Nat.le_of_ble_eq_true rfl, oki_68, okv_68, ⟨_, rfl, rfl⟩⟩, List.forall_mem_cons.mpr ⟨trivial, List.forall_mem_cons.mpr ⟨⟨_, rfl, Nat.le_of_ble_eq_true rfl, Or.inl (tb2 53 rfl rfl)⟩, List.forall_mem_cons.mpr ⟨trivial, List.forall_mem_cons.mpr ⟨⟨_, rfl, Nat.le_of_ble_eq_true rfl, Or.inl (tb2 48 rfl rfl)⟩, List.forall_mem_cons.mpr ⟨⟨_, rfl, Nat.le_of_ble_eq_true rfl, Or.inr ⟨_, List.mem_of_getElem? (i := 11) rfl⟩⟩, List.forall_mem_cons.mpr ⟨⟨⟨okm_80.1, okm_80.2.1, okm_80.2.2.1, okm_80.2.2.2, Nat.le_of_ble_eq_true rfl, Nat.le_of_ble_eq_true rfl, Or.inl (tb3 166 rfl rfl)⟩, Nat.le_of_ble_eq_true rfl, oki_80, okv_80, ⟨_, rfl, rfl⟩⟩, fun _ h => absurd h List.not_mem_nil⟩⟩⟩⟩⟩⟩⟩), List.forall_mem_cons.mpr ⟨(List.forall_mem_cons.mpr ⟨rfl, List.forall_mem_cons.mpr ⟨trivial, List.forall_mem_cons.mpr ⟨⟨_, rfl, Nat.le_of_ble_eq_true rfl, Or.inl (tb2 48 rfl rfl)⟩, List.forall_mem_cons.mpr ⟨⟨_, rfl, Nat.le_of_ble_eq_true rfl, Or.inr ⟨_, List.mem_of_getElem? (i := 13) rfl⟩⟩, List.forall_mem_cons.mpr ⟨rfl, List.forall_mem_cons.mpr ⟨trivial, List.forall_mem_cons.mpr ⟨⟨_, rfl, Nat.le_of_ble_eq_true rfl, Or.inl (tb2 48 rfl rfl)⟩, List.forall_mem_cons.mpr ⟨⟨_, rfl, Nat.le_of_ble_eq_true rfl, Or.inr ⟨_, List.mem_of_getElem? (i := 15) rfl⟩⟩, fun _ h => absurd h List.not_mem_nil⟩⟩⟩⟩⟩⟩⟩⟩), List.forall_mem_cons.mpr ⟨(List.forall_mem_cons.mpr ⟨rfl, List.forall_mem_cons.mpr ⟨trivial, List.forall_mem_cons.mpr ⟨⟨_, rfl, Nat.le_of_ble_eq_true rfl, Or.inl (tb2 48 rfl rfl)⟩, List.forall_mem_cons.mpr ⟨⟨⟨okm_104.1, okm_104.2.1, okm_104.2.2.1, okm_104.2.2.2, Nat.le_of_ble_eq_true rfl, Nat.le_of_ble_eq_true rfl, Or.inl (tb3 167 rfl rfl)⟩, Nat.le_of_ble_eq_true rfl, oki_104, okv_104, ⟨_, rfl, rfl⟩⟩, List.forall_mem_cons.mpr ⟨rfl, List.forall_mem_cons.mpr ⟨trivial, List.forall_mem_cons.mpr ⟨⟨_, rfl, Nat.le_of_ble_eq_true rfl, Or.inl (tb2 47 rfl rfl)⟩, List.forall_mem_cons.mpr ⟨⟨_, rfl, Nat.le_of_ble_eq_true rfl, Or.inr ⟨_, List.mem_of_getElem? (i := 1) rfl⟩⟩, fun _ h => absurd h List.not_mem_nil⟩⟩⟩⟩⟩⟩⟩⟩), List.forall_mem_cons.mpr ⟨(List.forall_mem_cons.mpr ⟨rfl, List.forall_mem_cons.mpr ⟨trivial, List.forall_mem_cons.mpr ⟨⟨_, rfl, Nat.le_of_ble_eq_true rfl, Or.inl (tb2 49 rfl rfl)⟩, List.forall_mem_cons.mpr ⟨⟨_, rfl, Nat.le_of_ble_eq_true rfl, Or.inr ⟨_, List.mem_of_getElem? (i := 18) rfl⟩⟩, List.forall_mem_cons.mpr ⟨rfl, List.forall_mem_cons.mpr ⟨trivial, List.forall_mem_cons.mpr ⟨rfl, fun _ h => absurd h List.not_mem_nil⟩⟩⟩⟩⟩⟩⟩), fun _ h => absurd h List.not_mem_nil⟩⟩⟩⟩⟩⟩⟩⟩, by decide +kernel, rfl⟩
set_option maxRecDepth 100000 in
theorem okQ_106 : sm_Q PZ PP 106 := ⟨by decide +kernel, show ∀ ch ∈ pc_106, ∀ q ∈ ch, sm_okL PZ PP 106 q.2.1 q.2.2.2.1 q.2.2.2.2.1 q.2.2.2.2.2 from List.forall_mem_cons.mpr ⟨(List.forall_mem_cons.mpr ⟨trivial, List.forall_mem_cons.mpr ⟨⟨(tb3 177 rfl rfl), okobj.1, okobj.2, Nat.le_of_ble_eq_true rfl, Nat.le_of_ble_eq_true rfl⟩, List.forall_mem_cons.mpr ⟨trivial, List.forall_mem_cons.mpr ⟨trivial, List.forall_mem_cons.mpr ⟨(tb1 224 rfl rfl), List.forall_mem_cons.mpr ⟨⟨_, rfl, Nat.le_of_ble_eq_true rfl, ⟨.array .int, by decide +kernel, Or.inr ⟨_, rfl⟩⟩, Or.inr ⟨rfl, rfl, rfl, (tb3 178 rfl rfl)⟩⟩, List.forall_mem_cons.mpr ⟨trivial, List.forall_mem_cons.mpr ⟨trivial, fun _ h => absurd h List.not_mem_nil⟩⟩⟩⟩⟩⟩⟩⟩), List.forall_mem_cons.mpr ⟨(List.forall_mem_cons.mpr ⟨(tb1 224 rfl rfl), List.forall_mem_cons.mpr ⟨⟨_, rfl, Nat.le_of_ble_eq_true rfl, ⟨.array .int, by decide +kernel, Or.inr ⟨_, rfl⟩⟩, Or.inr ⟨rfl, rfl, rfl, (tb3 179 rfl rfl)⟩⟩, List.forall_mem_cons.mpr ⟨trivial, List.forall_mem_cons.mpr ⟨trivial, List.forall_mem_cons.mpr ⟨(tb1 224 rfl rfl), List.forall_mem_cons.mpr ⟨⟨_, rfl, Nat.le_of_ble_eq_true rfl, ⟨.array .int, by decide +kernel, Or.inr ⟨_, rfl⟩⟩, Or.inr ⟨rfl, rfl, rfl, (tb3 181 rfl rfl)⟩⟩, List.forall_mem_cons.mpr ⟨trivial, fun _ h => absurd h List.not_mem_nil⟩⟩⟩⟩⟩⟩⟩), List.forall_mem_cons.mpr ⟨(List.forall_mem_cons.mpr ⟨trivial, List.forall_mem_cons.mpr ⟨(tb1 223 rfl rfl), List.forall_mem_cons.mpr ⟨⟨_, rfl, Nat.le_of_ble_eq_true rfl, ⟨.array .boolean, by decide +kernel, Or.inr ⟨_, rfl⟩⟩, Or.inr ⟨rfl, rfl, rfl, (tb3 182 rfl rfl)⟩⟩, List.forall_mem_cons.mpr ⟨trivial, List.forall_mem_cons.mpr ⟨trivial, List.forall_mem_cons.mpr ⟨(tb1 224 rfl rfl), List.forall_mem_cons.mpr ⟨⟨_, rfl, Nat.le_of_ble_eq_true rfl, ⟨.array .int, by decide +kernel, Or.inr ⟨_, rfl⟩⟩, Or.inr ⟨rfl, rfl, rfl, (tb3 183 rfl rfl)⟩⟩, List.forall_mem_cons.mpr ⟨trivial, List.forall_mem_cons.mpr ⟨trivial, fun _ h => absurd h List.not_mem_nil⟩⟩⟩⟩⟩⟩⟩⟩⟩), List.forall_mem_cons.mpr ⟨(List.forall_mem_cons.mpr ⟨(tb1 224 rfl rfl), List.forall_mem_cons.mpr ⟨⟨_, rfl, Nat.le_of_ble_eq_true rfl, ⟨.array .int, by decide +kernel, Or.inr ⟨_, rfl⟩⟩, Or.inr ⟨rfl, rfl, rfl, (tb3 185 rfl rfl)⟩⟩, List.forall_mem_cons.mpr ⟨trivial, List.forall_mem_cons.mpr ⟨trivial, List.forall_mem_cons.mpr ⟨(tb1 224 rfl rfl), List.forall_mem_cons.mpr ⟨⟨_, rfl, Nat.le_of_ble_eq_true rfl, ⟨.array .int, by decide +kernel, Or.inr ⟨_, rfl⟩⟩, Or.inr ⟨rfl, rfl, rfl, (tb3 187 rfl rfl)⟩⟩, List.forall_mem_cons.mpr ⟨trivial, fun _ h => absurd h List.not_mem_nil⟩⟩⟩⟩⟩⟩⟩), List.forall_mem_cons.mpr ⟨(List.forall_mem_cons.mpr ⟨trivial, List.forall_mem_cons.mpr ⟨(tb1 224 rfl rfl), List.forall_mem_cons.mpr ⟨⟨_, rfl, Nat.le_of_ble_eq_true rfl, ⟨.array .int, by decide +kernel, Or.inr ⟨_, rfl⟩⟩, Or.inr ⟨rfl, rfl, rfl, (tb3 188 rfl rfl)⟩⟩, List.forall_mem_cons.mpr ⟨trivial, List.forall_mem_cons.mpr ⟨trivial, List.forall_mem_cons.mpr ⟨(tb1 224 rfl rfl), List.forall_mem_cons.mpr ⟨⟨_, rfl, Nat.le_of_ble_eq_true rfl, ⟨.array .int, by decide +kernel, Or.inr ⟨_, rfl⟩⟩, Or.inr ⟨rfl, rfl, rfl, (tb3 189 rfl rfl)⟩⟩, fun _ h => absurd h List.not_mem_nil⟩⟩⟩⟩⟩⟩⟩), List.forall_mem_cons.mpr ⟨(List.forall_mem_cons.mpr ⟨trivial, List.forall_mem_cons.mpr ⟨trivial, List.forall_mem_cons.mpr ⟨(tb1 224 rfl rfl), List.forall_mem_cons.mpr ⟨⟨_, rfl, Nat.le_of_ble_eq_true rfl, ⟨.array .int, by decide +kernel, Or.inr ⟨_, rfl⟩⟩, Or.inr ⟨rfl, rfl, rfl, (tb3 190 rfl rfl)⟩⟩, List.forall_mem_cons.mpr ⟨trivial, List.forall_mem_cons.mpr ⟨trivial, List.forall_mem_cons.mpr ⟨(tb1 224 rfl rfl), List.forall_mem_cons.mpr ⟨⟨_, rfl, Nat.le_of_ble_eq_true rfl, ⟨.array .int, by decide +kernel, Or.inr ⟨_, rfl⟩⟩, Or.inr ⟨rfl, rfl, rfl, (tb3 191 rfl rfl)⟩⟩, fun _ h => absurd h List.not_mem_nil⟩⟩⟩⟩⟩⟩⟩⟩), List.forall_mem_cons.mpr ⟨(List.forall_mem_cons.mpr ⟨trivial, List.forall_mem_cons.mpr ⟨trivial, List.forall_mem_cons.mpr ⟨(tb1 224 rfl rfl), List.forall_mem_cons.mpr ⟨⟨_, rfl, Nat.le_of_ble_eq_true rfl, ⟨.array .int, by decide +kernel, Or.inr ⟨_, rfl⟩⟩, Or.inr ⟨rfl, rfl, rfl, (tb3 192 rfl rfl)⟩⟩, List.forall_mem_cons.mpr ⟨trivial, List.forall_mem_cons.mpr ⟨trivial, List.forall_mem_cons.mpr ⟨(tb1 223 rfl rfl), fun _ h => absurd h List.not_mem_nil⟩⟩⟩⟩⟩⟩⟩), List.forall_mem_cons.mpr ⟨(List.forall_mem_cons.mpr ⟨⟨_, rfl, Nat.le_of_ble_eq_true rfl, ⟨.array .boolean, by decide +kernel, Or.inr ⟨_, rfl⟩⟩, Or.inr ⟨rfl, rfl, rfl, (tb3 193 rfl rfl)⟩⟩, List.forall_mem_cons.mpr ⟨trivial, List.forall_mem_cons.mpr ⟨trivial, List.forall_mem_cons.mpr ⟨(tb1 223 rfl rfl), List.forall_mem_cons.mpr ⟨⟨_, rfl, Nat.le_of_ble_eq_true rfl, ⟨.array .boolean, by decide +kernel, Or.inr ⟨_, rfl⟩⟩, Or.inr ⟨rfl, rfl, rfl, (tb3 194 rfl rfl)⟩⟩, List.forall_mem_cons.mpr ⟨trivial, List.forall_mem_cons.mpr ⟨trivial, List.forall_mem_cons.mpr ⟨(tb1 224 rfl rfl), fun _ h => absurd h List.not_mem_nil⟩⟩⟩⟩⟩⟩⟩⟩), List.forall_mem_cons.mpr ⟨(List.forall_mem_cons.mpr ⟨⟨_, rfl, Nat.le_of_ble_eq_true rfl, ⟨.array .int, by decide +kernel, Or.inr ⟨_, rfl⟩⟩, Or.inr ⟨rfl, rfl, rfl, (tb3 195 rfl rfl)⟩⟩, List.forall_mem_cons.mpr ⟨trivial, List.forall_mem_cons.mpr ⟨⟨_, rfl, Nat.le_of_ble_eq_true rfl, Or.inl (tb3 178 rfl rfl)⟩, List.forall_mem_cons.mpr ⟨trivial, List.forall_mem_cons.mpr ⟨trivial, List.forall_mem_cons.mpr ⟨trivial, List.forall_mem_cons.mpr ⟨rfl, fun _ h => absurd h List.not_mem_nil⟩⟩⟩⟩⟩⟩⟩), fun _ h => absurd h List.not_mem_nil⟩⟩⟩⟩⟩⟩⟩⟩⟩, by decide +kernel, rfl⟩
set_option maxRecDepth 100000 in
theorem okQ_107 : sm_Q PZ PP 107 := ⟨by decide +kernel, show ∀ ch ∈ pc_107, ∀ q ∈ ch, sm_okL PZ PP 107 q.2.1 q.2.2.2.1 q.2.2.2.2.1 q.2.2.2.2.2 from List.forall_mem_cons.mpr ⟨(List.forall_mem_cons.mpr ⟨trivial, List.forall_mem_cons.mpr ⟨trivial, List.forall_mem_cons.mpr ⟨trivial, List.forall_mem_cons.mpr ⟨trivial, List.forall_mem_cons.mpr ⟨trivial, List.forall_mem_cons.mpr ⟨trivial, List.forall_mem_cons.mpr ⟨trivial, List.forall_mem_cons.mpr ⟨trivial, List.forall_mem_cons.mpr ⟨trivial, List.forall_mem_cons.mpr ⟨rfl, fun _ h => absurd h List.not_mem_nil⟩⟩⟩⟩⟩⟩⟩⟩⟩⟩), fun _ h => absurd h List.not_mem_nil⟩, by decide +kernel, rfl⟩
set_option maxRecDepth 100000 in
theorem okQ_108 : sm_Q PZ PP 108 := ⟨by decide +kernel, show ∀ ch ∈ pc_108, ∀ q ∈ ch, sm_okL PZ PP 108 q.2.1 q.2.2.2.1 q.2.2.2.2.1 q.2.2.2.2.2 from List.forall_mem_cons.mpr ⟨(List.forall_mem_cons.mpr ⟨trivial, List.forall_mem_cons.mpr ⟨trivial, List.forall_mem_cons.mpr ⟨trivial, List.forall_mem_cons.mpr ⟨⟨⟨okm_107.1, okm_107.2.1, okm_107.2.2.1, okm_107.2.2.2, Nat.le_of_ble_eq_true rfl, Nat.le_of_ble_eq_true rfl, Or.inl (tb3 237 rfl rfl)⟩, Nat.le_of_ble_eq_true rfl, oks_107⟩, List.forall_mem_cons.mpr ⟨trivial, List.forall_mem_cons.mpr ⟨trivial, List.forall_mem_cons.mpr ⟨rfl, List.forall_mem_cons.mpr ⟨trivial, List.forall_mem_cons.mpr ⟨⟨_, rfl, Nat.le_of_ble_eq_true rfl, Or.inl (tb3 184 rfl rfl)⟩, fun _ h => absurd h List.not_mem_nil⟩⟩⟩⟩⟩⟩⟩⟩⟩), List.forall_mem_cons.mpr ⟨(List.forall_mem_cons.mpr ⟨trivial, List.forall_mem_cons.mpr ⟨trivial, List.forall_mem_cons.mpr ⟨trivial, List.forall_mem_cons.mpr ⟨rfl, List.forall_mem_cons.mpr ⟨trivial, List.forall_mem_cons.mpr ⟨⟨_, rfl, Nat.le_of_ble_eq_true rfl, Or.inl (tb3 183 rfl rfl)⟩, List.forall_mem_cons.mpr ⟨trivial, List.forall_mem_cons.mpr ⟨⟨_, rfl, Nat.le_of_ble_eq_true rfl, Or.inl (tb3 184 rfl rfl)⟩, fun _ h => absurd h List.not_mem_nil⟩⟩⟩⟩⟩⟩⟩⟩), List.forall_mem_cons.mpr ⟨(List.forall_mem_cons.mpr ⟨trivial, List.forall_mem_cons.mpr ⟨trivial, List.forall_mem_cons.mpr ⟨trivial, List.forall_mem_cons.mpr ⟨trivial, List.forall_mem_cons.mpr ⟨⟨_, rfl, Nat.le_of_ble_eq_true rfl, Or.inl (tb3 184 rfl rfl)⟩, List.forall_mem_cons.mpr ⟨trivial, List.forall_mem_cons.mpr ⟨trivial, List.forall_mem_cons.mpr ⟨⟨_, rfl, Nat.le_of_ble_eq_true rfl, ⟨.int, by decide +kernel, rfl⟩, Or.inl ⟨rfl, Or.inl (tb3 184 rfl rfl)⟩⟩, List.forall_mem_cons.mpr ⟨trivial, List.forall_mem_cons.mpr ⟨⟨_, rfl, Nat.le_of_ble_eq_true rfl, Or.inl (tb3 184 rfl rfl)⟩, fun _ h => absurd h List.not_mem_nil⟩⟩⟩⟩⟩⟩⟩⟩⟩⟩), List.forall_mem_cons.mpr ⟨(List.forall_mem_cons.mpr ⟨rfl, fun _ h => absurd h List.not_mem_nil⟩), fun _ h => absurd h List.not_mem_nil⟩⟩⟩⟩, by decide +kernel, rfl⟩
set_option maxRecDepth 100000 in
theorem okQ_109 : sm_Q PZ PP 109 := ⟨by decide +kernel, show ∀ ch ∈ pc_109, ∀ q ∈ ch, sm_okL PZ PP 109 q.2.1 q.2.2.2.1 q.2.2.2.2.1 q.2.2.2.2.2 from List.forall_mem_cons.mpr ⟨(List.forall_mem_cons.mpr ⟨trivial, List.forall_mem_cons.mpr ⟨⟨_, rfl, Nat.le_of_ble_eq_true rfl, Or.inl (tb3 184 rfl rfl)⟩, List.forall_mem_cons.mpr ⟨trivial, List.forall_mem_cons.mpr ⟨trivial, List.forall_mem_cons.mpr ⟨trivial, List.forall_mem_cons.mpr ⟨⟨_, rfl, Nat.le_of_ble_eq_true rfl, ⟨.int, by decide +kernel, rfl⟩, Or.inl ⟨rfl, Or.inl (tb3 184 rfl rfl)⟩⟩, List.forall_mem_cons.mpr ⟨trivial, List.forall_mem_cons.mpr ⟨rfl, fun _ h => absurd h List.not_mem_nil⟩⟩⟩⟩⟩⟩⟩⟩), fun _ h => absurd h List.not_mem_nil⟩, by decide +kernel, rfl⟩
set_option maxRecDepth 100000 in
theorem okQ_110 : sm_Q PZ PP 110 := ⟨by decide +kernel, show ∀ ch ∈ pc_110, ∀ q ∈ ch, sm_okL PZ PP 110 q.2.1 q.2.2.2.1 q.2.2.2.2.1 q.2.2.2.2.2 from List.forall_mem_cons.mpr ⟨(List.forall_mem_cons.mpr ⟨trivial, List.forall_mem_cons.mpr ⟨trivial, List.forall_mem_cons.mpr ⟨trivial, List.forall_mem_cons.mpr ⟨⟨⟨okm_107.1, okm_107.2.1, okm_107.2.2.1, okm_107.2.2.2, Nat.le_of_ble_eq_true rfl, Nat.le_of_ble_eq_true rfl, Or.inl (tb3 237 rfl rfl)⟩, Nat.le_of_ble_eq_true rfl, oks_107⟩, List.forall_mem_cons.mpr ⟨trivial, List.forall_mem_cons.mpr ⟨trivial, List.forall_mem_cons.mpr ⟨trivial, List.forall_mem_cons.mpr ⟨trivial, fun _ h => absurd h List.not_mem_nil⟩⟩⟩⟩⟩⟩⟩⟩), List.forall_mem_cons.mpr ⟨(List.forall_mem_cons.mpr ⟨trivial, List.forall_mem_cons.mpr ⟨trivial, List.forall_mem_cons.mpr ⟨trivial, List.forall_mem_cons.mpr ⟨rfl, fun _ h => absurd h List.not_mem_nil⟩⟩⟩⟩), fun _ h => absurd h List.not_mem_nil⟩⟩, by decide +kernel, rfl⟩
set_option maxRecDepth 100000 in
theorem okQ_111 : sm_Q PZ PP 111 := ⟨by decide +kernel, show ∀ ch ∈ pc_111, ∀ q ∈ ch, sm_okL PZ PP 111 q.2.1 q.2.2.2.1 q.2.2.2.2.1 q.2.2.2.2.2 from List.forall_mem_cons.mpr ⟨(List.forall_mem_cons.mpr ⟨trivial, List.forall_mem_cons.mpr ⟨trivial, List.forall_mem_cons.mpr ⟨trivial, List.forall_mem_cons.mpr ⟨⟨⟨okm_107.1, okm_107.2.1, okm_107.2.2.1, okm_107.2.2.2, Nat.le_of_ble_eq_true rfl, Nat.le_of_ble_eq_true rfl, Or.inl (tb3 237 rfl rfl)⟩, Nat.le_of_ble_eq_true rfl, oks_107⟩, List.forall_mem_cons.mpr ⟨trivial, List.forall_mem_cons.mpr ⟨trivial, List.forall_mem_cons.mpr ⟨trivial, List.forall_mem_cons.mpr ⟨trivial, fun _ h => absurd h List.not_mem_nil⟩⟩⟩⟩⟩⟩⟩⟩), List.forall_mem_cons.mpr ⟨(List.forall_mem_cons.mpr ⟨trivial, List.forall_mem_cons.mpr ⟨trivial, List.forall_mem_cons.mpr ⟨trivial, List.forall_mem_cons.mpr ⟨rfl, fun _ h => absurd h List.not_mem_nil⟩⟩⟩⟩), fun _ h => absurd h List.not_mem_nil⟩⟩, by decide +kernel, rfl⟩
set_option maxRecDepth 100000 in
theorem okQ_112 : sm_Q PZ PP 112 := ⟨by decide +kernel, show ∀ ch ∈ pc_112, ∀ q ∈ ch, sm_okL PZ PP 112 q.2.1 q.2.2.2.1 q.2.2.2.2.1 q.2.2.2.2.2 from List.forall_mem_cons.mpr ⟨(List.forall_mem_cons.mpr ⟨trivial, List.forall_mem_cons.mpr ⟨trivial, List.forall_mem_cons.mpr ⟨trivial, List.forall_mem_cons.mpr ⟨trivial, List.forall_mem_cons.mpr ⟨⟨_, rfl, Nat.le_of_ble_eq_true rfl, Or.inl (tb3 184 rfl rfl)⟩, List.forall_mem_cons.mpr ⟨trivial, List.forall_mem_cons.mpr ⟨trivial, List.forall_mem_cons.mpr ⟨⟨_, rfl, Nat.le_of_ble_eq_true rfl, Or.inl (tb3 183 rfl rfl)⟩, List.forall_mem_cons.mpr ⟨trivial, List.forall_mem_cons.mpr ⟨trivial, fun _ h => absurd h List.not_mem_nil⟩⟩⟩⟩⟩⟩⟩⟩⟩⟩), List.forall_mem_cons.mpr ⟨(List.forall_mem_cons.mpr ⟨⟨⟨okm_110.1, okm_110.2.1, okm_110.2.2.1, okm_110.2.2.2, Nat.le_of_ble_eq_true rfl, Nat.le_of_ble_eq_true rfl, Or.inl (tb4 12 rfl rfl)⟩, Nat.le_of_ble_eq_true rfl, oks_110⟩, List.forall_mem_cons.mpr ⟨trivial, List.forall_mem_cons.mpr ⟨trivial, List.forall_mem_cons.mpr ⟨⟨_, rfl, Nat.le_of_ble_eq_true rfl, Or.inl (tb3 183 rfl rfl)⟩, List.forall_mem_cons.mpr ⟨trivial, List.forall_mem_cons.mpr ⟨trivial, List.forall_mem_cons.mpr ⟨trivial, List.forall_mem_cons.mpr ⟨trivial, fun _ h => absurd h List.not_mem_nil⟩⟩⟩⟩⟩⟩⟩⟩), List.forall_mem_cons.mpr ⟨(List.forall_mem_cons.mpr ⟨trivial, List.forall_mem_cons.mpr ⟨trivial, List.forall_mem_cons.mpr ⟨trivial, List.forall_mem_cons.mpr ⟨⟨_, rfl, Nat.le_of_ble_eq_true rfl, Or.inl (tb3 183 rfl rfl)⟩, List.forall_mem_cons.mpr ⟨trivial, List.forall_mem_cons.mpr ⟨trivial, List.forall_mem_cons.mpr ⟨trivial, List.forall_mem_cons.mpr ⟨trivial, List.forall_mem_cons.mpr ⟨trivial, List.forall_mem_cons.mpr ⟨trivial, fun _ h => absurd h List.not_mem_nil⟩⟩⟩⟩⟩⟩⟩⟩⟩⟩), List.forall_mem_cons.mpr ⟨(List.forall_mem_cons.mpr ⟨trivial, List.forall_mem_cons.mpr ⟨trivial, List.forall_mem_cons.mpr ⟨trivial, List.forall_mem_cons.mpr ⟨trivial, List.forall_mem_cons.mpr ⟨trivial, List.forall_mem_cons.mpr ⟨trivial, List.forall_mem_cons.mpr ⟨trivial, List.forall_mem_cons.mpr ⟨trivial, List.forall_mem_cons.mpr ⟨⟨_, rfl, Nat.le_of_ble_eq_true rfl, Or.inl (tb3 183 rfl rfl)⟩, fun _ h => absurd h List.not_mem_nil⟩⟩⟩⟩⟩⟩⟩⟩⟩), List.forall_mem_cons.mpr ⟨(List.forall_mem_cons.mpr ⟨trivial, List.forall_mem_cons.mpr ⟨trivial, List.forall_mem_cons.mpr ⟨trivial, List.forall_mem_cons.mpr ⟨trivial, List.forall_mem_cons.mpr ⟨trivial, List.forall_mem_cons.mpr ⟨trivial, List.forall_mem_cons.mpr ⟨trivial, List.forall_mem_cons.mpr ⟨trivial, List.forall_mem_cons.mpr ⟨trivial, fun _ h => absurd h List.not_mem_nil⟩⟩⟩⟩⟩⟩⟩⟩⟩), List.forall_mem_cons.mpr ⟨(List.forall_mem_cons.mpr ⟨trivial, List.forall_mem_cons.mpr ⟨⟨_, rfl, Nat.le_of_ble_eq_true rfl, Or.inl (tb3 184 rfl rfl)⟩, List.forall_mem_cons.mpr ⟨trivial, List.forall_mem_cons.mpr ⟨trivial, List.forall_mem_cons.mpr ⟨⟨_, rfl, Nat.le_of_ble_eq_true rfl, Or.inl (tb3 183 rfl rfl)⟩, List.forall_mem_cons.mpr ⟨trivial, List.forall_mem_cons.mpr ⟨trivial, List.forall_mem_cons.mpr ⟨trivial, List.forall_mem_cons.mpr ⟨trivial, List.forall_mem_cons.mpr ⟨trivial, fun _ h => absurd h List.not_mem_nil⟩⟩⟩⟩⟩⟩⟩⟩⟩⟩), List.forall_mem_cons.mpr ⟨(List.forall_mem_cons.mpr ⟨trivial, List.forall_mem_cons.mpr ⟨trivial, List.forall_mem_cons.mpr ⟨rfl, List.forall_mem_cons.mpr ⟨trivial, List.forall_mem_cons.mpr ⟨trivial, List.forall_mem_cons.mpr ⟨trivial, List.forall_mem_cons.mpr ⟨trivial, List.forall_mem_cons.mpr ⟨⟨_, rfl, Nat.le_of_ble_eq_true rfl, Or.inl (tb3 184 rfl rfl)⟩, fun _ h => absurd h List.not_mem_nil⟩⟩⟩⟩⟩⟩⟩⟩), List.forall_mem_cons.mpr ⟨(List.forall_mem_cons.mpr ⟨trivial, List.forall_mem_cons.mpr ⟨trivial, List.forall_mem_cons.mpr ⟨⟨_, rfl, Nat.le_of_ble_eq_true rfl, Or.inl (tb3 183 rfl rfl)⟩, List.forall_mem_cons.mpr ⟨trivial, List.forall_mem_cons.mpr ⟨trivial, List.forall_mem_cons.mpr ⟨trivial, List.forall_mem_cons.mpr ⟨trivial, List.forall_mem_cons.mpr ⟨trivial, fun _ h => absurd h List.not_mem_nil⟩⟩⟩⟩⟩⟩⟩⟩), List.forall_mem_cons.mpr ⟨(List.forall_mem_cons.mpr ⟨trivial, List.forall_mem_cons.mpr ⟨trivial, List.forall_mem_cons.mpr ⟨rfl, List.forall_mem_cons.mpr ⟨trivial, List.forall_mem_cons.mpr ⟨trivial, List.forall_mem_cons.mpr ⟨trivial, List.forall_mem_cons.mpr ⟨trivial, List.forall_mem_cons.mpr ⟨trivial, List.forall_mem_cons.mpr ⟨trivial, List.forall_mem_cons.mpr ⟨trivial, List.forall_mem_cons.mpr ⟨⟨_, rfl, Nat.le_of_ble_eq_true rfl, Or.inl (tb3 184 rfl rfl)⟩, fun _ h => absurd h List.not_mem_nil⟩⟩⟩⟩⟩⟩⟩⟩⟩⟩⟩), List.forall_mem_cons.mpr ⟨(List.forall_mem_cons.mpr ⟨trivial, List.forall_mem_cons.mpr ⟨trivial, List.forall_mem_cons.mpr ⟨⟨_, rfl, Nat.le_of_ble_eq_true rfl, Or.inl (tb3 183 rfl rfl)⟩, List.forall_mem_cons.mpr ⟨trivial, List.forall_mem_cons.mpr ⟨trivial, List.forall_mem_cons.mpr ⟨⟨⟨okm_111.1, okm_111.2.1, okm_111.2.2.1, okm_111.2.2.2, Nat.le_of_ble_eq_true rfl, Nat.le_of_ble_eq_true rfl, Or.inl (tb4 15 rfl rfl)⟩, Nat.le_of_ble_eq_true rfl, oks_111⟩, List.forall_mem_cons.mpr ⟨trivial, fun _ h => absurd h List.not_mem_nil⟩⟩⟩⟩⟩⟩⟩), List.forall_mem_cons.mpr ⟨(List.forall_mem_cons.mpr ⟨trivial, List.forall_mem_cons.mpr ⟨trivial, List.forall_mem_cons.mpr ⟨trivial, List.forall_mem_cons.mpr ⟨trivial, List.forall_mem_cons.mpr ⟨trivial, List.forall_mem_cons.mpr ⟨trivial, List.forall_mem_cons.mpr ⟨trivial, List.forall_mem_cons.mpr ⟨trivial, List.forall_mem_cons.mpr ⟨trivial, List.forall_mem_cons.mpr ⟨⟨_, rfl, Nat.le_of_ble_eq_true rfl, Or.inl (tb3 184 rfl rfl)⟩, fun _ h => absurd h List.not_mem_nil⟩⟩⟩⟩⟩⟩⟩⟩⟩⟩), List.forall_mem_cons.mpr ⟨(List.forall_mem_cons.mpr ⟨trivial, List.forall_mem_cons.mpr ⟨trivial, List.forall_mem_cons.mpr ⟨trivial, List.forall_mem_cons.mpr ⟨trivial, List.forall_mem_cons.mpr ⟨trivial, List.forall_mem_cons.mpr ⟨trivial, List.forall_mem_cons.mpr ⟨trivial, fun _ h => absurd h List.not_mem_nil⟩⟩⟩⟩⟩⟩⟩), List.forall_mem_cons.mpr ⟨(List.forall_mem_cons.mpr ⟨rfl, fun _ h => absurd h List.not_mem_nil⟩), fun _ h => absurd h List.not_mem_nil⟩⟩⟩⟩⟩⟩⟩⟩⟩⟩⟩⟩⟩, by decide +kernel, rfl⟩
set_option maxRecDepth 100000 in
theorem okQ_113 : sm_Q PZ PP 113 := ⟨by decide +kernel, show ∀ ch ∈ pc_113, ∀ q ∈ ch, sm_okL PZ PP 113 q.2.1 q.2.2.2.1 q.2.2.2.2.1 q.2.2.2.2.2 from List.forall_mem_cons.mpr ⟨(List.forall_mem_cons.mpr ⟨trivial, List.forall_mem_cons.mpr ⟨trivial, List.forall_mem_cons.mpr ⟨trivial, List.forall_mem_cons.mpr ⟨trivial, List.forall_mem_cons.mpr ⟨trivial, List.forall_mem_cons.mpr ⟨trivial, List.forall_mem_cons.mpr ⟨trivial, List.forall_mem_cons.mpr ⟨trivial, List.forall_mem_cons.mpr ⟨trivial, List.forall_mem_cons.mpr ⟨trivial, fun _ h => absurd h List.not_mem_nil⟩⟩⟩⟩⟩⟩⟩⟩⟩⟩), List.forall_mem_cons.mpr ⟨(List.forall_mem_cons.mpr ⟨trivial, List.forall_mem_cons.mpr ⟨trivial, List.forall_mem_cons.mpr ⟨trivial, List.forall_mem_cons.mpr ⟨trivial, List.forall_mem_cons.mpr ⟨trivial, List.forall_mem_cons.mpr ⟨trivial, List.forall_mem_cons.mpr ⟨trivial, List.forall_mem_cons.mpr ⟨rfl, fun _ h => absurd h List.not_mem_nil⟩⟩⟩⟩⟩⟩⟩⟩), fun _ h => absurd h List.not_mem_nil⟩⟩, by decide +kernel, rfl⟩
set_option maxRecDepth 100000 in
theorem okQ_114 : sm_Q PZ PP 114 := ⟨by decide +kernel, show ∀ ch ∈ pc_114, ∀ q ∈ ch, sm_okL PZ PP 114 q.2.1 q.2.2.2.1 q.2.2.2.2.1 q.2.2.2.2.2 from List.forall_mem_cons.mpr ⟨(List.forall_mem_cons.mpr ⟨trivial, List.forall_mem_cons.mpr ⟨⟨_, rfl, Nat.le_of_ble_eq_true rfl, Or.inl (tb3 180 rfl rfl)⟩, List.forall_mem_cons.mpr ⟨trivial, List.forall_mem_cons.mpr ⟨trivial, List.forall_mem_cons.mpr ⟨trivial, List.forall_mem_cons.mpr ⟨⟨_, rfl, Nat.le_of_ble_eq_true rfl, Or.inl (tb3 179 rfl rfl)⟩, List.forall_mem_cons.mpr ⟨trivial, fun _ h => absurd h List.not_mem_nil⟩⟩⟩⟩⟩⟩⟩), List.forall_mem_cons.mpr ⟨(List.forall_mem_cons.mpr ⟨trivial, List.forall_mem_cons.mpr ⟨⟨_, rfl, Nat.le_of_ble_eq_true rfl, Or.inl (tb3 179 rfl rfl)⟩, List.forall_mem_cons.mpr ⟨trivial, List.forall_mem_cons.mpr ⟨trivial, List.forall_mem_cons.mpr ⟨⟨⟨okm_113.1, okm_113.2.1, okm_113.2.2.1, okm_113.2.2.2, Nat.le_of_ble_eq_true rfl, Nat.le_of_ble_eq_true rfl, Or.inl (tb4 22 rfl rfl)⟩, Nat.le_of_ble_eq_true rfl, oks_113⟩, List.forall_mem_cons.mpr ⟨trivial, List.forall_mem_cons.mpr ⟨trivial, List.forall_mem_cons.mpr ⟨⟨_, rfl, Nat.le_of_ble_eq_true rfl, Or.inl (tb3 180 rfl rfl)⟩, fun _ h => absurd h List.not_mem_nil⟩⟩⟩⟩⟩⟩⟩⟩), List.forall_mem_cons.mpr ⟨(List.forall_mem_cons.mpr ⟨trivial, List.forall_mem_cons.mpr ⟨trivial, List.forall_mem_cons.mpr ⟨⟨_, rfl, Nat.le_of_ble_eq_true rfl, ⟨.int, by decide +kernel, rfl⟩, Or.inl ⟨rfl, Or.inl (tb3 180 rfl rfl)⟩⟩, List.forall_mem_cons.mpr ⟨trivial, List.forall_mem_cons.mpr ⟨⟨_, rfl, Nat.le_of_ble_eq_true rfl, Or.inl (tb3 178 rfl rfl)⟩, List.forall_mem_cons.mpr ⟨trivial, List.forall_mem_cons.mpr ⟨trivial, List.forall_mem_cons.mpr ⟨⟨_, rfl, Nat.le_of_ble_eq_true rfl, Or.inl (tb3 179 rfl rfl)⟩, List.forall_mem_cons.mpr ⟨trivial, fun _ h => absurd h List.not_mem_nil⟩⟩⟩⟩⟩⟩⟩⟩⟩), List.forall_mem_cons.mpr ⟨(List.forall_mem_cons.mpr ⟨trivial, List.forall_mem_cons.mpr ⟨⟨_, rfl, Nat.le_of_ble_eq_true rfl, Or.inl (tb3 180 rfl rfl)⟩, List.forall_mem_cons.mpr ⟨trivial, List.forall_mem_cons.mpr ⟨trivial, List.forall_mem_cons.mpr ⟨⟨⟨okm_113.1, okm_113.2.1, okm_113.2.2.1, okm_113.2.2.2, Nat.le_of_ble_eq_true rfl, Nat.le_of_ble_eq_true rfl, Or.inl (tb4 22 rfl rfl)⟩, Nat.le_of_ble_eq_true rfl, oks_113⟩, List.forall_mem_cons.mpr ⟨trivial, List.forall_mem_cons.mpr ⟨trivial, List.forall_mem_cons.mpr ⟨⟨_, rfl, Nat.le_of_ble_eq_true rfl, Or.inl (tb3 180 rfl rfl)⟩, fun _ h => absurd h List.not_mem_nil⟩⟩⟩⟩⟩⟩⟩⟩), List.forall_mem_cons.mpr ⟨(List.forall_mem_cons.mpr ⟨trivial, List.forall_mem_cons.mpr ⟨trivial, List.forall_mem_cons.mpr ⟨⟨_, rfl, Nat.le_of_ble_eq_true rfl, ⟨.int, by decide +kernel, rfl⟩, Or.inl ⟨rfl, Or.inl (tb3 180 rfl rfl)⟩⟩, List.forall_mem_cons.mpr ⟨rfl, fun _ h => absurd h List.not_mem_nil⟩⟩⟩⟩), fun _ h => absurd h List.not_mem_nil⟩⟩⟩⟩⟩, by decide +kernel, rfl⟩
set_option maxRecDepth 100000 in
theorem okQ_115 : sm_Q PZ PP 115 := ⟨by decide +kernel, show ∀ ch ∈ pc_115, ∀ q ∈ ch, sm_okL PZ PP 115 q.2.1 q.2.2.2.1 q.2.2.2.2.1 q.2.2.2.2.2 from List.forall_mem_cons.mpr ⟨(List.forall_mem_cons.mpr ⟨trivial, List.forall_mem_cons.mpr ⟨⟨_, rfl, Nat.le_of_ble_eq_true rfl, Or.inl (tb3 178 rfl rfl)⟩, List.forall_mem_cons.mpr ⟨trivial, List.forall_mem_cons.mpr ⟨trivial, List.forall_mem_cons.mpr ⟨trivial, List.forall_mem_cons.mpr ⟨trivial, List.forall_mem_cons.mpr ⟨trivial, List.forall_mem_cons.mpr ⟨rfl, List.forall_mem_cons.mpr ⟨trivial, List.forall_mem_cons.mpr ⟨⟨⟨okm_112.1, okm_112.2.1, okm_112.2.2.1, okm_112.2.2.2, Nat.le_of_ble_eq_true rfl, Nat.le_of_ble_eq_true rfl, Or.inl (tb4 8 rfl rfl)⟩, Nat.le_of_ble_eq_true rfl, oki_112, okv_112, ⟨_, rfl, rfl⟩⟩, fun _ h => absurd h List.not_mem_nil⟩⟩⟩⟩⟩⟩⟩⟩⟩⟩), List.forall_mem_cons.mpr ⟨(List.forall_mem_cons.mpr ⟨trivial, List.forall_mem_cons.mpr ⟨trivial, List.forall_mem_cons.mpr ⟨trivial, List.forall_mem_cons.mpr ⟨trivial, List.forall_mem_cons.mpr ⟨trivial, List.forall_mem_cons.mpr ⟨trivial, List.forall_mem_cons.mpr ⟨trivial, List.forall_mem_cons.mpr ⟨rfl, List.forall_mem_cons.mpr ⟨trivial, List.forall_mem_cons.mpr ⟨⟨⟨okm_114.1, okm_114.2.1, okm_114.2.2.1, okm_114.2.2.2, Nat.le_of_ble_eq_true rfl, Nat.le_of_ble_eq_true rfl, Or.inl (tb4 18 rfl rfl)⟩, Nat.le_of_ble_eq_true rfl, oki_114, okv_114, ⟨_, rfl, rfl⟩⟩, fun _ h => absurd h List.not_mem_nil⟩⟩⟩⟩⟩⟩⟩⟩⟩⟩), List.forall_mem_cons.mpr ⟨(List.forall_mem_cons.mpr ⟨trivial, List.forall_mem_cons.mpr ⟨trivial, List.forall_mem_cons.mpr ⟨trivial, List.forall_mem_cons.mpr ⟨⟨_, rfl, Nat.le_of_ble_eq_true rfl, Or.inl (tb3 178 rfl rfl)⟩, List.forall_mem_cons.mpr ⟨trivial, List.forall_mem_cons.mpr ⟨trivial, List.forall_mem_cons.mpr ⟨trivial, List.forall_mem_cons.mpr ⟨trivial, List.forall_mem_cons.mpr ⟨trivial, List.forall_mem_cons.mpr ⟨trivial, List.forall_mem_cons.mpr ⟨trivial, fun _ h => absurd h List.not_mem_nil⟩⟩⟩⟩⟩⟩⟩⟩⟩⟩⟩), List.forall_mem_cons.mpr ⟨(List.forall_mem_cons.mpr ⟨trivial, List.forall_mem_cons.mpr ⟨⟨_, rfl, Nat.le_of_ble_eq_true rfl, Or.inl (tb3 183 rfl rfl)⟩, List.forall_mem_cons.mpr ⟨trivial, List.forall_mem_cons.mpr ⟨trivial, List.forall_mem_cons.mpr ⟨trivial, List.forall_mem_cons.mpr ⟨trivial, List.forall_mem_cons.mpr ⟨trivial, List.forall_mem_cons.mpr ⟨trivial, fun _ h => absurd h List.not_mem_nil⟩⟩⟩⟩⟩⟩⟩⟩), List.forall_mem_cons.mpr ⟨(List.forall_mem_cons.mpr ⟨trivial, List.forall_mem_cons.mpr ⟨⟨_, rfl, Nat.le_of_ble_eq_true rfl, Or.inl (tb3 178 rfl rfl)⟩, List.forall_mem_cons.mpr ⟨trivial, List.forall_mem_cons.mpr ⟨trivial, List.forall_mem_cons.mpr ⟨trivial, List.forall_mem_cons.mpr ⟨trivial, List.forall_mem_cons.mpr ⟨⟨_, rfl, Nat.le_of_ble_eq_true rfl, Or.inl (tb3 183 rfl rfl)⟩, List.forall_mem_cons.mpr ⟨trivial, List.forall_mem_cons.mpr ⟨trivial, List.forall_mem_cons.mpr ⟨⟨_, rfl, Nat.le_of_ble_eq_true rfl, Or.inl (tb3 178 rfl rfl)⟩, fun _ h => absurd h List.not_mem_nil⟩⟩⟩⟩⟩⟩⟩⟩⟩⟩), List.forall_mem_cons.mpr ⟨(List.forall_mem_cons.mpr ⟨trivial, List.forall_mem_cons.mpr ⟨trivial, List.forall_mem_cons.mpr ⟨trivial, List.forall_mem_cons.mpr ⟨trivial, List.forall_mem_cons.mpr ⟨⟨⟨okm_113.1, okm_113.2.1, okm_113.2.2.1, okm_113.2.2.2, Nat.le_of_ble_eq_true rfl, Nat.le_of_ble_eq_true rfl, Or.inl (tb4 22 rfl rfl)⟩, Nat.le_of_ble_eq_true rfl, oks_113⟩, List.forall_mem_cons.mpr ⟨trivial, List.forall_mem_cons.mpr ⟨⟨_, rfl, Nat.le_of_ble_eq_true rfl, Or.inl (tb3 178 rfl rfl)⟩, List.forall_mem_cons.mpr ⟨trivial, List.forall_mem_cons.mpr ⟨trivial, List.forall_mem_cons.mpr ⟨trivial, fun _ h => absurd h List.not_mem_nil⟩⟩⟩⟩⟩⟩⟩⟩⟩⟩), List.forall_mem_cons.mpr ⟨(List.forall_mem_cons.mpr ⟨trivial, List.forall_mem_cons.mpr ⟨⟨_, rfl, Nat.le_of_ble_eq_true rfl, Or.inl (tb3 184 rfl rfl)⟩, List.forall_mem_cons.mpr ⟨trivial, List.forall_mem_cons.mpr ⟨trivial, List.forall_mem_cons.mpr ⟨trivial, List.forall_mem_cons.mpr ⟨trivial, List.forall_mem_cons.mpr ⟨trivial, List.forall_mem_cons.mpr ⟨trivial, List.forall_mem_cons.mpr ⟨⟨_, rfl, Nat.le_of_ble_eq_true rfl, Or.inl (tb3 183 rfl rfl)⟩, List.forall_mem_cons.mpr ⟨trivial, List.forall_mem_cons.mpr ⟨trivial, List.forall_mem_cons.mpr ⟨trivial, fun _ h => absurd h List.not_mem_nil⟩⟩⟩⟩⟩⟩⟩⟩⟩⟩⟩⟩), List.forall_mem_cons.mpr ⟨(List.forall_mem_cons.mpr ⟨trivial, List.forall_mem_cons.mpr ⟨⟨_, rfl, Nat.le_of_ble_eq_true rfl, Or.inl (tb3 178 rfl rfl)⟩, List.forall_mem_cons.mpr ⟨trivial, List.forall_mem_cons.mpr ⟨trivial, List.forall_mem_cons.mpr ⟨trivial, List.forall_mem_cons.mpr ⟨trivial, List.forall_mem_cons.mpr ⟨trivial, List.forall_mem_cons.mpr ⟨trivial, List.forall_mem_cons.mpr ⟨⟨_, rfl, Nat.le_of_ble_eq_true rfl, Or.inl (tb3 184 rfl rfl)⟩, List.forall_mem_cons.mpr ⟨trivial, List.forall_mem_cons.mpr ⟨trivial, fun _ h => absurd h List.not_mem_nil⟩⟩⟩⟩⟩⟩⟩⟩⟩⟩⟩), List.forall_mem_cons.mpr ⟨(List.forall_mem_cons.mpr ⟨trivial, List.forall_mem_cons.mpr ⟨trivial, List.forall_mem_cons.mpr ⟨⟨⟨okm_113.1, okm_113.2.1, okm_113.2.2.1, okm_113.2.2.2, Nat.le_of_ble_eq_true rfl, Nat.le_of_ble_eq_true rfl, Or.inl (tb4 22 rfl rfl)⟩, Nat.le_of_ble_eq_true rfl, oks_113⟩, List.forall_mem_cons.mpr ⟨trivial, List.forall_mem_cons.mpr ⟨⟨_, rfl, Nat.le_of_ble_eq_true rfl, Or.inl (tb3 178 rfl rfl)⟩, List.forall_mem_cons.mpr ⟨trivial, List.forall_mem_cons.mpr ⟨trivial, List.forall_mem_cons.mpr ⟨trivial, List.forall_mem_cons.mpr ⟨trivial, List.forall_mem_cons.mpr ⟨trivial, List.forall_mem_cons.mpr ⟨trivial, List.forall_mem_cons.mpr ⟨trivial, fun _ h => absurd h List.not_mem_nil⟩⟩⟩⟩⟩⟩⟩⟩⟩⟩⟩⟩), List.forall_mem_cons.mpr ⟨(List.forall_mem_cons.mpr ⟨trivial, List.forall_mem_cons.mpr ⟨⟨_, rfl, Nat.le_of_ble_eq_true rfl, ⟨.int, by decide +kernel, rfl⟩, Or.inl ⟨rfl, Or.inl (tb3 184 rfl rfl)⟩⟩, List.forall_mem_cons.mpr ⟨trivial, List.forall_mem_cons.mpr ⟨⟨_, rfl, Nat.le_of_ble_eq_true rfl, Or.inl (tb3 178 rfl rfl)⟩, List.forall_mem_cons.mpr ⟨trivial, List.forall_mem_cons.mpr ⟨trivial, List.forall_mem_cons.mpr ⟨trivial, List.forall_mem_cons.mpr ⟨trivial, List.forall_mem_cons.mpr ⟨rfl, fun _ h => absurd h List.not_mem_nil⟩⟩⟩⟩⟩⟩⟩⟩⟩), fun _ h => absurd h List.not_mem_nil⟩⟩⟩⟩⟩⟩⟩⟩⟩⟩, by decide +kernel, rfl⟩
set_option maxRecDepth 100000 in
theorem okQ_116 : sm_Q PZ PP 116 := ⟨by decide +kernel, show ∀ ch ∈ pc_116, ∀ q ∈ ch, sm_okL PZ PP 116 q.2.1 q.2.2.2.1 q.2.2.2.2.1 q.2.2.2.2.2 from List.forall_mem_cons.mpr ⟨(List.forall_mem_cons.mpr ⟨trivial, List.forall_mem_cons.mpr ⟨trivial, List.forall_mem_cons.mpr ⟨trivial, List.forall_mem_cons.mpr ⟨⟨_, rfl, Nat.le_of_ble_eq_true rfl, Or.inl (tb3 178 rfl rfl)⟩, List.forall_mem_cons.mpr ⟨trivial, List.forall_mem_cons.mpr ⟨trivial, List.forall_mem_cons.mpr ⟨trivial, List.forall_mem_cons.mpr ⟨trivial, List.forall_mem_cons.mpr ⟨⟨⟨okm_107.1, okm_107.2.1, okm_107.2.2.1, okm_107.2.2.2, Nat.le_of_ble_eq_true rfl, Nat.le_of_ble_eq_true rfl, Or.inl (tb3 237 rfl rfl)⟩, Nat.le_of_ble_eq_true rfl, oks_107⟩, List.forall_mem_cons.mpr ⟨rfl, fun _ h => absurd h List.not_mem_nil⟩⟩⟩⟩⟩⟩⟩⟩⟩⟩), fun _ h => absurd h List.not_mem_nil⟩, by decide +kernel, rfl⟩
set_option maxRecDepth 100000 in
theorem okQ_117 : sm_Q PZ PP 117 := ⟨by decide +kernel, show ∀ ch ∈ pc_117, ∀ q ∈ ch, sm_okL PZ PP 117 q.2.1 q.2.2.2.1 q.2.2.2.2.1 q.2.2.2.2.2 from List.forall_mem_cons.mpr ⟨(List.forall_mem_cons.mpr ⟨trivial, List.forall_mem_cons.mpr ⟨trivial, List.forall_mem_cons.mpr ⟨⟨⟨okm_116.1, okm_116.2.1, okm_116.2.2.1, okm_116.2.2.2, Nat.le_of_ble_eq_true rfl, Nat.le_of_ble_eq_true rfl, Or.inl (tb4 29 rfl rfl)⟩, Nat.le_of_ble_eq_true rfl, oki_116, okv_116, ⟨_, rfl, rfl⟩⟩, List.forall_mem_cons.mpr ⟨trivial, List.forall_mem_cons.mpr ⟨trivial, List.forall_mem_cons.mpr ⟨rfl, List.forall_mem_cons.mpr ⟨trivial, List.forall_mem_cons.mpr ⟨⟨⟨okm_114.1, okm_114.2.1, okm_114.2.2.1, okm_114.2.2.2, Nat.le_of_ble_eq_true rfl, Nat.le_of_ble_eq_true rfl, Or.inl (tb4 18 rfl rfl)⟩, Nat.le_of_ble_eq_true rfl, oki_114, okv_114, ⟨_, rfl, rfl⟩⟩, List.forall_mem_cons.mpr ⟨trivial, List.forall_mem_cons.mpr ⟨trivial, fun _ h => absurd h List.not_mem_nil⟩⟩⟩⟩⟩⟩⟩⟩⟩⟩), List.forall_mem_cons.mpr ⟨(List.forall_mem_cons.mpr ⟨trivial, List.forall_mem_cons.mpr ⟨trivial, List.forall_mem_cons.mpr ⟨trivial, List.forall_mem_cons.mpr ⟨trivial, List.forall_mem_cons.mpr ⟨trivial, List.forall_mem_cons.mpr ⟨trivial, List.forall_mem_cons.mpr ⟨trivial, List.forall_mem_cons.mpr ⟨trivial, List.forall_mem_cons.mpr ⟨trivial, List.forall_mem_cons.mpr ⟨trivial, fun _ h => absurd h List.not_mem_nil⟩⟩⟩⟩⟩⟩⟩⟩⟩⟩), List.forall_mem_cons.mpr ⟨(List.forall_mem_cons.mpr ⟨⟨_, rfl, Nat.le_of_ble_eq_true rfl, Or.inl (tb3 178 rfl rfl)⟩, List.forall_mem_cons.mpr ⟨trivial, List.forall_mem_cons.mpr ⟨trivial, List.forall_mem_cons.mpr ⟨⟨_, rfl, Nat.le_of_ble_eq_true rfl, Or.inl (tb3 178 rfl rfl)⟩, List.forall_mem_cons.mpr ⟨trivial, List.forall_mem_cons.mpr ⟨trivial, List.forall_mem_cons.mpr ⟨trivial, List.forall_mem_cons.mpr ⟨trivial, List.forall_mem_cons.mpr ⟨trivial, List.forall_mem_cons.mpr ⟨trivial, fun _ h => absurd h List.not_mem_nil⟩⟩⟩⟩⟩⟩⟩⟩⟩⟩), List.forall_mem_cons.mpr ⟨(List.forall_mem_cons.mpr ⟨trivial, List.forall_mem_cons.mpr ⟨trivial, List.forall_mem_cons.mpr ⟨⟨_, rfl, Nat.le_of_ble_eq_true rfl, Or.inl (tb3 178 rfl rfl)⟩, List.forall_mem_cons.mpr ⟨trivial, List.forall_mem_cons.mpr ⟨trivial, List.forall_mem_cons.mpr ⟨trivial, List.forall_mem_cons.mpr ⟨trivial, List.forall_mem_cons.mpr ⟨trivial, List.forall_mem_cons.mpr ⟨trivial, List.forall_mem_cons.mpr ⟨trivial, List.forall_mem_cons.mpr ⟨⟨_, rfl, Nat.le_of_ble_eq_true rfl, Or.inl (tb3 178 rfl rfl)⟩, fun _ h => absurd h List.not_mem_nil⟩⟩⟩⟩⟩⟩⟩⟩⟩⟩⟩), List.forall_mem_cons.mpr ⟨(List.forall_mem_cons.mpr ⟨trivial, List.forall_mem_cons.mpr ⟨trivial, List.forall_mem_cons.mpr ⟨rfl, fun _ h => absurd h List.not_mem_nil⟩⟩⟩), fun _ h => absurd h List.not_mem_nil⟩⟩⟩⟩⟩, by decide +kernel, rfl⟩
set_option maxRecDepth 100000 in
theorem okQ_118 : sm_Q PZ PP 118 := ⟨by decide +kernel, show ∀ ch ∈ pc_118, ∀ q ∈ ch, sm_okL PZ PP 118 q.2.1 q.2.2.2.1 q.2.2.2.2.1 q.2.2.2.2.2 from List.forall_mem_cons.mpr ⟨(List.forall_mem_cons.mpr ⟨trivial, List.forall_mem_cons.mpr ⟨trivial, List.forall_mem_cons.mpr ⟨trivial, List.forall_mem_cons.mpr ⟨trivial, List.forall_mem_cons.mpr ⟨trivial, List.forall_mem_cons.mpr ⟨trivial, List.forall_mem_cons.mpr ⟨trivial, List.forall_mem_cons.mpr ⟨trivial, List.forall_mem_cons.mpr ⟨trivial, List.forall_mem_cons.mpr ⟨trivial, fun _ h => absurd h List.not_mem_nil⟩⟩⟩⟩⟩⟩⟩⟩⟩⟩), List.forall_mem_cons.mpr ⟨(List.forall_mem_cons.mpr ⟨trivial, List.forall_mem_cons.mpr ⟨trivial, List.forall_mem_cons.mpr ⟨rfl, fun _ h => absurd h List.not_mem_nil⟩⟩⟩), fun _ h => absurd h List.not_mem_nil⟩⟩, by decide +kernel, rfl⟩
set_option maxRecDepth 100000 in
theorem okQ_119 : sm_Q PZ PP 119 := ⟨by decide +kernel, show ∀ ch ∈ pc_119, ∀ q ∈ ch, sm_okL PZ PP 119 q.2.1 q.2.2.2.1 q.2.2.2.2.1 q.2.2.2.2.2 from List.forall_mem_cons.mpr ⟨(List.forall_mem_cons.mpr ⟨trivial, List.forall_mem_cons.mpr ⟨trivial, List.forall_mem_cons.mpr ⟨⟨⟨okm_116.1, okm_116.2.1, okm_116.2.2.1, okm_116.2.2.2, Nat.le_of_ble_eq_true rfl, Nat.le_of_ble_eq_true rfl, Or.inl (tb4 29 rfl rfl)⟩, Nat.le_of_ble_eq_true rfl, oki_116, okv_116, ⟨_, rfl, rfl⟩⟩, List.forall_mem_cons.mpr ⟨trivial, List.forall_mem_cons.mpr ⟨trivial, List.forall_mem_cons.mpr ⟨trivial, List.forall_mem_cons.mpr ⟨trivial, List.forall_mem_cons.mpr ⟨⟨⟨okm_107.1, okm_107.2.1, okm_107.2.2.1, okm_107.2.2.2, Nat.le_of_ble_eq_true rfl, Nat.le_of_ble_eq_true rfl, Or.inl (tb3 237 rfl rfl)⟩, Nat.le_of_ble_eq_true rfl, oks_107⟩, List.forall_mem_cons.mpr ⟨trivial, fun _ h => absurd h List.not_mem_nil⟩⟩⟩⟩⟩⟩⟩⟩⟩), List.forall_mem_cons.mpr ⟨(List.forall_mem_cons.mpr ⟨trivial, List.forall_mem_cons.mpr ⟨trivial, List.forall_mem_cons.mpr ⟨trivial, List.forall_mem_cons.mpr ⟨⟨_, rfl, Nat.le_of_ble_eq_true rfl, Or.inl (tb3 178 rfl rfl)⟩, List.forall_mem_cons.mpr ⟨trivial, List.forall_mem_cons.mpr ⟨trivial, List.forall_mem_cons.mpr ⟨⟨⟨okm_118.1, okm_118.2.1, okm_118.2.2.1, okm_118.2.2.2, Nat.le_of_ble_eq_true rfl, Nat.le_of_ble_eq_true rfl, Or.inl (tb4 41 rfl rfl)⟩, Nat.le_of_ble_eq_true rfl, oks_118⟩, List.forall_mem_cons.mpr ⟨trivial, List.forall_mem_cons.mpr ⟨trivial, List.forall_mem_cons.mpr ⟨trivial, List.forall_mem_cons.mpr ⟨⟨⟨okm_107.1, okm_107.2.1, okm_107.2.2.1, okm_107.2.2.2, Nat.le_of_ble_eq_true rfl, Nat.le_of_ble_eq_true rfl, Or.inl (tb3 237 rfl rfl)⟩, Nat.le_of_ble_eq_true rfl, oks_107⟩, fun _ h => absurd h List.not_mem_nil⟩⟩⟩⟩⟩⟩⟩⟩⟩⟩⟩), List.forall_mem_cons.mpr ⟨(List.forall_mem_cons.mpr ⟨trivial, List.forall_mem_cons.mpr ⟨trivial, List.forall_mem_cons.mpr ⟨trivial, List.forall_mem_cons.mpr ⟨trivial, List.forall_mem_cons.mpr ⟨rfl, fun _ h => absurd h List.not_mem_nil⟩⟩⟩⟩⟩), fun _ h => absurd h List.not_mem_nil⟩⟩⟩, by decide +kernel, rfl⟩
set_option maxRecDepth 100000 in
theorem okQ_120 : sm_Q PZ PP 120 := ⟨by decide +kernel, show ∀ ch ∈ pc_120, ∀ q ∈ ch, sm_okL PZ PP 120 q.2.1 q.2.2.2.1 q.2.2.2.2.1 q.2.2.2.2.2 from List.forall_mem_cons.mpr ⟨(List.forall_mem_cons.mpr ⟨trivial, List.forall_mem_cons.mpr ⟨trivial, List.forall_mem_cons.mpr ⟨trivial, List.forall_mem_cons.mpr ⟨trivial, List.forall_mem_cons.mpr ⟨⟨⟨okm_119.1, okm_119.2.1, okm_119.2.2.1, okm_119.2.2.2, Nat.le_of_ble_eq_true rfl, Nat.le_of_ble_eq_true rfl, Or.inl (tb4 37 rfl rfl)⟩, Nat.le_of_ble_eq_true rfl, oki_119, okv_119, ⟨_, rfl, rfl⟩⟩, List.forall_mem_cons.mpr ⟨trivial, List.forall_mem_cons.mpr ⟨trivial, List.forall_mem_cons.mpr ⟨rfl, List.forall_mem_cons.mpr ⟨trivial, List.forall_mem_cons.mpr ⟨trivial, List.forall_mem_cons.mpr ⟨⟨⟨okm_118.1, okm_118.2.1, okm_118.2.2.1, okm_118.2.2.2, Nat.le_of_ble_eq_true rfl, Nat.le_of_ble_eq_true rfl, Or.inl (tb4 41 rfl rfl)⟩, Nat.le_of_ble_eq_true rfl, oks_118⟩, fun _ h => absurd h List.not_mem_nil⟩⟩⟩⟩⟩⟩⟩⟩⟩⟩⟩), List.forall_mem_cons.mpr ⟨(List.forall_mem_cons.mpr ⟨trivial, List.forall_mem_cons.mpr ⟨trivial, List.forall_mem_cons.mpr ⟨trivial, List.forall_mem_cons.mpr ⟨trivial, List.forall_mem_cons.mpr ⟨trivial, List.forall_mem_cons.mpr ⟨trivial, List.forall_mem_cons.mpr ⟨⟨_, rfl, Nat.le_of_ble_eq_true rfl, Or.inl (tb3 178 rfl rfl)⟩, List.forall_mem_cons.mpr ⟨trivial, List.forall_mem_cons.mpr ⟨trivial, List.forall_mem_cons.mpr ⟨trivial, fun _ h => absurd h List.not_mem_nil⟩⟩⟩⟩⟩⟩⟩⟩⟩⟩), List.forall_mem_cons.mpr ⟨(List.forall_mem_cons.mpr ⟨trivial, List.forall_mem_cons.mpr ⟨trivial, List.forall_mem_cons.mpr ⟨trivial, List.forall_mem_cons.mpr ⟨trivial, List.forall_mem_cons.mpr ⟨trivial, List.forall_mem_cons.mpr ⟨trivial, List.forall_mem_cons.mpr ⟨trivial, fun _ h => absurd h List.not_mem_nil⟩⟩⟩⟩⟩⟩⟩), List.forall_mem_cons.mpr ⟨(List.forall_mem_cons.mpr ⟨rfl, List.forall_mem_cons.mpr ⟨trivial, List.forall_mem_cons.mpr ⟨⟨⟨okm_114.1, okm_114.2.1, okm_114.2.2.1, okm_114.2.2.2, Nat.le_of_ble_eq_true rfl, Nat.le_of_ble_eq_true rfl, Or.inl (tb4 18 rfl rfl)⟩, Nat.le_of_ble_eq_true rfl, oki_114, okv_114, ⟨_, rfl, rfl⟩⟩, List.forall_mem_cons.mpr ⟨trivial, List.forall_mem_cons.mpr ⟨⟨_, rfl, Nat.le_of_ble_eq_true rfl, Or.inl (tb3 178 rfl rfl)⟩, List.forall_mem_cons.mpr ⟨trivial, List.forall_mem_cons.mpr ⟨trivial, List.forall_mem_cons.mpr ⟨trivial, List.forall_mem_cons.mpr ⟨trivial, fun _ h => absurd h List.not_mem_nil⟩⟩⟩⟩⟩⟩⟩⟩⟩), List.forall_mem_cons.mpr ⟨(List.forall_mem_cons.mpr ⟨rfl, fun _ h => absurd h List.not_mem_nil⟩), fun _ h => absurd h List.not_mem_nil⟩⟩⟩⟩⟩, by decide +kernel, rfl⟩
set_option maxRecDepth 100000 in
theorem okQ_121 : sm_Q PZ PP 121 := ⟨by decide +kernel, show ∀ ch ∈ pc_121, ∀ q ∈ ch, sm_okL PZ PP 121 q.2.1 q.2.2.2.1 q.2.2.2.2.1 q.2.2.2.2.2 from List.forall_mem_cons.mpr ⟨(List.forall_mem_cons.mpr ⟨trivial, List.forall_mem_cons.mpr ⟨trivial, List.forall_mem_cons.mpr ⟨trivial, List.forall_mem_cons.mpr ⟨trivial, List.forall_mem_cons.mpr ⟨trivial, List.forall_mem_cons.mpr ⟨trivial, List.forall_mem_cons.mpr ⟨trivial, List.forall_mem_cons.mpr ⟨trivial, List.forall_mem_cons.mpr ⟨trivial, List.forall_mem_cons.mpr ⟨⟨⟨okm_118.1, okm_118.2.1, okm_118.2.2.1, okm_118.2.2.2, Nat.le_of_ble_eq_true rfl, Nat.le_of_ble_eq_true rfl, Or.inl (tb4 41 rfl rfl)⟩, Nat.le_of_ble_eq_true rfl, oks_118⟩, List.forall_mem_cons.mpr ⟨trivial, fun _ h => absurd h List.not_mem_nil⟩⟩⟩⟩⟩⟩⟩⟩⟩⟩⟩), List.forall_mem_cons.mpr ⟨(List.forall_mem_cons.mpr ⟨trivial, List.forall_mem_cons.mpr ⟨trivial, List.forall_mem_cons.mpr ⟨trivial, List.forall_mem_cons.mpr ⟨trivial, List.forall_mem_cons.mpr ⟨⟨_, rfl, Nat.le_of_ble_eq_true rfl, Or.inl (tb3 178 rfl rfl)⟩, List.forall_mem_cons.mpr ⟨trivial, List.forall_mem_cons.mpr ⟨trivial, List.forall_mem_cons.mpr ⟨trivial, List.forall_mem_cons.mpr ⟨trivial, fun _ h => absurd h List.not_mem_nil⟩⟩⟩⟩⟩⟩⟩⟩⟩), List.forall_mem_cons.mpr ⟨(List.forall_mem_cons.mpr ⟨trivial, List.forall_mem_cons.mpr ⟨⟨_, rfl, Nat.le_of_ble_eq_true rfl, Or.inl (tb3 178 rfl rfl)⟩, List.forall_mem_cons.mpr ⟨trivial, List.forall_mem_cons.mpr ⟨trivial, List.forall_mem_cons.mpr ⟨trivial, List.forall_mem_cons.mpr ⟨trivial, List.forall_mem_cons.mpr ⟨trivial, List.forall_mem_cons.mpr ⟨trivial, List.forall_mem_cons.mpr ⟨trivial, fun _ h => absurd h List.not_mem_nil⟩⟩⟩⟩⟩⟩⟩⟩⟩), List.forall_mem_cons.mpr ⟨(List.forall_mem_cons.mpr ⟨trivial, List.forall_mem_cons.mpr ⟨trivial, List.forall_mem_cons.mpr ⟨trivial, List.forall_mem_cons.mpr ⟨trivial, List.forall_mem_cons.mpr ⟨trivial, List.forall_mem_cons.mpr ⟨trivial, List.forall_mem_cons.mpr ⟨trivial, List.forall_mem_cons.mpr ⟨trivial, fun _ h => absurd h List.not_mem_nil⟩⟩⟩⟩⟩⟩⟩⟩), List.forall_mem_cons.mpr ⟨(List.forall_mem_cons.mpr ⟨trivial, List.forall_mem_cons.mpr ⟨rfl, fun _ h => absurd h List.not_mem_nil⟩⟩), fun _ h => absurd h List.not_mem_nil⟩⟩⟩⟩⟩, by decide +kernel, rfl⟩
set_option maxRecDepth 100000 in
theorem okQ_122 : sm_Q PZ PP 122 := ⟨by decide +kernel, show ∀ ch ∈ pc_122, ∀ q ∈ ch, sm_okL PZ PP 122 q.2.1 q.2.2.2.1 q.2.2.2.2.1 q.2.2.2.2.2 from List.forall_mem_cons.mpr ⟨(List.forall_mem_cons.mpr ⟨trivial, List.forall_mem_cons.mpr ⟨trivial, List.forall_mem_cons.mpr ⟨trivial, List.forall_mem_cons.mpr ⟨trivial, List.forall_mem_cons.mpr ⟨trivial, List.forall_mem_cons.mpr ⟨⟨⟨okm_107.1, okm_107.2.1, okm_107.2.2.1, okm_107.2.2.2, Nat.le_of_ble_eq_true rfl, Nat.le_of_ble_eq_true rfl, Or.inl (tb3 237 rfl rfl)⟩, Nat.le_of_ble_eq_true rfl, oks_107⟩, List.forall_mem_cons.mpr ⟨trivial, fun _ h => absurd h List.not_mem_nil⟩⟩⟩⟩⟩⟩⟩), List.forall_mem_cons.mpr ⟨(List.forall_mem_cons.mpr ⟨trivial, List.forall_mem_cons.mpr ⟨trivial, List.forall_mem_cons.mpr ⟨trivial, List.forall_mem_cons.mpr ⟨⟨⟨okm_107.1, okm_107.2.1, okm_107.2.2.1, okm_107.2.2.2, Nat.le_of_ble_eq_true rfl, Nat.le_of_ble_eq_true rfl, Or.inl (tb3 237 rfl rfl)⟩, Nat.le_of_ble_eq_true rfl, oks_107⟩, List.forall_mem_cons.mpr ⟨trivial, List.forall_mem_cons.mpr ⟨trivial, List.forall_mem_cons.mpr ⟨trivial, List.forall_mem_cons.mpr ⟨trivial, List.forall_mem_cons.mpr ⟨trivial, List.forall_mem_cons.mpr ⟨⟨⟨okm_119.1, okm_119.2.1, okm_119.2.2.1, okm_119.2.2.2, Nat.le_of_ble_eq_true rfl, Nat.le_of_ble_eq_true rfl, Or.inl (tb4 37 rfl rfl)⟩, Nat.le_of_ble_eq_true rfl, oki_119, okv_119, ⟨_, rfl, rfl⟩⟩, fun _ h => absurd h List.not_mem_nil⟩⟩⟩⟩⟩⟩⟩⟩⟩⟩), List.forall_mem_cons.mpr ⟨(List.forall_mem_cons.mpr ⟨trivial, List.forall_mem_cons.mpr ⟨trivial, List.forall_mem_cons.mpr ⟨trivial, List.forall_mem_cons.mpr ⟨trivial, List.forall_mem_cons.mpr ⟨rfl, List.forall_mem_cons.mpr ⟨trivial, List.forall_mem_cons.mpr ⟨trivial, List.forall_mem_cons.mpr ⟨⟨⟨okm_118.1, okm_118.2.1, okm_118.2.2.1, okm_118.2.2.2, Nat.le_of_ble_eq_true rfl, Nat.le_of_ble_eq_true rfl, Or.inl (tb4 41 rfl rfl)⟩, Nat.le_of_ble_eq_true rfl, oks_118⟩, fun _ h => absurd h List.not_mem_nil⟩⟩⟩⟩⟩⟩⟩⟩), List.forall_mem_cons.mpr ⟨(List.forall_mem_cons.mpr ⟨trivial, List.forall_mem_cons.mpr ⟨trivial, List.forall_mem_cons.mpr ⟨trivial, List.forall_mem_cons.mpr ⟨trivial, List.forall_mem_cons.mpr ⟨trivial, List.forall_mem_cons.mpr ⟨trivial, List.forall_mem_cons.mpr ⟨⟨_, rfl, Nat.le_of_ble_eq_true rfl, Or.inl (tb3 178 rfl rfl)⟩, List.forall_mem_cons.mpr ⟨trivial, List.forall_mem_cons.mpr ⟨trivial, List.forall_mem_cons.mpr ⟨trivial, fun _ h => absurd h List.not_mem_nil⟩⟩⟩⟩⟩⟩⟩⟩⟩⟩), List.forall_mem_cons.mpr ⟨(List.forall_mem_cons.mpr ⟨trivial, List.forall_mem_cons.mpr ⟨trivial, List.forall_mem_cons.mpr ⟨rfl, List.forall_mem_cons.mpr ⟨trivial, List.forall_mem_cons.mpr ⟨⟨⟨okm_114.1, okm_114.2.1, okm_114.2.2.1, okm_114.2.2.2, Nat.le_of_ble_eq_true rfl, Nat.le_of_ble_eq_true rfl, Or.inl (tb4 18 rfl rfl)⟩, Nat.le_of_ble_eq_true rfl, oki_114, okv_114, ⟨_, rfl, rfl⟩⟩, List.forall_mem_cons.mpr ⟨trivial, List.forall_mem_cons.mpr ⟨⟨_, rfl, Nat.le_of_ble_eq_true rfl, Or.inl (tb3 178 rfl rfl)⟩, List.forall_mem_cons.mpr ⟨trivial, fun _ h => absurd h List.not_mem_nil⟩⟩⟩⟩⟩⟩⟩⟩), List.forall_mem_cons.mpr ⟨(List.forall_mem_cons.mpr ⟨trivial, List.forall_mem_cons.mpr ⟨trivial, List.forall_mem_cons.mpr ⟨trivial, List.forall_mem_cons.mpr ⟨trivial, List.forall_mem_cons.mpr ⟨⟨⟨okm_121.1, okm_121.2.1, okm_121.2.2.1, okm_121.2.2.2, Nat.le_of_ble_eq_true rfl, Nat.le_of_ble_eq_true rfl, Or.inl (tb4 48 rfl rfl)⟩, Nat.le_of_ble_eq_true rfl, oki_121, okv_121, ⟨_, rfl, rfl⟩⟩, List.forall_mem_cons.mpr ⟨rfl, fun _ h => absurd h List.not_mem_nil⟩⟩⟩⟩⟩⟩), fun _ h => absurd h List.not_mem_nil⟩⟩⟩⟩⟩⟩, by decide +kernel, rfl⟩
set_option maxRecDepth 100000 in
theorem okQ_123 : sm_Q PZ PP 123 := ⟨by decide +kernel, show ∀ ch ∈ pc_123, ∀ q ∈ ch, sm_okL PZ PP 123 q.2.1 q.2.2.2.1 q.2.2.2.2.1 q.2.2.2.2.2 from List.forall_mem_cons.mpr ⟨(List.forall_mem_cons.mpr ⟨trivial, List.forall_mem_cons.mpr ⟨⟨_, rfl, Nat.le_of_ble_eq_true rfl, Or.inl (tb3 178 rfl rfl)⟩, List.forall_mem_cons.mpr ⟨trivial, List.forall_mem_cons.mpr ⟨trivial, List.forall_mem_cons.mpr ⟨trivial, List.forall_mem_cons.mpr ⟨trivial, List.forall_mem_cons.mpr ⟨trivial, List.forall_mem_cons.mpr ⟨trivial, List.forall_mem_cons.mpr ⟨trivial, List.forall_mem_cons.mpr ⟨rfl, List.forall_mem_cons.mpr ⟨trivial, fun _ h => absurd h List.not_mem_nil⟩⟩⟩⟩⟩⟩⟩⟩⟩⟩⟩), List.forall_mem_cons.mpr ⟨(List.forall_mem_cons.mpr ⟨⟨⟨okm_114.1, okm_114.2.1, okm_114.2.2.1, okm_114.2.2.2, Nat.le_of_ble_eq_true rfl, Nat.le_of_ble_eq_true rfl, Or.inl (tb4 18 rfl rfl)⟩, Nat.le_of_ble_eq_true rfl, oki_114, okv_114, ⟨_, rfl, rfl⟩⟩, List.forall_mem_cons.mpr ⟨trivial, List.forall_mem_cons.mpr ⟨⟨_, rfl, Nat.le_of_ble_eq_true rfl, Or.inl (tb3 178 rfl rfl)⟩, List.forall_mem_cons.mpr ⟨trivial, List.forall_mem_cons.mpr ⟨trivial, List.forall_mem_cons.mpr ⟨trivial, List.forall_mem_cons.mpr ⟨trivial, List.forall_mem_cons.mpr ⟨rfl, fun _ h => absurd h List.not_mem_nil⟩⟩⟩⟩⟩⟩⟩⟩), fun _ h => absurd h List.not_mem_nil⟩⟩, by decide +kernel, rfl⟩
set_option maxRecDepth 100000 in
theorem okQ_124 : sm_Q PZ PP 124 := ⟨by decide +kernel, show ∀ ch ∈ pc_124, ∀ q ∈ ch, sm_okL PZ PP 124 q.2.1 q.2.2.2.1 q.2.2.2.2.1 q.2.2.2.2.2 from List.forall_mem_cons.mpr ⟨(List.forall_mem_cons.mpr ⟨trivial, List.forall_mem_cons.mpr ⟨trivial, List.forall_mem_cons.mpr ⟨trivial, List.forall_mem_cons.mpr ⟨⟨⟨okm_107.1, okm_107.2.1, okm_107.2.2.1, okm_107.2.2.2, Nat.le_of_ble_eq_true rfl, Nat.le_of_ble_eq_true rfl, Or.inl (tb3 237 rfl rfl)⟩, Nat.le_of_ble_eq_true rfl, oks_107⟩, List.forall_mem_cons.mpr ⟨trivial, List.forall_mem_cons.mpr ⟨trivial, List.forall_mem_cons.mpr ⟨trivial, List.forall_mem_cons.mpr ⟨trivial, List.forall_mem_cons.mpr ⟨⟨⟨okm_123.1, okm_123.2.1, okm_123.2.2.1, okm_123.2.2.2, Nat.le_of_ble_eq_true rfl, Nat.le_of_ble_eq_true rfl, Or.inl (tb4 56 rfl rfl)⟩, Nat.le_of_ble_eq_true rfl, oki_123, okv_123, ⟨_, rfl, rfl⟩⟩, List.forall_mem_cons.mpr ⟨trivial, fun _ h => absurd h List.not_mem_nil⟩⟩⟩⟩⟩⟩⟩⟩⟩⟩), List.forall_mem_cons.mpr ⟨(List.forall_mem_cons.mpr ⟨trivial, List.forall_mem_cons.mpr ⟨rfl, fun _ h => absurd h List.not_mem_nil⟩⟩), fun _ h => absurd h List.not_mem_nil⟩⟩, by decide +kernel, rfl⟩
set_option maxRecDepth 100000 in
theorem okQ_125 : sm_Q PZ PP 125 := ⟨by decide +kernel, show ∀ ch ∈ pc_125, ∀ q ∈ ch, sm_okL PZ PP 125 q.2.1 q.2.2.2.1 q.2.2.2.2.1 q.2.2.2.2.2 from List.forall_mem_cons.mpr ⟨(List.forall_mem_cons.mpr ⟨trivial, List.forall_mem_cons.mpr ⟨trivial, List.forall_mem_cons.mpr ⟨trivial, List.forall_mem_cons.mpr ⟨⟨⟨okm_107.1, okm_107.2.1, okm_107.2.2.1, okm_107.2.2.2, Nat.le_of_ble_eq_true rfl, Nat.le_of_ble_eq_true rfl, Or.inl (tb3 237 rfl rfl)⟩, Nat.le_of_ble_eq_true rfl, oks_107⟩, List.forall_mem_cons.mpr ⟨trivial, List.forall_mem_cons.mpr ⟨trivial, List.forall_mem_cons.mpr ⟨trivial, List.forall_mem_cons.mpr ⟨trivial, fun _ h => absurd h List.not_mem_nil⟩⟩⟩⟩⟩⟩⟩⟩), List.forall_mem_cons.mpr ⟨(List.forall_mem_cons.mpr ⟨trivial, List.forall_mem_cons.mpr ⟨trivial, List.forall_mem_cons.mpr ⟨trivial, List.forall_mem_cons.mpr ⟨⟨⟨okm_123.1, okm_123.2.1, okm_123.2.2.1, okm_123.2.2.2, Nat.le_of_ble_eq_true rfl, Nat.le_of_ble_eq_true rfl, Or.inl (tb4 56 rfl rfl)⟩, Nat.le_of_ble_eq_true rfl, oki_123, okv_123, ⟨_, rfl, rfl⟩⟩, List.forall_mem_cons.mpr ⟨trivial, List.forall_mem_cons.mpr ⟨trivial, List.forall_mem_cons.mpr ⟨rfl, fun _ h => absurd h List.not_mem_nil⟩⟩⟩⟩⟩⟩⟩), fun _ h => absurd h List.not_mem_nil⟩⟩, by decide +kernel, rfl⟩
set_option maxRecDepth 100000 in
theorem okQ_126 : sm_Q PZ PP 126 := ⟨by decide +kernel, show ∀ ch ∈ pc_126, ∀ q ∈ ch, sm_okL PZ PP 126 q.2.1 q.2.2.2.1 q.2.2.2.2.1 q.2.2.2.2.2 from List.forall_mem_cons.mpr ⟨(List.forall_mem_cons.mpr ⟨trivial, List.forall_mem_cons.mpr ⟨⟨_, rfl, Nat.le_of_ble_eq_true rfl, Or.inl (tb3 180 rfl rfl)⟩, List.forall_mem_cons.mpr ⟨trivial, List.forall_mem_cons.mpr ⟨trivial, List.forall_mem_cons.mpr ⟨rfl, List.forall_mem_cons.mpr ⟨trivial, List.forall_mem_cons.mpr ⟨trivial, List.forall_mem_cons.mpr ⟨⟨_, rfl, Nat.le_of_ble_eq_true rfl, Or.inl (tb3 180 rfl rfl)⟩, List.forall_mem_cons.mpr ⟨trivial, fun _ h => absurd h List.not_mem_nil⟩⟩⟩⟩⟩⟩⟩⟩⟩), List.forall_mem_cons.mpr ⟨(List.forall_mem_cons.mpr ⟨trivial, List.forall_mem_cons.mpr ⟨⟨_, rfl, Nat.le_of_ble_eq_true rfl, ⟨.int, by decide +kernel, rfl⟩, Or.inl ⟨rfl, Or.inl (tb3 180 rfl rfl)⟩⟩, List.forall_mem_cons.mpr ⟨trivial, List.forall_mem_cons.mpr ⟨⟨_, rfl, Nat.le_of_ble_eq_true rfl, Or.inl (tb3 179 rfl rfl)⟩, List.forall_mem_cons.mpr ⟨trivial, List.forall_mem_cons.mpr ⟨trivial, List.forall_mem_cons.mpr ⟨⟨_, rfl, Nat.le_of_ble_eq_true rfl, Or.inl (tb3 180 rfl rfl)⟩, List.forall_mem_cons.mpr ⟨trivial, fun _ h => absurd h List.not_mem_nil⟩⟩⟩⟩⟩⟩⟩⟩), List.forall_mem_cons.mpr ⟨(List.forall_mem_cons.mpr ⟨trivial, List.forall_mem_cons.mpr ⟨⟨_, rfl, Nat.le_of_ble_eq_true rfl, Or.inl (tb3 178 rfl rfl)⟩, List.forall_mem_cons.mpr ⟨trivial, List.forall_mem_cons.mpr ⟨trivial, List.forall_mem_cons.mpr ⟨⟨⟨okm_113.1, okm_113.2.1, okm_113.2.2.1, okm_113.2.2.2, Nat.le_of_ble_eq_true rfl, Nat.le_of_ble_eq_true rfl, Or.inl (tb4 22 rfl rfl)⟩, Nat.le_of_ble_eq_true rfl, oks_113⟩, List.forall_mem_cons.mpr ⟨trivial, List.forall_mem_cons.mpr ⟨⟨_, rfl, Nat.le_of_ble_eq_true rfl, Or.inl (tb3 180 rfl rfl)⟩, List.forall_mem_cons.mpr ⟨rfl, fun _ h => absurd h List.not_mem_nil⟩⟩⟩⟩⟩⟩⟩⟩), fun _ h => absurd h List.not_mem_nil⟩⟩⟩, by decide +kernel, rfl⟩
set_option maxRecDepth 100000 in
theorem okQ_127 : sm_Q PZ PP 127 := ⟨by decide +kernel, show ∀ ch ∈ pc_127, ∀ q ∈ ch, sm_okL PZ PP 127 q.2.1 q.2.2.2.1 q.2.2.2.2.1 q.2.2.2.2.2 from List.forall_mem_cons.mpr ⟨(List.forall_mem_cons.mpr ⟨trivial, List.forall_mem_cons.mpr ⟨trivial, fun _ h => absurd h List.not_mem_nil⟩⟩), List.forall_mem_cons.mpr ⟨(fun _ h => absurd h List.not_mem_nil), List.forall_mem_cons.mpr ⟨(fun _ h => absurd h List.not_mem_nil), List.forall_mem_cons.mpr ⟨(fun _ h => absurd h List.not_mem_nil), List.forall_mem_cons.mpr ⟨(fun _ h => absurd h List.not_mem_nil), List.forall_mem_cons.mpr ⟨(fun _ h => absurd h List.not_mem_nil), List.forall_mem_cons.mpr ⟨(fun _ h => absurd h List.not_mem_nil), List.forall_mem_cons.mpr ⟨(fun _ h => absurd h List.not_mem_nil), List.forall_mem_cons.mpr ⟨(List.forall_mem_cons.mpr ⟨(tb4 91 rfl rfl), List.forall_mem_cons.mpr ⟨rfl, List.forall_mem_cons.mpr ⟨(tb4 92 rfl rfl), List.forall_mem_cons.mpr ⟨rfl, fun _ h => absurd h List.not_mem_nil⟩⟩⟩⟩), List.forall_mem_cons.mpr ⟨(List.forall_mem_cons.mpr ⟨(tb4 93 rfl rfl), List.forall_mem_cons.mpr ⟨rfl, List.forall_mem_cons.mpr ⟨(tb4 94 rfl rfl), List.forall_mem_cons.mpr ⟨rfl, List.forall_mem_cons.mpr ⟨(tb4 95 rfl rfl), List.forall_mem_cons.mpr ⟨rfl, List.forall_mem_cons.mpr ⟨(tb4 96 rfl rfl), List.forall_mem_cons.mpr ⟨rfl, fun _ h => absurd h List.not_mem_nil⟩⟩⟩⟩⟩⟩⟩⟩), List.forall_mem_cons.mpr ⟨(List.forall_mem_cons.mpr ⟨(tb4 97 rfl rfl), List.forall_mem_cons.mpr ⟨rfl, List.forall_mem_cons.mpr ⟨(tb4 98 rfl rfl), List.forall_mem_cons.mpr ⟨rfl, List.forall_mem_cons.mpr ⟨(tb4 99 rfl rfl), List.forall_mem_cons.mpr ⟨rfl, List.forall_mem_cons.mpr ⟨(tb4 100 rfl rfl), List.forall_mem_cons.mpr ⟨rfl, fun _ h => absurd h List.not_mem_nil⟩⟩⟩⟩⟩⟩⟩⟩), List.forall_mem_cons.mpr ⟨(List.forall_mem_cons.mpr ⟨(tb4 101 rfl rfl), List.forall_mem_cons.mpr ⟨rfl, List.forall_mem_cons.mpr ⟨(tb4 102 rfl rfl), List.forall_mem_cons.mpr ⟨rfl, List.forall_mem_cons.mpr ⟨(tb4 103 rfl rfl), List.forall_mem_cons.mpr ⟨rfl, List.forall_mem_cons.mpr ⟨(tb4 104 rfl rfl), List.forall_mem_cons.mpr ⟨rfl, fun _ h => absurd h List.not_mem_nil⟩⟩⟩⟩⟩⟩⟩⟩), List.forall_mem_cons.mpr ⟨(List.forall_mem_cons.mpr ⟨(tb4 105 rfl rfl), List.forall_mem_cons.mpr ⟨rfl, List.forall_mem_cons.mpr ⟨(tb4 106 rfl rfl), List.forall_mem_cons.mpr ⟨rfl, List.forall_mem_cons.mpr ⟨(tb4 107 rfl rfl), List.forall_mem_cons.mpr ⟨rfl, List.forall_mem_cons.mpr ⟨(tb4 108 rfl rfl), List.forall_mem_cons.mpr ⟨rfl, fun _ h => absurd h List.not_mem_nil⟩⟩⟩⟩⟩⟩⟩⟩), List.forall_mem_cons.mpr ⟨(List.forall_mem_cons.mpr ⟨(tb4 109 rfl rfl), List.forall_mem_cons.mpr ⟨rfl, List.forall_mem_cons.mpr ⟨(tb4 110 rfl rfl), List.forall_mem_cons.mpr ⟨rfl, List.forall_mem_cons.mpr ⟨(tb4 111 rfl rfl), List.forall_mem_cons.mpr ⟨rfl, List.forall_mem_cons.mpr ⟨(tb4 112 rfl rfl), List.forall_mem_cons.mpr ⟨rfl, fun _ h => absurd h List.not_mem_nil⟩⟩⟩⟩⟩⟩⟩⟩), List.forall_mem_cons.mpr ⟨(List.forall_mem_cons.mpr ⟨(tb4 113 rfl rfl), List.forall_mem_cons.mpr ⟨rfl, List.forall_mem_cons.mpr ⟨(tb4 114 rfl rfl), List.forall_mem_cons.mpr ⟨rfl, List.forall_mem_cons.mpr ⟨(tb4 115 rfl rfl), List.forall_mem_cons.mpr ⟨rfl, List.forall_mem_cons.mpr ⟨(tb4 116 rfl rfl), List.forall_mem_cons.mpr ⟨rfl, fun _ h => absurd h List.not_mem_nil⟩⟩⟩⟩⟩⟩⟩⟩), List.forall_mem_cons.mpr ⟨(List.forall_mem_cons.mpr ⟨(tb4 117 rfl rfl), List.forall_mem_cons.mpr ⟨rfl, List.forall_mem_cons.mpr ⟨(tb4 118 rfl rfl), List.forall_mem_cons.mpr ⟨rfl, List.forall_mem_cons.mpr ⟨(tb4 119 rfl rfl), List.forall_mem_cons.mpr ⟨rfl, List.forall_mem_cons.mpr ⟨(tb4 120 rfl rfl), List.forall_mem_cons.mpr ⟨rfl, fun _ h => absurd h List.not_mem_nil⟩⟩⟩⟩⟩⟩⟩⟩), List.forall_mem_cons.mpr ⟨(List.forall_mem_cons.mpr ⟨trivial, List.forall_mem_cons.mpr ⟨rfl, fun _ h => absurd h List.not_mem_nil⟩⟩), fun _ h => absurd h List.not_mem_nil⟩⟩⟩⟩⟩⟩⟩⟩⟩⟩⟩⟩⟩⟩⟩⟩⟩, by decide +kernel, rfl⟩
set_option maxRecDepth 100000 in
theorem okQ_128 : sm_Q PZ PP 128 := ⟨by decide +kernel, show ∀ ch ∈ pc_128, ∀ q ∈ ch, sm_okL PZ PP 128 q.2.1 q.2.2.2.1 q.2.2.2.2.1 q.2.2.2.2.2 from List.forall_mem_cons.mpr ⟨(List.forall_mem_cons.mpr ⟨trivial, List.forall_mem_cons.mpr ⟨⟨_, rfl, Nat.le_of_ble_eq_true rfl, Or.inl (tb3 186 rfl rfl)⟩, List.forall_mem_cons.mpr ⟨trivial, List.forall_mem_cons.mpr ⟨trivial, List.forall_mem_cons.mpr ⟨⟨_, rfl, Nat.le_of_ble_eq_true rfl, Or.inl (tb3 185 rfl rfl)⟩, List.forall_mem_cons.mpr ⟨trivial, List.forall_mem_cons.mpr ⟨⟨_, rfl, Nat.le_of_ble_eq_true rfl, Or.inl (tb3 186 rfl rfl)⟩, List.forall_mem_cons.mpr ⟨trivial, fun _ h => absurd h List.not_mem_nil⟩⟩⟩⟩⟩⟩⟩⟩), List.forall_mem_cons.mpr ⟨(List.forall_mem_cons.mpr ⟨trivial, List.forall_mem_cons.mpr ⟨trivial, List.forall_mem_cons.mpr ⟨trivial, List.forall_mem_cons.mpr ⟨⟨_, rfl, Nat.le_of_ble_eq_true rfl, Or.inl (tb3 186 rfl rfl)⟩, List.forall_mem_cons.mpr ⟨trivial, List.forall_mem_cons.mpr ⟨trivial, List.forall_mem_cons.mpr ⟨⟨_, rfl, Nat.le_of_ble_eq_true rfl, ⟨.int, by decide +kernel, rfl⟩, Or.inl ⟨rfl, Or.inl (tb3 186 rfl rfl)⟩⟩, List.forall_mem_cons.mpr ⟨trivial, List.forall_mem_cons.mpr ⟨⟨⟨okm_127.1, okm_127.2.1, okm_127.2.2.1, okm_127.2.2.2, Nat.le_of_ble_eq_true rfl, Nat.le_of_ble_eq_true rfl, Or.inl (tb4 88 rfl rfl)⟩, Nat.le_of_ble_eq_true rfl, oks_127⟩, fun _ h => absurd h List.not_mem_nil⟩⟩⟩⟩⟩⟩⟩⟩⟩), List.forall_mem_cons.mpr ⟨(List.forall_mem_cons.mpr ⟨trivial, List.forall_mem_cons.mpr ⟨trivial, List.forall_mem_cons.mpr ⟨trivial, List.forall_mem_cons.mpr ⟨trivial, List.forall_mem_cons.mpr ⟨trivial, List.forall_mem_cons.mpr ⟨trivial, List.forall_mem_cons.mpr ⟨⟨_, rfl, Nat.le_of_ble_eq_true rfl, Or.inl (tb3 185 rfl rfl)⟩, List.forall_mem_cons.mpr ⟨trivial, List.forall_mem_cons.mpr ⟨⟨_, rfl, Nat.le_of_ble_eq_true rfl, Or.inl (tb3 186 rfl rfl)⟩, List.forall_mem_cons.mpr ⟨trivial, fun _ h => absurd h List.not_mem_nil⟩⟩⟩⟩⟩⟩⟩⟩⟩⟩), List.forall_mem_cons.mpr ⟨(List.forall_mem_cons.mpr ⟨trivial, List.forall_mem_cons.mpr ⟨(tb4 121 rfl rfl), List.forall_mem_cons.mpr ⟨trivial, List.forall_mem_cons.mpr ⟨trivial, List.forall_mem_cons.mpr ⟨trivial, List.forall_mem_cons.mpr ⟨trivial, List.forall_mem_cons.mpr ⟨trivial, List.forall_mem_cons.mpr ⟨trivial, List.forall_mem_cons.mpr ⟨trivial, List.forall_mem_cons.mpr ⟨trivial, List.forall_mem_cons.mpr ⟨⟨_, rfl, Nat.le_of_ble_eq_true rfl, Or.inl (tb3 186 rfl rfl)⟩, fun _ h => absurd h List.not_mem_nil⟩⟩⟩⟩⟩⟩⟩⟩⟩⟩⟩), List.forall_mem_cons.mpr ⟨(List.forall_mem_cons.mpr ⟨trivial, List.forall_mem_cons.mpr ⟨trivial, List.forall_mem_cons.mpr ⟨⟨_, rfl, Nat.le_of_ble_eq_true rfl, ⟨.int, by decide +kernel, rfl⟩, Or.inl ⟨rfl, Or.inl (tb3 186 rfl rfl)⟩⟩, List.forall_mem_cons.mpr ⟨trivial, List.forall_mem_cons.mpr ⟨(tb4 121 rfl rfl), List.forall_mem_cons.mpr ⟨trivial, List.forall_mem_cons.mpr ⟨trivial, List.forall_mem_cons.mpr ⟨trivial, List.forall_mem_cons.mpr ⟨rfl, fun _ h => absurd h List.not_mem_nil⟩⟩⟩⟩⟩⟩⟩⟩⟩), fun _ h => absurd h List.not_mem_nil⟩⟩⟩⟩⟩, by decide +kernel, rfl⟩
set_option maxRecDepth 100000 in
theorem okQ_129 : sm_Q PZ PP 129 := ⟨by decide +kernel, show ∀ ch ∈ pc_129, ∀ q ∈ ch, sm_okL PZ PP 129 q.2.1 q.2.2.2.1 q.2.2.2.2.1 q.2.2.2.2.2 from List.forall_mem_cons.mpr ⟨(List.forall_mem_cons.mpr ⟨trivial, List.forall_mem_cons.mpr ⟨trivial, List.forall_mem_cons.mpr ⟨⟨_, rfl, Nat.le_of_ble_eq_true rfl, ⟨.int, by decide +kernel, rfl⟩, Or.inl ⟨rfl, Or.inl (tb3 186 rfl rfl)⟩⟩, List.forall_mem_cons.mpr ⟨trivial, List.forall_mem_cons.mpr ⟨trivial, List.forall_mem_cons.mpr ⟨trivial, List.forall_mem_cons.mpr ⟨trivial, List.forall_mem_cons.mpr ⟨trivial, List.forall_mem_cons.mpr ⟨trivial, List.forall_mem_cons.mpr ⟨trivial, fun _ h => absurd h List.not_mem_nil⟩⟩⟩⟩⟩⟩⟩⟩⟩⟩), List.forall_mem_cons.mpr ⟨(List.forall_mem_cons.mpr ⟨trivial, List.forall_mem_cons.mpr ⟨trivial, List.forall_mem_cons.mpr ⟨trivial, List.forall_mem_cons.mpr ⟨trivial, List.forall_mem_cons.mpr ⟨⟨⟨okm_128.1, okm_128.2.1, okm_128.2.2.1, okm_128.2.2.2, Nat.le_of_ble_eq_true rfl, Nat.le_of_ble_eq_true rfl, Or.inl (tb4 84 rfl rfl)⟩, Nat.le_of_ble_eq_true rfl, oki_128, okv_128, ⟨_, rfl, rfl⟩⟩, List.forall_mem_cons.mpr ⟨trivial, List.forall_mem_cons.mpr ⟨trivial, List.forall_mem_cons.mpr ⟨⟨⟨okm_128.1, okm_128.2.1, okm_128.2.2.1, okm_128.2.2.2, Nat.le_of_ble_eq_true rfl, Nat.le_of_ble_eq_true rfl, Or.inl (tb4 84 rfl rfl)⟩, Nat.le_of_ble_eq_true rfl, oki_128, okv_128, ⟨_, rfl, rfl⟩⟩, List.forall_mem_cons.mpr ⟨trivial, List.forall_mem_cons.mpr ⟨trivial, fun _ h => absurd h List.not_mem_nil⟩⟩⟩⟩⟩⟩⟩⟩⟩⟩), List.forall_mem_cons.mpr ⟨(List.forall_mem_cons.mpr ⟨trivial, List.forall_mem_cons.mpr ⟨trivial, List.forall_mem_cons.mpr ⟨⟨⟨okm_128.1, okm_128.2.1, okm_128.2.2.1, okm_128.2.2.2, Nat.le_of_ble_eq_true rfl, Nat.le_of_ble_eq_true rfl, Or.inl (tb4 84 rfl rfl)⟩, Nat.le_of_ble_eq_true rfl, oki_128, okv_128, ⟨_, rfl, rfl⟩⟩, List.forall_mem_cons.mpr ⟨trivial, List.forall_mem_cons.mpr ⟨trivial, List.forall_mem_cons.mpr ⟨trivial, List.forall_mem_cons.mpr ⟨trivial, List.forall_mem_cons.mpr ⟨trivial, fun _ h => absurd h List.not_mem_nil⟩⟩⟩⟩⟩⟩⟩⟩), List.forall_mem_cons.mpr ⟨(List.forall_mem_cons.mpr ⟨trivial, List.forall_mem_cons.mpr ⟨trivial, List.forall_mem_cons.mpr ⟨trivial, List.forall_mem_cons.mpr ⟨trivial, List.forall_mem_cons.mpr ⟨trivial, List.forall_mem_cons.mpr ⟨trivial, List.forall_mem_cons.mpr ⟨trivial, List.forall_mem_cons.mpr ⟨trivial, fun _ h => absurd h List.not_mem_nil⟩⟩⟩⟩⟩⟩⟩⟩), List.forall_mem_cons.mpr ⟨(List.forall_mem_cons.mpr ⟨trivial, List.forall_mem_cons.mpr ⟨trivial, List.forall_mem_cons.mpr ⟨trivial, List.forall_mem_cons.mpr ⟨⟨⟨okm_128.1, okm_128.2.1, okm_128.2.2.1, okm_128.2.2.2, Nat.le_of_ble_eq_true rfl, Nat.le_of_ble_eq_true rfl, Or.inl (tb4 84 rfl rfl)⟩, Nat.le_of_ble_eq_true rfl, oki_128, okv_128, ⟨_, rfl, rfl⟩⟩, List.forall_mem_cons.mpr ⟨trivial, List.forall_mem_cons.mpr ⟨trivial, List.forall_mem_cons.mpr ⟨trivial, List.forall_mem_cons.mpr ⟨trivial, List.forall_mem_cons.mpr ⟨trivial, fun _ h => absurd h List.not_mem_nil⟩⟩⟩⟩⟩⟩⟩⟩⟩), List.forall_mem_cons.mpr ⟨(List.forall_mem_cons.mpr ⟨trivial, List.forall_mem_cons.mpr ⟨trivial, List.forall_mem_cons.mpr ⟨trivial, List.forall_mem_cons.mpr ⟨trivial, List.forall_mem_cons.mpr ⟨trivial, List.forall_mem_cons.mpr ⟨trivial, List.forall_mem_cons.mpr ⟨⟨⟨okm_128.1, okm_128.2.1, okm_128.2.2.1, okm_128.2.2.2, Nat.le_of_ble_eq_true rfl, Nat.le_of_ble_eq_true rfl, Or.inl (tb4 84 rfl rfl)⟩, Nat.le_of_ble_eq_true rfl, oki_128, okv_128, ⟨_, rfl, rfl⟩⟩, List.forall_mem_cons.mpr ⟨rfl, fun _ h => absurd h List.not_mem_nil⟩⟩⟩⟩⟩⟩⟩⟩), fun _ h => absurd h List.not_mem_nil⟩⟩⟩⟩⟩⟩, by decide +kernel, rfl⟩
set_option maxRecDepth 100000 in
theorem okQ_130 : sm_Q PZ PP 130 := ⟨by decide +kernel, show ∀ ch ∈ pc_130, ∀ q ∈ ch, sm_okL PZ PP 130 q.2.1 q.2.2.2.1 q.2.2.2.2.1 q.2.2.2.2.2 from List.forall_mem_cons.mpr ⟨(List.forall_mem_cons.mpr ⟨trivial, List.forall_mem_cons.mpr ⟨trivial, List.forall_mem_cons.mpr ⟨⟨⟨okm_118.1, okm_118.2.1, okm_118.2.2.1, okm_118.2.2.2, Nat.le_of_ble_eq_true rfl, Nat.le_of_ble_eq_true rfl, Or.inl (tb4 41 rfl rfl)⟩, Nat.le_of_ble_eq_true rfl, oks_118⟩, List.forall_mem_cons.mpr ⟨trivial, List.forall_mem_cons.mpr ⟨trivial, List.forall_mem_cons.mpr ⟨trivial, List.forall_mem_cons.mpr ⟨⟨⟨okm_129.1, okm_129.2.1, okm_129.2.2.1, okm_129.2.2.2, Nat.le_of_ble_eq_true rfl, Nat.le_of_ble_eq_true rfl, Or.inl (tb4 80 rfl rfl)⟩, Nat.le_of_ble_eq_true rfl, oki_129, okv_129, ⟨_, rfl, rfl⟩⟩, List.forall_mem_cons.mpr ⟨trivial, List.forall_mem_cons.mpr ⟨⟨_, rfl, Nat.le_of_ble_eq_true rfl, Or.inl (tb3 186 rfl rfl)⟩, List.forall_mem_cons.mpr ⟨trivial, fun _ h => absurd h List.not_mem_nil⟩⟩⟩⟩⟩⟩⟩⟩⟩⟩), List.forall_mem_cons.mpr ⟨(List.forall_mem_cons.mpr ⟨⟨_, rfl, Nat.le_of_ble_eq_true rfl, Or.inl (tb3 178 rfl rfl)⟩, List.forall_mem_cons.mpr ⟨trivial, List.forall_mem_cons.mpr ⟨trivial, List.forall_mem_cons.mpr ⟨trivial, List.forall_mem_cons.mpr ⟨trivial, List.forall_mem_cons.mpr ⟨rfl, List.forall_mem_cons.mpr ⟨trivial, List.forall_mem_cons.mpr ⟨trivial, List.forall_mem_cons.mpr ⟨trivial, List.forall_mem_cons.mpr ⟨trivial, fun _ h => absurd h List.not_mem_nil⟩⟩⟩⟩⟩⟩⟩⟩⟩⟩), List.forall_mem_cons.mpr ⟨(List.forall_mem_cons.mpr ⟨trivial, List.forall_mem_cons.mpr ⟨trivial, List.forall_mem_cons.mpr ⟨trivial, List.forall_mem_cons.mpr ⟨trivial, List.forall_mem_cons.mpr ⟨⟨_, rfl, Nat.le_of_ble_eq_true rfl, Or.inl (tb3 186 rfl rfl)⟩, List.forall_mem_cons.mpr ⟨trivial, List.forall_mem_cons.mpr ⟨trivial, List.forall_mem_cons.mpr ⟨⟨_, rfl, Nat.le_of_ble_eq_true rfl, Or.inl (tb3 178 rfl rfl)⟩, fun _ h => absurd h List.not_mem_nil⟩⟩⟩⟩⟩⟩⟩⟩), List.forall_mem_cons.mpr ⟨(List.forall_mem_cons.mpr ⟨trivial, List.forall_mem_cons.mpr ⟨trivial, List.forall_mem_cons.mpr ⟨trivial, List.forall_mem_cons.mpr ⟨trivial, List.forall_mem_cons.mpr ⟨trivial, List.forall_mem_cons.mpr ⟨trivial, List.forall_mem_cons.mpr ⟨trivial, List.forall_mem_cons.mpr ⟨trivial, List.forall_mem_cons.mpr ⟨trivial, List.forall_mem_cons.mpr ⟨trivial, fun _ h => absurd h List.not_mem_nil⟩⟩⟩⟩⟩⟩⟩⟩⟩⟩), List.forall_mem_cons.mpr ⟨(List.forall_mem_cons.mpr ⟨trivial, List.forall_mem_cons.mpr ⟨trivial, List.forall_mem_cons.mpr ⟨trivial, List.forall_mem_cons.mpr ⟨trivial, List.forall_mem_cons.mpr ⟨⟨_, rfl, Nat.le_of_ble_eq_true rfl, Or.inl (tb3 185 rfl rfl)⟩, List.forall_mem_cons.mpr ⟨trivial, List.forall_mem_cons.mpr ⟨trivial, List.forall_mem_cons.mpr ⟨trivial, List.forall_mem_cons.mpr ⟨trivial, fun _ h => absurd h List.not_mem_nil⟩⟩⟩⟩⟩⟩⟩⟩⟩), List.forall_mem_cons.mpr ⟨(List.forall_mem_cons.mpr ⟨trivial, List.forall_mem_cons.mpr ⟨trivial, List.forall_mem_cons.mpr ⟨trivial, List.forall_mem_cons.mpr ⟨trivial, List.forall_mem_cons.mpr ⟨trivial, List.forall_mem_cons.mpr ⟨rfl, List.forall_mem_cons.mpr ⟨trivial, List.forall_mem_cons.mpr ⟨trivial, fun _ h => absurd h List.not_mem_nil⟩⟩⟩⟩⟩⟩⟩⟩), List.forall_mem_cons.mpr ⟨(List.forall_mem_cons.mpr ⟨trivial, List.forall_mem_cons.mpr ⟨trivial, List.forall_mem_cons.mpr ⟨trivial, List.forall_mem_cons.mpr ⟨trivial, List.forall_mem_cons.mpr ⟨⟨_, rfl, Nat.le_of_ble_eq_true rfl, Or.inl (tb3 185 rfl rfl)⟩, List.forall_mem_cons.mpr ⟨trivial, List.forall_mem_cons.mpr ⟨trivial, List.forall_mem_cons.mpr ⟨trivial, fun _ h => absurd h List.not_mem_nil⟩⟩⟩⟩⟩⟩⟩⟩), List.forall_mem_cons.mpr ⟨(List.forall_mem_cons.mpr ⟨trivial, List.forall_mem_cons.mpr ⟨trivial, List.forall_mem_cons.mpr ⟨trivial, List.forall_mem_cons.mpr ⟨trivial, List.forall_mem_cons.mpr ⟨trivial, List.forall_mem_cons.mpr ⟨trivial, List.forall_mem_cons.mpr ⟨trivial, List.forall_mem_cons.mpr ⟨trivial, fun _ h => absurd h List.not_mem_nil⟩⟩⟩⟩⟩⟩⟩⟩), List.forall_mem_cons.mpr ⟨(List.forall_mem_cons.mpr ⟨trivial, List.forall_mem_cons.mpr ⟨trivial, List.forall_mem_cons.mpr ⟨trivial, List.forall_mem_cons.mpr ⟨trivial, List.forall_mem_cons.mpr ⟨trivial, List.forall_mem_cons.mpr ⟨⟨_, rfl, Nat.le_of_ble_eq_true rfl, Or.inl (tb3 185 rfl rfl)⟩, List.forall_mem_cons.mpr ⟨trivial, List.forall_mem_cons.mpr ⟨trivial, fun _ h => absurd h List.not_mem_nil⟩⟩⟩⟩⟩⟩⟩⟩), List.forall_mem_cons.mpr ⟨(List.forall_mem_cons.mpr ⟨trivial, List.forall_mem_cons.mpr ⟨trivial, List.forall_mem_cons.mpr ⟨trivial, List.forall_mem_cons.mpr ⟨trivial, List.forall_mem_cons.mpr ⟨trivial, List.forall_mem_cons.mpr ⟨trivial, List.forall_mem_cons.mpr ⟨trivial, List.forall_mem_cons.mpr ⟨trivial, fun _ h => absurd h List.not_mem_nil⟩⟩⟩⟩⟩⟩⟩⟩), List.forall_mem_cons.mpr ⟨(List.forall_mem_cons.mpr ⟨trivial, List.forall_mem_cons.mpr ⟨trivial, List.forall_mem_cons.mpr ⟨⟨_, rfl, Nat.le_of_ble_eq_true rfl, Or.inl (tb3 178 rfl rfl)⟩, List.forall_mem_cons.mpr ⟨trivial, List.forall_mem_cons.mpr ⟨trivial, List.forall_mem_cons.mpr ⟨trivial, List.forall_mem_cons.mpr ⟨trivial, List.forall_mem_cons.mpr ⟨trivial, fun _ h => absurd h List.not_mem_nil⟩⟩⟩⟩⟩⟩⟩⟩), List.forall_mem_cons.mpr ⟨(List.forall_mem_cons.mpr ⟨trivial, List.forall_mem_cons.mpr ⟨rfl, fun _ h => absurd h List.not_mem_nil⟩⟩), fun _ h => absurd h List.not_mem_nil⟩⟩⟩⟩⟩⟩⟩⟩⟩⟩⟩⟩, by decide +kernel, rfl⟩
set_option maxRecDepth 100000 in
theorem okQ_131 : sm_Q PZ PP 131 := ⟨by decide +kernel, show ∀ ch ∈ pc_131, ∀ q ∈ ch, sm_okL PZ PP 131 q.2.1 q.2.2.2.1 q.2.2.2.2.1 q.2.2.2.2.2 from List.forall_mem_cons.mpr ⟨(List.forall_mem_cons.mpr ⟨trivial, List.forall_mem_cons.mpr ⟨trivial, List.forall_mem_cons.mpr ⟨trivial, List.forall_mem_cons.mpr ⟨trivial, List.forall_mem_cons.mpr ⟨trivial, List.forall_mem_cons.mpr ⟨trivial, List.forall_mem_cons.mpr ⟨trivial, List.forall_mem_cons.mpr ⟨trivial, List.forall_mem_cons.mpr ⟨trivial, List.forall_mem_cons.mpr ⟨trivial, fun _ h => absurd h List.not_mem_nil⟩⟩⟩⟩⟩⟩⟩⟩⟩⟩), List.forall_mem_cons.mpr ⟨(List.forall_mem_cons.mpr ⟨trivial, List.forall_mem_cons.mpr ⟨trivial, List.forall_mem_cons.mpr ⟨trivial, List.forall_mem_cons.mpr ⟨trivial, List.forall_mem_cons.mpr ⟨trivial, List.forall_mem_cons.mpr ⟨trivial, List.forall_mem_cons.mpr ⟨trivial, List.forall_mem_cons.mpr ⟨trivial, List.forall_mem_cons.mpr ⟨trivial, List.forall_mem_cons.mpr ⟨trivial, List.forall_mem_cons.mpr ⟨trivial, fun _ h => absurd h List.not_mem_nil⟩⟩⟩⟩⟩⟩⟩⟩⟩⟩⟩), List.forall_mem_cons.mpr ⟨(List.forall_mem_cons.mpr ⟨trivial, List.forall_mem_cons.mpr ⟨trivial, List.forall_mem_cons.mpr ⟨trivial, List.forall_mem_cons.mpr ⟨trivial, List.forall_mem_cons.mpr ⟨trivial, List.forall_mem_cons.mpr ⟨trivial, List.forall_mem_cons.mpr ⟨trivial, fun _ h => absurd h List.not_mem_nil⟩⟩⟩⟩⟩⟩⟩), List.forall_mem_cons.mpr ⟨(List.forall_mem_cons.mpr ⟨trivial, List.forall_mem_cons.mpr ⟨trivial, List.forall_mem_cons.mpr ⟨trivial, List.forall_mem_cons.mpr ⟨trivial, List.forall_mem_cons.mpr ⟨trivial, List.forall_mem_cons.mpr ⟨trivial, List.forall_mem_cons.mpr ⟨trivial, fun _ h => absurd h List.not_mem_nil⟩⟩⟩⟩⟩⟩⟩), List.forall_mem_cons.mpr ⟨(List.forall_mem_cons.mpr ⟨trivial, List.forall_mem_cons.mpr ⟨trivial, List.forall_mem_cons.mpr ⟨trivial, List.forall_mem_cons.mpr ⟨trivial, List.forall_mem_cons.mpr ⟨trivial, List.forall_mem_cons.mpr ⟨trivial, List.forall_mem_cons.mpr ⟨trivial, fun _ h => absurd h List.not_mem_nil⟩⟩⟩⟩⟩⟩⟩), List.forall_mem_cons.mpr ⟨(List.forall_mem_cons.mpr ⟨trivial, List.forall_mem_cons.mpr ⟨trivial, List.forall_mem_cons.mpr ⟨rfl, fun _ h => absurd h List.not_mem_nil⟩⟩⟩), fun _ h => absurd h List.not_mem_nil⟩⟩⟩⟩⟩⟩, by decide +kernel, rfl⟩
set_option maxRecDepth 100000 in
theorem okQ_132 : sm_Q PZ PP 132 := ⟨by decide +kernel, show ∀ ch ∈ pc_132, ∀ q ∈ ch, sm_okL PZ PP 132 q.2.1 q.2.2.2.1 q.2.2.2.2.1 q.2.2.2.2.2 from List.forall_mem_cons.mpr ⟨(List.forall_mem_cons.mpr ⟨trivial, List.forall_mem_cons.mpr ⟨trivial, List.forall_mem_cons.mpr ⟨⟨⟨okm_118.1, okm_118.2.1, okm_118.2.2.1, okm_118.2.2.2, Nat.le_of_ble_eq_true rfl, Nat.le_of_ble_eq_true rfl, Or.inl (tb4 41 rfl rfl)⟩, Nat.le_of_ble_eq_true rfl, oks_118⟩, List.forall_mem_cons.mpr ⟨trivial, List.forall_mem_cons.mpr ⟨trivial, List.forall_mem_cons.mpr ⟨trivial, List.forall_mem_cons.mpr ⟨trivial, List.forall_mem_cons.mpr ⟨trivial, List.forall_mem_cons.mpr ⟨trivial, fun _ h => absurd h List.not_mem_nil⟩⟩⟩⟩⟩⟩⟩⟩⟩), List.forall_mem_cons.mpr ⟨(List.forall_mem_cons.mpr ⟨trivial, List.forall_mem_cons.mpr ⟨trivial, List.forall_mem_cons.mpr ⟨trivial, List.forall_mem_cons.mpr ⟨trivial, List.forall_mem_cons.mpr ⟨trivial, List.forall_mem_cons.mpr ⟨trivial, List.forall_mem_cons.mpr ⟨trivial, List.forall_mem_cons.mpr ⟨trivial, List.forall_mem_cons.mpr ⟨trivial, fun _ h => absurd h List.not_mem_nil⟩⟩⟩⟩⟩⟩⟩⟩⟩), List.forall_mem_cons.mpr ⟨(List.forall_mem_cons.mpr ⟨⟨_, rfl, Nat.le_of_ble_eq_true rfl, Or.inl (tb3 178 rfl rfl)⟩, List.forall_mem_cons.mpr ⟨trivial, List.forall_mem_cons.mpr ⟨trivial, List.forall_mem_cons.mpr ⟨trivial, List.forall_mem_cons.mpr ⟨trivial, List.forall_mem_cons.mpr ⟨rfl, List.forall_mem_cons.mpr ⟨trivial, List.forall_mem_cons.mpr ⟨trivial, List.forall_mem_cons.mpr ⟨trivial, List.forall_mem_cons.mpr ⟨trivial, fun _ h => absurd h List.not_mem_nil⟩⟩⟩⟩⟩⟩⟩⟩⟩⟩), List.forall_mem_cons.mpr ⟨(List.forall_mem_cons.mpr ⟨trivial, List.forall_mem_cons.mpr ⟨trivial, List.forall_mem_cons.mpr ⟨trivial, List.forall_mem_cons.mpr ⟨trivial, List.forall_mem_cons.mpr ⟨trivial, List.forall_mem_cons.mpr ⟨trivial, List.forall_mem_cons.mpr ⟨trivial, List.forall_mem_cons.mpr ⟨trivial, fun _ h => absurd h List.not_mem_nil⟩⟩⟩⟩⟩⟩⟩⟩), List.forall_mem_cons.mpr ⟨(List.forall_mem_cons.mpr ⟨trivial, List.forall_mem_cons.mpr ⟨⟨_, rfl, Nat.le_of_ble_eq_true rfl, Or.inl (tb3 178 rfl rfl)⟩, List.forall_mem_cons.mpr ⟨trivial, List.forall_mem_cons.mpr ⟨trivial, List.forall_mem_cons.mpr ⟨trivial, List.forall_mem_cons.mpr ⟨trivial, List.forall_mem_cons.mpr ⟨trivial, List.forall_mem_cons.mpr ⟨trivial, List.forall_mem_cons.mpr ⟨trivial, fun _ h => absurd h List.not_mem_nil⟩⟩⟩⟩⟩⟩⟩⟩⟩), List.forall_mem_cons.mpr ⟨(List.forall_mem_cons.mpr ⟨trivial, List.forall_mem_cons.mpr ⟨trivial, List.forall_mem_cons.mpr ⟨trivial, List.forall_mem_cons.mpr ⟨trivial, List.forall_mem_cons.mpr ⟨trivial, List.forall_mem_cons.mpr ⟨trivial, List.forall_mem_cons.mpr ⟨trivial, List.forall_mem_cons.mpr ⟨trivial, List.forall_mem_cons.mpr ⟨trivial, fun _ h => absurd h List.not_mem_nil⟩⟩⟩⟩⟩⟩⟩⟩⟩), List.forall_mem_cons.mpr ⟨(List.forall_mem_cons.mpr ⟨trivial, List.forall_mem_cons.mpr ⟨trivial, List.forall_mem_cons.mpr ⟨trivial, List.forall_mem_cons.mpr ⟨trivial, List.forall_mem_cons.mpr ⟨trivial, List.forall_mem_cons.mpr ⟨⟨⟨okm_131.1, okm_131.2.1, okm_131.2.2.1, okm_131.2.2.2, Nat.le_of_ble_eq_true rfl, Nat.le_of_ble_eq_true rfl, Or.inl (tb4 126 rfl rfl)⟩, Nat.le_of_ble_eq_true rfl, oks_131⟩, List.forall_mem_cons.mpr ⟨trivial, fun _ h => absurd h List.not_mem_nil⟩⟩⟩⟩⟩⟩⟩), List.forall_mem_cons.mpr ⟨(List.forall_mem_cons.mpr ⟨trivial, List.forall_mem_cons.mpr ⟨rfl, List.forall_mem_cons.mpr ⟨trivial, List.forall_mem_cons.mpr ⟨trivial, List.forall_mem_cons.mpr ⟨trivial, List.forall_mem_cons.mpr ⟨trivial, List.forall_mem_cons.mpr ⟨trivial, List.forall_mem_cons.mpr ⟨trivial, fun _ h => absurd h List.not_mem_nil⟩⟩⟩⟩⟩⟩⟩⟩), List.forall_mem_cons.mpr ⟨(List.forall_mem_cons.mpr ⟨trivial, List.forall_mem_cons.mpr ⟨trivial, List.forall_mem_cons.mpr ⟨trivial, List.forall_mem_cons.mpr ⟨trivial, List.forall_mem_cons.mpr ⟨trivial, List.forall_mem_cons.mpr ⟨trivial, List.forall_mem_cons.mpr ⟨trivial, List.forall_mem_cons.mpr ⟨trivial, fun _ h => absurd h List.not_mem_nil⟩⟩⟩⟩⟩⟩⟩⟩), List.forall_mem_cons.mpr ⟨(List.forall_mem_cons.mpr ⟨trivial, List.forall_mem_cons.mpr ⟨trivial, List.forall_mem_cons.mpr ⟨trivial, List.forall_mem_cons.mpr ⟨trivial, List.forall_mem_cons.mpr ⟨trivial, List.forall_mem_cons.mpr ⟨rfl, fun _ h => absurd h List.not_mem_nil⟩⟩⟩⟩⟩⟩), fun _ h => absurd h List.not_mem_nil⟩⟩⟩⟩⟩⟩⟩⟩⟩⟩, by decide +kernel, rfl⟩
set_option maxRecDepth 100000 in
theorem okQ_133 : sm_Q PZ PP 133 := ⟨by decide +kernel, show ∀ ch ∈ pc_133, ∀ q ∈ ch, sm_okL PZ PP 133 q.2.1 q.2.2.2.1 q.2.2.2.2.1 q.2.2.2.2.2 from List.forall_mem_cons.mpr ⟨(List.forall_mem_cons.mpr ⟨trivial, List.forall_mem_cons.mpr ⟨trivial, List.forall_mem_cons.mpr ⟨trivial, List.forall_mem_cons.mpr ⟨trivial, List.forall_mem_cons.mpr ⟨trivial, List.forall_mem_cons.mpr ⟨trivial, List.forall_mem_cons.mpr ⟨trivial, List.forall_mem_cons.mpr ⟨trivial, List.forall_mem_cons.mpr ⟨trivial, List.forall_mem_cons.mpr ⟨trivial, fun _ h => absurd h List.not_mem_nil⟩⟩⟩⟩⟩⟩⟩⟩⟩⟩), List.forall_mem_cons.mpr ⟨(List.forall_mem_cons.mpr ⟨trivial, List.forall_mem_cons.mpr ⟨trivial, List.forall_mem_cons.mpr ⟨trivial, List.forall_mem_cons.mpr ⟨⟨⟨okm_130.1, okm_130.2.1, okm_130.2.2.1, okm_130.2.2.2, Nat.le_of_ble_eq_true rfl, Nat.le_of_ble_eq_true rfl, Or.inl (tb4 76 rfl rfl)⟩, Nat.le_of_ble_eq_true rfl, oki_130, okv_130, ⟨_, rfl, rfl⟩⟩, List.forall_mem_cons.mpr ⟨trivial, List.forall_mem_cons.mpr ⟨trivial, List.forall_mem_cons.mpr ⟨trivial, List.forall_mem_cons.mpr ⟨trivial, fun _ h => absurd h List.not_mem_nil⟩⟩⟩⟩⟩⟩⟩⟩), List.forall_mem_cons.mpr ⟨(List.forall_mem_cons.mpr ⟨⟨⟨okm_132.1, okm_132.2.1, okm_132.2.2.1, okm_132.2.2.2, Nat.le_of_ble_eq_true rfl, Nat.le_of_ble_eq_true rfl, Or.inl (tb4 122 rfl rfl)⟩, Nat.le_of_ble_eq_true rfl, oki_132, okv_132, ⟨_, rfl, rfl⟩⟩, List.forall_mem_cons.mpr ⟨trivial, List.forall_mem_cons.mpr ⟨trivial, List.forall_mem_cons.mpr ⟨trivial, List.forall_mem_cons.mpr ⟨trivial, List.forall_mem_cons.mpr ⟨trivial, List.forall_mem_cons.mpr ⟨trivial, List.forall_mem_cons.mpr ⟨trivial, List.forall_mem_cons.mpr ⟨trivial, fun _ h => absurd h List.not_mem_nil⟩⟩⟩⟩⟩⟩⟩⟩⟩), List.forall_mem_cons.mpr ⟨(List.forall_mem_cons.mpr ⟨trivial, List.forall_mem_cons.mpr ⟨trivial, List.forall_mem_cons.mpr ⟨rfl, fun _ h => absurd h List.not_mem_nil⟩⟩⟩), fun _ h => absurd h List.not_mem_nil⟩⟩⟩⟩, by decide +kernel, rfl⟩
set_option maxRecDepth 100000 in
theorem okQ_134 : sm_Q PZ PP 134 := ⟨by decide +kernel, show ∀ ch ∈ pc_134, ∀ q ∈ ch, sm_okL PZ PP 134 q.2.1 q.2.2.2.1 q.2.2.2.2.1 q.2.2.2.2.2 from List.forall_mem_cons.mpr ⟨(List.forall_mem_cons.mpr ⟨trivial, List.forall_mem_cons.mpr ⟨trivial, List.forall_mem_cons.mpr ⟨trivial, List.forall_mem_cons.mpr ⟨trivial, List.forall_mem_cons.mpr ⟨trivial, List.forall_mem_cons.mpr ⟨trivial, List.forall_mem_cons.mpr ⟨trivial, List.forall_mem_cons.mpr ⟨trivial, List.forall_mem_cons.mpr ⟨trivial, List.forall_mem_cons.mpr ⟨trivial, List.forall_mem_cons.mpr ⟨⟨⟨okm_132.1, okm_132.2.1, okm_132.2.2.1, okm_132.2.2.2, Nat.le_of_ble_eq_true rfl, Nat.le_of_ble_eq_true rfl, Or.inl (tb4 122 rfl rfl)⟩, Nat.le_of_ble_eq_true rfl, oki_132, okv_132, ⟨_, rfl, rfl⟩⟩, fun _ h => absurd h List.not_mem_nil⟩⟩⟩⟩⟩⟩⟩⟩⟩⟩⟩), List.forall_mem_cons.mpr ⟨(List.forall_mem_cons.mpr ⟨trivial, List.forall_mem_cons.mpr ⟨trivial, List.forall_mem_cons.mpr ⟨trivial, List.forall_mem_cons.mpr ⟨trivial, List.forall_mem_cons.mpr ⟨trivial, List.forall_mem_cons.mpr ⟨trivial, List.forall_mem_cons.mpr ⟨trivial, fun _ h => absurd h List.not_mem_nil⟩⟩⟩⟩⟩⟩⟩), List.forall_mem_cons.mpr ⟨(List.forall_mem_cons.mpr ⟨trivial, List.forall_mem_cons.mpr ⟨trivial, List.forall_mem_cons.mpr ⟨⟨⟨okm_130.1, okm_130.2.1, okm_130.2.2.1, okm_130.2.2.2, Nat.le_of_ble_eq_true rfl, Nat.le_of_ble_eq_true rfl, Or.inl (tb4 76 rfl rfl)⟩, Nat.le_of_ble_eq_true rfl, oki_130, okv_130, ⟨_, rfl, rfl⟩⟩, List.forall_mem_cons.mpr ⟨trivial, List.forall_mem_cons.mpr ⟨trivial, List.forall_mem_cons.mpr ⟨trivial, List.forall_mem_cons.mpr ⟨trivial, List.forall_mem_cons.mpr ⟨trivial, List.forall_mem_cons.mpr ⟨⟨_, rfl, Nat.le_of_ble_eq_true rfl, Or.inl (tb3 187 rfl rfl)⟩, fun _ h => absurd h List.not_mem_nil⟩⟩⟩⟩⟩⟩⟩⟩⟩), List.forall_mem_cons.mpr ⟨(List.forall_mem_cons.mpr ⟨trivial, List.forall_mem_cons.mpr ⟨trivial, List.forall_mem_cons.mpr ⟨trivial, List.forall_mem_cons.mpr ⟨trivial, List.forall_mem_cons.mpr ⟨trivial, List.forall_mem_cons.mpr ⟨trivial, List.forall_mem_cons.mpr ⟨trivial, List.forall_mem_cons.mpr ⟨trivial, List.forall_mem_cons.mpr ⟨⟨_, rfl, Nat.le_of_ble_eq_true rfl, Or.inl (tb3 188 rfl rfl)⟩, List.forall_mem_cons.mpr ⟨trivial, fun _ h => absurd h List.not_mem_nil⟩⟩⟩⟩⟩⟩⟩⟩⟩⟩), List.forall_mem_cons.mpr ⟨(List.forall_mem_cons.mpr ⟨trivial, List.forall_mem_cons.mpr ⟨trivial, List.forall_mem_cons.mpr ⟨trivial, List.forall_mem_cons.mpr ⟨trivial, List.forall_mem_cons.mpr ⟨trivial, List.forall_mem_cons.mpr ⟨trivial, List.forall_mem_cons.mpr ⟨trivial, List.forall_mem_cons.mpr ⟨trivial, List.forall_mem_cons.mpr ⟨trivial, List.forall_mem_cons.mpr ⟨trivial, fun _ h => absurd h List.not_mem_nil⟩⟩⟩⟩⟩⟩⟩⟩⟩⟩), List.forall_mem_cons.mpr ⟨(List.forall_mem_cons.mpr ⟨trivial, List.forall_mem_cons.mpr ⟨trivial, List.forall_mem_cons.mpr ⟨⟨_, rfl, Nat.le_of_ble_eq_true rfl, Or.inl (tb3 189 rfl rfl)⟩, List.forall_mem_cons.mpr ⟨trivial, List.forall_mem_cons.mpr ⟨trivial, List.forall_mem_cons.mpr ⟨trivial, List.forall_mem_cons.mpr ⟨rfl, fun _ h => absurd h List.not_mem_nil⟩⟩⟩⟩⟩⟩⟩), fun _ h => absurd h List.not_mem_nil⟩⟩⟩⟩⟩⟩, by decide +kernel, rfl⟩
set_option maxRecDepth 100000 in
theorem okQ_135 : sm_Q PZ PP 135 := ⟨by decide +kernel, show ∀ ch ∈ pc_135, ∀ q ∈ ch, sm_okL PZ PP 135 q.2.1 q.2.2.2.1 q.2.2.2.2.1 q.2.2.2.2.2 from List.forall_mem_cons.mpr ⟨(List.forall_mem_cons.mpr ⟨trivial, List.forall_mem_cons.mpr ⟨trivial, List.forall_mem_cons.mpr ⟨⟨⟨okm_116.1, okm_116.2.1, okm_116.2.2.1, okm_116.2.2.2, Nat.le_of_ble_eq_true rfl, Nat.le_of_ble_eq_true rfl, Or.inl (tb4 29 rfl rfl)⟩, Nat.le_of_ble_eq_true rfl, oki_116, okv_116, ⟨_, rfl, rfl⟩⟩, List.forall_mem_cons.mpr ⟨trivial, List.forall_mem_cons.mpr ⟨trivial, List.forall_mem_cons.mpr ⟨trivial, List.forall_mem_cons.mpr ⟨trivial, List.forall_mem_cons.mpr ⟨⟨⟨okm_107.1, okm_107.2.1, okm_107.2.2.1, okm_107.2.2.2, Nat.le_of_ble_eq_true rfl, Nat.le_of_ble_eq_true rfl, Or.inl (tb3 237 rfl rfl)⟩, Nat.le_of_ble_eq_true rfl, oks_107⟩, List.forall_mem_cons.mpr ⟨trivial, fun _ h => absurd h List.not_mem_nil⟩⟩⟩⟩⟩⟩⟩⟩⟩), List.forall_mem_cons.mpr ⟨(List.forall_mem_cons.mpr ⟨trivial, List.forall_mem_cons.mpr ⟨rfl, List.forall_mem_cons.mpr ⟨trivial, List.forall_mem_cons.mpr ⟨trivial, List.forall_mem_cons.mpr ⟨trivial, List.forall_mem_cons.mpr ⟨trivial, List.forall_mem_cons.mpr ⟨⟨_, rfl, Nat.le_of_ble_eq_true rfl, Or.inl (tb3 178 rfl rfl)⟩, List.forall_mem_cons.mpr ⟨trivial, List.forall_mem_cons.mpr ⟨trivial, List.forall_mem_cons.mpr ⟨⟨⟨okm_118.1, okm_118.2.1, okm_118.2.2.1, okm_118.2.2.2, Nat.le_of_ble_eq_true rfl, Nat.le_of_ble_eq_true rfl, Or.inl (tb4 41 rfl rfl)⟩, Nat.le_of_ble_eq_true rfl, oks_118⟩, fun _ h => absurd h List.not_mem_nil⟩⟩⟩⟩⟩⟩⟩⟩⟩⟩), List.forall_mem_cons.mpr ⟨(List.forall_mem_cons.mpr ⟨trivial, List.forall_mem_cons.mpr ⟨rfl, List.forall_mem_cons.mpr ⟨trivial, List.forall_mem_cons.mpr ⟨trivial, List.forall_mem_cons.mpr ⟨trivial, List.forall_mem_cons.mpr ⟨trivial, List.forall_mem_cons.mpr ⟨trivial, List.forall_mem_cons.mpr ⟨⟨⟨okm_121.1, okm_121.2.1, okm_121.2.2.1, okm_121.2.2.2, Nat.le_of_ble_eq_true rfl, Nat.le_of_ble_eq_true rfl, Or.inl (tb4 48 rfl rfl)⟩, Nat.le_of_ble_eq_true rfl, oki_121, okv_121, ⟨_, rfl, rfl⟩⟩, List.forall_mem_cons.mpr ⟨rfl, List.forall_mem_cons.mpr ⟨trivial, List.forall_mem_cons.mpr ⟨trivial, fun _ h => absurd h List.not_mem_nil⟩⟩⟩⟩⟩⟩⟩⟩⟩⟩⟩), List.forall_mem_cons.mpr ⟨(List.forall_mem_cons.mpr ⟨trivial, List.forall_mem_cons.mpr ⟨trivial, List.forall_mem_cons.mpr ⟨trivial, List.forall_mem_cons.mpr ⟨trivial, List.forall_mem_cons.mpr ⟨trivial, List.forall_mem_cons.mpr ⟨trivial, List.forall_mem_cons.mpr ⟨⟨⟨okm_133.1, okm_133.2.1, okm_133.2.2.1, okm_133.2.2.2, Nat.le_of_ble_eq_true rfl, Nat.le_of_ble_eq_true rfl, Or.inl (tb4 72 rfl rfl)⟩, Nat.le_of_ble_eq_true rfl, oki_133, okv_133, ⟨_, rfl, rfl⟩⟩, List.forall_mem_cons.mpr ⟨rfl, List.forall_mem_cons.mpr ⟨trivial, List.forall_mem_cons.mpr ⟨trivial, List.forall_mem_cons.mpr ⟨⟨⟨okm_134.1, okm_134.2.1, okm_134.2.2.1, okm_134.2.2.2, Nat.le_of_ble_eq_true rfl, Nat.le_of_ble_eq_true rfl, Or.inl (tb4 129 rfl rfl)⟩, Nat.le_of_ble_eq_true rfl, oki_134, okv_134, ⟨_, rfl, rfl⟩⟩, fun _ h => absurd h List.not_mem_nil⟩⟩⟩⟩⟩⟩⟩⟩⟩⟩⟩), List.forall_mem_cons.mpr ⟨(List.forall_mem_cons.mpr ⟨trivial, List.forall_mem_cons.mpr ⟨⟨_, rfl, Nat.le_of_ble_eq_true rfl, Or.inl (tb3 189 rfl rfl)⟩, List.forall_mem_cons.mpr ⟨trivial, List.forall_mem_cons.mpr ⟨trivial, List.forall_mem_cons.mpr ⟨rfl, fun _ h => absurd h List.not_mem_nil⟩⟩⟩⟩⟩), fun _ h => absurd h List.not_mem_nil⟩⟩⟩⟩⟩, by decide +kernel, rfl⟩
set_option maxRecDepth 100000 in
theorem okQ_136 : sm_Q PZ PP 136 := ⟨by decide +kernel, show ∀ ch ∈ pc_136, ∀ q ∈ ch, sm_okL PZ PP 136 q.2.1 q.2.2.2.1 q.2.2.2.2.1 q.2.2.2.2.2 from List.forall_mem_cons.mpr ⟨(List.forall_mem_cons.mpr ⟨trivial, List.forall_mem_cons.mpr ⟨trivial, List.forall_mem_cons.mpr ⟨trivial, List.forall_mem_cons.mpr ⟨trivial, List.forall_mem_cons.mpr ⟨⟨⟨okm_119.1, okm_119.2.1, okm_119.2.2.1, okm_119.2.2.2, Nat.le_of_ble_eq_true rfl, Nat.le_of_ble_eq_true rfl, Or.inl (tb4 37 rfl rfl)⟩, Nat.le_of_ble_eq_true rfl, oki_119, okv_119, ⟨_, rfl, rfl⟩⟩, List.forall_mem_cons.mpr ⟨trivial, List.forall_mem_cons.mpr ⟨trivial, List.forall_mem_cons.mpr ⟨⟨_, rfl, Nat.le_of_ble_eq_true rfl, Or.inl (tb3 178 rfl rfl)⟩, List.forall_mem_cons.mpr ⟨trivial, List.forall_mem_cons.mpr ⟨trivial, fun _ h => absurd h List.not_mem_nil⟩⟩⟩⟩⟩⟩⟩⟩⟩⟩), List.forall_mem_cons.mpr ⟨(List.forall_mem_cons.mpr ⟨⟨⟨okm_118.1, okm_118.2.1, okm_118.2.2.1, okm_118.2.2.2, Nat.le_of_ble_eq_true rfl, Nat.le_of_ble_eq_true rfl, Or.inl (tb4 41 rfl rfl)⟩, Nat.le_of_ble_eq_true rfl, oks_118⟩, List.forall_mem_cons.mpr ⟨trivial, List.forall_mem_cons.mpr ⟨trivial, List.forall_mem_cons.mpr ⟨trivial, List.forall_mem_cons.mpr ⟨trivial, List.forall_mem_cons.mpr ⟨trivial, List.forall_mem_cons.mpr ⟨trivial, List.forall_mem_cons.mpr ⟨trivial, List.forall_mem_cons.mpr ⟨rfl, fun _ h => absurd h List.not_mem_nil⟩⟩⟩⟩⟩⟩⟩⟩⟩), fun _ h => absurd h List.not_mem_nil⟩⟩, by decide +kernel, rfl⟩
set_option maxRecDepth 100000 in
theorem okQ_137 : sm_Q PZ PP 137 := ⟨by decide +kernel, show ∀ ch ∈ pc_137, ∀ q ∈ ch, sm_okL PZ PP 137 q.2.1 q.2.2.2.1 q.2.2.2.2.1 q.2.2.2.2.2 from List.forall_mem_cons.mpr ⟨(List.forall_mem_cons.mpr ⟨trivial, List.forall_mem_cons.mpr ⟨trivial, List.forall_mem_cons.mpr ⟨⟨⟨okm_116.1, okm_116.2.1, okm_116.2.2.1, okm_116.2.2.2, Nat.le_of_ble_eq_true rfl, Nat.le_of_ble_eq_true rfl, Or.inl (tb4 29 rfl rfl)⟩, Nat.le_of_ble_eq_true rfl, oki_116, okv_116, ⟨_, rfl, rfl⟩⟩, List.forall_mem_cons.mpr ⟨trivial, List.forall_mem_cons.mpr ⟨trivial, List.forall_mem_cons.mpr ⟨trivial, List.forall_mem_cons.mpr ⟨trivial, List.forall_mem_cons.mpr ⟨⟨⟨okm_107.1, okm_107.2.1, okm_107.2.2.1, okm_107.2.2.2, Nat.le_of_ble_eq_true rfl, Nat.le_of_ble_eq_true rfl, Or.inl (tb3 237 rfl rfl)⟩, Nat.le_of_ble_eq_true rfl, oks_107⟩, fun _ h => absurd h List.not_mem_nil⟩⟩⟩⟩⟩⟩⟩⟩), List.forall_mem_cons.mpr ⟨(List.forall_mem_cons.mpr ⟨trivial, List.forall_mem_cons.mpr ⟨trivial, List.forall_mem_cons.mpr ⟨trivial, List.forall_mem_cons.mpr ⟨trivial, List.forall_mem_cons.mpr ⟨⟨⟨okm_107.1, okm_107.2.1, okm_107.2.2.1, okm_107.2.2.2, Nat.le_of_ble_eq_true rfl, Nat.le_of_ble_eq_true rfl, Or.inl (tb3 237 rfl rfl)⟩, Nat.le_of_ble_eq_true rfl, oks_107⟩, List.forall_mem_cons.mpr ⟨trivial, List.forall_mem_cons.mpr ⟨trivial, List.forall_mem_cons.mpr ⟨rfl, List.forall_mem_cons.mpr ⟨trivial, List.forall_mem_cons.mpr ⟨trivial, fun _ h => absurd h List.not_mem_nil⟩⟩⟩⟩⟩⟩⟩⟩⟩⟩), List.forall_mem_cons.mpr ⟨(List.forall_mem_cons.mpr ⟨trivial, List.forall_mem_cons.mpr ⟨trivial, List.forall_mem_cons.mpr ⟨trivial, List.forall_mem_cons.mpr ⟨⟨⟨okm_130.1, okm_130.2.1, okm_130.2.2.1, okm_130.2.2.2, Nat.le_of_ble_eq_true rfl, Nat.le_of_ble_eq_true rfl, Or.inl (tb4 76 rfl rfl)⟩, Nat.le_of_ble_eq_true rfl, oki_130, okv_130, ⟨_, rfl, rfl⟩⟩, List.forall_mem_cons.mpr ⟨trivial, List.forall_mem_cons.mpr ⟨trivial, List.forall_mem_cons.mpr ⟨trivial, List.forall_mem_cons.mpr ⟨trivial, List.forall_mem_cons.mpr ⟨⟨⟨okm_132.1, okm_132.2.1, okm_132.2.2.1, okm_132.2.2.2, Nat.le_of_ble_eq_true rfl, Nat.le_of_ble_eq_true rfl, Or.inl (tb4 122 rfl rfl)⟩, Nat.le_of_ble_eq_true rfl, oki_132, okv_132, ⟨_, rfl, rfl⟩⟩, fun _ h => absurd h List.not_mem_nil⟩⟩⟩⟩⟩⟩⟩⟩⟩), List.forall_mem_cons.mpr ⟨(List.forall_mem_cons.mpr ⟨rfl, fun _ h => absurd h List.not_mem_nil⟩), fun _ h => absurd h List.not_mem_nil⟩⟩⟩⟩, by decide +kernel, rfl⟩
set_option maxRecDepth 100000 in
theorem okQ_138 : sm_Q PZ PP 138 := ⟨by decide +kernel, show ∀ ch ∈ pc_138, ∀ q ∈ ch, sm_okL PZ PP 138 q.2.1 q.2.2.2.1 q.2.2.2.2.1 q.2.2.2.2.2 from List.forall_mem_cons.mpr ⟨(List.forall_mem_cons.mpr ⟨trivial, List.forall_mem_cons.mpr ⟨trivial, List.forall_mem_cons.mpr ⟨⟨⟨okm_116.1, okm_116.2.1, okm_116.2.2.1, okm_116.2.2.2, Nat.le_of_ble_eq_true rfl, Nat.le_of_ble_eq_true rfl, Or.inl (tb4 29 rfl rfl)⟩, Nat.le_of_ble_eq_true rfl, oki_116, okv_116, ⟨_, rfl, rfl⟩⟩, List.forall_mem_cons.mpr ⟨trivial, List.forall_mem_cons.mpr ⟨trivial, List.forall_mem_cons.mpr ⟨trivial, List.forall_mem_cons.mpr ⟨trivial, List.forall_mem_cons.mpr ⟨trivial, List.forall_mem_cons.mpr ⟨trivial, List.forall_mem_cons.mpr ⟨⟨⟨okm_107.1, okm_107.2.1, okm_107.2.2.1, okm_107.2.2.2, Nat.le_of_ble_eq_true rfl, Nat.le_of_ble_eq_true rfl, Or.inl (tb3 237 rfl rfl)⟩, Nat.le_of_ble_eq_true rfl, oks_107⟩, fun _ h => absurd h List.not_mem_nil⟩⟩⟩⟩⟩⟩⟩⟩⟩⟩), List.forall_mem_cons.mpr ⟨(List.forall_mem_cons.mpr ⟨trivial, List.forall_mem_cons.mpr ⟨trivial, List.forall_mem_cons.mpr ⟨rfl, List.forall_mem_cons.mpr ⟨trivial, List.forall_mem_cons.mpr ⟨trivial, List.forall_mem_cons.mpr ⟨⟨⟨okm_134.1, okm_134.2.1, okm_134.2.2.1, okm_134.2.2.2, Nat.le_of_ble_eq_true rfl, Nat.le_of_ble_eq_true rfl, Or.inl (tb4 129 rfl rfl)⟩, Nat.le_of_ble_eq_true rfl, oki_134, okv_134, ⟨_, rfl, rfl⟩⟩, List.forall_mem_cons.mpr ⟨trivial, List.forall_mem_cons.mpr ⟨trivial, fun _ h => absurd h List.not_mem_nil⟩⟩⟩⟩⟩⟩⟩⟩), List.forall_mem_cons.mpr ⟨(List.forall_mem_cons.mpr ⟨trivial, List.forall_mem_cons.mpr ⟨trivial, List.forall_mem_cons.mpr ⟨trivial, List.forall_mem_cons.mpr ⟨trivial, List.forall_mem_cons.mpr ⟨trivial, List.forall_mem_cons.mpr ⟨trivial, List.forall_mem_cons.mpr ⟨trivial, List.forall_mem_cons.mpr ⟨⟨_, rfl, Nat.le_of_ble_eq_true rfl, Or.inl (tb3 189 rfl rfl)⟩, List.forall_mem_cons.mpr ⟨trivial, fun _ h => absurd h List.not_mem_nil⟩⟩⟩⟩⟩⟩⟩⟩⟩), List.forall_mem_cons.mpr ⟨(List.forall_mem_cons.mpr ⟨trivial, List.forall_mem_cons.mpr ⟨trivial, List.forall_mem_cons.mpr ⟨trivial, List.forall_mem_cons.mpr ⟨trivial, List.forall_mem_cons.mpr ⟨trivial, List.forall_mem_cons.mpr ⟨trivial, List.forall_mem_cons.mpr ⟨trivial, List.forall_mem_cons.mpr ⟨trivial, List.forall_mem_cons.mpr ⟨trivial, fun _ h => absurd h List.not_mem_nil⟩⟩⟩⟩⟩⟩⟩⟩⟩), List.forall_mem_cons.mpr ⟨(List.forall_mem_cons.mpr ⟨trivial, List.forall_mem_cons.mpr ⟨⟨_, rfl, Nat.le_of_ble_eq_true rfl, Or.inl (tb3 189 rfl rfl)⟩, List.forall_mem_cons.mpr ⟨trivial, List.forall_mem_cons.mpr ⟨trivial, List.forall_mem_cons.mpr ⟨trivial, List.forall_mem_cons.mpr ⟨trivial, List.forall_mem_cons.mpr ⟨trivial, List.forall_mem_cons.mpr ⟨trivial, List.forall_mem_cons.mpr ⟨⟨_, rfl, Nat.le_of_ble_eq_true rfl, Or.inl (tb3 188 rfl rfl)⟩, fun _ h => absurd h List.not_mem_nil⟩⟩⟩⟩⟩⟩⟩⟩⟩), List.forall_mem_cons.mpr ⟨(List.forall_mem_cons.mpr ⟨trivial, List.forall_mem_cons.mpr ⟨trivial, List.forall_mem_cons.mpr ⟨trivial, List.forall_mem_cons.mpr ⟨⟨_, rfl, Nat.le_of_ble_eq_true rfl, Or.inl (tb3 188 rfl rfl)⟩, List.forall_mem_cons.mpr ⟨trivial, List.forall_mem_cons.mpr ⟨trivial, List.forall_mem_cons.mpr ⟨trivial, List.forall_mem_cons.mpr ⟨trivial, List.forall_mem_cons.mpr ⟨⟨_, rfl, Nat.le_of_ble_eq_true rfl, Or.inl (tb3 188 rfl rfl)⟩, fun _ h => absurd h List.not_mem_nil⟩⟩⟩⟩⟩⟩⟩⟩⟩), List.forall_mem_cons.mpr ⟨(List.forall_mem_cons.mpr ⟨trivial, List.forall_mem_cons.mpr ⟨trivial, List.forall_mem_cons.mpr ⟨trivial, List.forall_mem_cons.mpr ⟨⟨_, rfl, Nat.le_of_ble_eq_true rfl, Or.inl (tb3 188 rfl rfl)⟩, List.forall_mem_cons.mpr ⟨trivial, List.forall_mem_cons.mpr ⟨trivial, List.forall_mem_cons.mpr ⟨trivial, List.forall_mem_cons.mpr ⟨trivial, fun _ h => absurd h List.not_mem_nil⟩⟩⟩⟩⟩⟩⟩⟩), List.forall_mem_cons.mpr ⟨(List.forall_mem_cons.mpr ⟨trivial, List.forall_mem_cons.mpr ⟨trivial, List.forall_mem_cons.mpr ⟨trivial, List.forall_mem_cons.mpr ⟨trivial, List.forall_mem_cons.mpr ⟨trivial, List.forall_mem_cons.mpr ⟨trivial, List.forall_mem_cons.mpr ⟨trivial, List.forall_mem_cons.mpr ⟨trivial, fun _ h => absurd h List.not_mem_nil⟩⟩⟩⟩⟩⟩⟩⟩), List.forall_mem_cons.mpr ⟨(List.forall_mem_cons.mpr ⟨trivial, List.forall_mem_cons.mpr ⟨trivial, List.forall_mem_cons.mpr ⟨trivial, List.forall_mem_cons.mpr ⟨trivial, List.forall_mem_cons.mpr ⟨trivial, List.forall_mem_cons.mpr ⟨trivial, List.forall_mem_cons.mpr ⟨trivial, List.forall_mem_cons.mpr ⟨⟨_, rfl, Nat.le_of_ble_eq_true rfl, Or.inl (tb3 187 rfl rfl)⟩, fun _ h => absurd h List.not_mem_nil⟩⟩⟩⟩⟩⟩⟩⟩), List.forall_mem_cons.mpr ⟨(List.forall_mem_cons.mpr ⟨trivial, List.forall_mem_cons.mpr ⟨trivial, List.forall_mem_cons.mpr ⟨trivial, List.forall_mem_cons.mpr ⟨trivial, List.forall_mem_cons.mpr ⟨⟨_, rfl, Nat.le_of_ble_eq_true rfl, Or.inl (tb3 188 rfl rfl)⟩, List.forall_mem_cons.mpr ⟨trivial, List.forall_mem_cons.mpr ⟨trivial, List.forall_mem_cons.mpr ⟨rfl, List.forall_mem_cons.mpr ⟨trivial, fun _ h => absurd h List.not_mem_nil⟩⟩⟩⟩⟩⟩⟩⟩⟩), List.forall_mem_cons.mpr ⟨(List.forall_mem_cons.mpr ⟨trivial, List.forall_mem_cons.mpr ⟨trivial, List.forall_mem_cons.mpr ⟨rfl, fun _ h => absurd h List.not_mem_nil⟩⟩⟩), fun _ h => absurd h List.not_mem_nil⟩⟩⟩⟩⟩⟩⟩⟩⟩⟩⟩, by decide +kernel, rfl⟩
set_option maxRecDepth 100000 in
theorem okQ_139 : sm_Q PZ PP 139 := ⟨by decide +kernel, show ∀ ch ∈ pc_139, ∀ q ∈ ch, sm_okL PZ PP 139 q.2.1 q.2.2.2.1 q.2.2.2.2.1 q.2.2.2.2.2 from List.forall_mem_cons.mpr ⟨(List.forall_mem_cons.mpr ⟨trivial, List.forall_mem_cons.mpr ⟨trivial, List.forall_mem_cons.mpr ⟨trivial, List.forall_mem_cons.mpr ⟨⟨⟨okm_107.1, okm_107.2.1, okm_107.2.2.1, okm_107.2.2.2, Nat.le_of_ble_eq_true rfl, Nat.le_of_ble_eq_true rfl, Or.inl (tb3 237 rfl rfl)⟩, Nat.le_of_ble_eq_true rfl, oks_107⟩, List.forall_mem_cons.mpr ⟨trivial, List.forall_mem_cons.mpr ⟨trivial, List.forall_mem_cons.mpr ⟨trivial, List.forall_mem_cons.mpr ⟨trivial, fun _ h => absurd h List.not_mem_nil⟩⟩⟩⟩⟩⟩⟩⟩), List.forall_mem_cons.mpr ⟨(List.forall_mem_cons.mpr ⟨trivial, List.forall_mem_cons.mpr ⟨rfl, List.forall_mem_cons.mpr ⟨trivial, List.forall_mem_cons.mpr ⟨trivial, List.forall_mem_cons.mpr ⟨⟨⟨okm_129.1, okm_129.2.1, okm_129.2.2.1, okm_129.2.2.2, Nat.le_of_ble_eq_true rfl, Nat.le_of_ble_eq_true rfl, Or.inl (tb4 80 rfl rfl)⟩, Nat.le_of_ble_eq_true rfl, oki_129, okv_129, ⟨_, rfl, rfl⟩⟩, List.forall_mem_cons.mpr ⟨trivial, List.forall_mem_cons.mpr ⟨trivial, List.forall_mem_cons.mpr ⟨trivial, List.forall_mem_cons.mpr ⟨trivial, List.forall_mem_cons.mpr ⟨⟨_, rfl, Nat.le_of_ble_eq_true rfl, Or.inl (tb3 186 rfl rfl)⟩, fun _ h => absurd h List.not_mem_nil⟩⟩⟩⟩⟩⟩⟩⟩⟩⟩), List.forall_mem_cons.mpr ⟨(List.forall_mem_cons.mpr ⟨trivial, List.forall_mem_cons.mpr ⟨trivial, List.forall_mem_cons.mpr ⟨trivial, List.forall_mem_cons.mpr ⟨⟨_, rfl, Nat.le_of_ble_eq_true rfl, Or.inl (tb3 186 rfl rfl)⟩, List.forall_mem_cons.mpr ⟨trivial, List.forall_mem_cons.mpr ⟨trivial, List.forall_mem_cons.mpr ⟨⟨_, rfl, Nat.le_of_ble_eq_true rfl, Or.inl (tb3 185 rfl rfl)⟩, List.forall_mem_cons.mpr ⟨trivial, fun _ h => absurd h List.not_mem_nil⟩⟩⟩⟩⟩⟩⟩⟩), List.forall_mem_cons.mpr ⟨(List.forall_mem_cons.mpr ⟨trivial, List.forall_mem_cons.mpr ⟨trivial, List.forall_mem_cons.mpr ⟨trivial, List.forall_mem_cons.mpr ⟨rfl, fun _ h => absurd h List.not_mem_nil⟩⟩⟩⟩), fun _ h => absurd h List.not_mem_nil⟩⟩⟩⟩, by decide +kernel, rfl⟩
set_option maxRecDepth 100000 in
theorem okQ_140 : sm_Q PZ PP 140 := ⟨by decide +kernel, show ∀ ch ∈ pc_140, ∀ q ∈ ch, sm_okL PZ PP 140 q.2.1 q.2.2.2.1 q.2.2.2.2.1 q.2.2.2.2.2 from List.forall_mem_cons.mpr ⟨(List.forall_mem_cons.mpr ⟨trivial, List.forall_mem_cons.mpr ⟨trivial, List.forall_mem_cons.mpr ⟨trivial, List.forall_mem_cons.mpr ⟨trivial, List.forall_mem_cons.mpr ⟨⟨_, rfl, Nat.le_of_ble_eq_true rfl, Or.inl (tb3 178 rfl rfl)⟩, List.forall_mem_cons.mpr ⟨trivial, List.forall_mem_cons.mpr ⟨trivial, List.forall_mem_cons.mpr ⟨trivial, List.forall_mem_cons.mpr ⟨trivial, List.forall_mem_cons.mpr ⟨trivial, List.forall_mem_cons.mpr ⟨⟨⟨okm_134.1, okm_134.2.1, okm_134.2.2.1, okm_134.2.2.2, Nat.le_of_ble_eq_true rfl, Nat.le_of_ble_eq_true rfl, Or.inl (tb4 129 rfl rfl)⟩, Nat.le_of_ble_eq_true rfl, oki_134, okv_134, ⟨_, rfl, rfl⟩⟩, fun _ h => absurd h List.not_mem_nil⟩⟩⟩⟩⟩⟩⟩⟩⟩⟩⟩), List.forall_mem_cons.mpr ⟨(List.forall_mem_cons.mpr ⟨trivial, List.forall_mem_cons.mpr ⟨trivial, List.forall_mem_cons.mpr ⟨rfl, fun _ h => absurd h List.not_mem_nil⟩⟩⟩), fun _ h => absurd h List.not_mem_nil⟩⟩, by decide +kernel, rfl⟩
set_option maxRecDepth 100000 in
theorem okQ_141 : sm_Q PZ PP 141 := ⟨by decide +kernel, show ∀ ch ∈ pc_141, ∀ q ∈ ch, sm_okL PZ PP 141 q.2.1 q.2.2.2.1 q.2.2.2.2.1 q.2.2.2.2.2 from List.forall_mem_cons.mpr ⟨(List.forall_mem_cons.mpr ⟨trivial, List.forall_mem_cons.mpr ⟨trivial, List.forall_mem_cons.mpr ⟨trivial, List.forall_mem_cons.mpr ⟨trivial, List.forall_mem_cons.mpr ⟨trivial, List.forall_mem_cons.mpr ⟨trivial, List.forall_mem_cons.mpr ⟨⟨_, rfl, Nat.le_of_ble_eq_true rfl, Or.inl (tb3 178 rfl rfl)⟩, List.forall_mem_cons.mpr ⟨trivial, List.forall_mem_cons.mpr ⟨trivial, List.forall_mem_cons.mpr ⟨trivial, List.forall_mem_cons.mpr ⟨(tb4 165 rfl rfl), fun _ h => absurd h List.not_mem_nil⟩⟩⟩⟩⟩⟩⟩⟩⟩⟩⟩), List.forall_mem_cons.mpr ⟨(List.forall_mem_cons.mpr ⟨trivial, List.forall_mem_cons.mpr ⟨trivial, List.forall_mem_cons.mpr ⟨trivial, List.forall_mem_cons.mpr ⟨trivial, List.forall_mem_cons.mpr ⟨trivial, List.forall_mem_cons.mpr ⟨trivial, List.forall_mem_cons.mpr ⟨trivial, List.forall_mem_cons.mpr ⟨trivial, List.forall_mem_cons.mpr ⟨trivial, List.forall_mem_cons.mpr ⟨trivial, fun _ h => absurd h List.not_mem_nil⟩⟩⟩⟩⟩⟩⟩⟩⟩⟩), List.forall_mem_cons.mpr ⟨(List.forall_mem_cons.mpr ⟨⟨_, rfl, Nat.le_of_ble_eq_true rfl, Or.inl (tb3 189 rfl rfl)⟩, List.forall_mem_cons.mpr ⟨trivial, List.forall_mem_cons.mpr ⟨trivial, List.forall_mem_cons.mpr ⟨trivial, List.forall_mem_cons.mpr ⟨trivial, List.forall_mem_cons.mpr ⟨trivial, List.forall_mem_cons.mpr ⟨⟨_, rfl, Nat.le_of_ble_eq_true rfl, Or.inl (tb3 192 rfl rfl)⟩, List.forall_mem_cons.mpr ⟨trivial, List.forall_mem_cons.mpr ⟨trivial, List.forall_mem_cons.mpr ⟨⟨_, rfl, Nat.le_of_ble_eq_true rfl, Or.inl (tb3 188 rfl rfl)⟩, fun _ h => absurd h List.not_mem_nil⟩⟩⟩⟩⟩⟩⟩⟩⟩⟩), List.forall_mem_cons.mpr ⟨(List.forall_mem_cons.mpr ⟨trivial, List.forall_mem_cons.mpr ⟨trivial, List.forall_mem_cons.mpr ⟨trivial, List.forall_mem_cons.mpr ⟨trivial, List.forall_mem_cons.mpr ⟨trivial, List.forall_mem_cons.mpr ⟨⟨_, rfl, Nat.le_of_ble_eq_true rfl, Or.inl (tb3 187 rfl rfl)⟩, List.forall_mem_cons.mpr ⟨trivial, List.forall_mem_cons.mpr ⟨trivial, fun _ h => absurd h List.not_mem_nil⟩⟩⟩⟩⟩⟩⟩⟩), List.forall_mem_cons.mpr ⟨(List.forall_mem_cons.mpr ⟨trivial, List.forall_mem_cons.mpr ⟨trivial, List.forall_mem_cons.mpr ⟨⟨_, rfl, Nat.le_of_ble_eq_true rfl, Or.inl (tb3 192 rfl rfl)⟩, List.forall_mem_cons.mpr ⟨trivial, List.forall_mem_cons.mpr ⟨trivial, List.forall_mem_cons.mpr ⟨trivial, List.forall_mem_cons.mpr ⟨trivial, List.forall_mem_cons.mpr ⟨⟨_, rfl, Nat.le_of_ble_eq_true rfl, Or.inl (tb3 188 rfl rfl)⟩, List.forall_mem_cons.mpr ⟨trivial, fun _ h => absurd h List.not_mem_nil⟩⟩⟩⟩⟩⟩⟩⟩⟩), List.forall_mem_cons.mpr ⟨(List.forall_mem_cons.mpr ⟨trivial, List.forall_mem_cons.mpr ⟨trivial, List.forall_mem_cons.mpr ⟨trivial, List.forall_mem_cons.mpr ⟨trivial, List.forall_mem_cons.mpr ⟨⟨_, rfl, Nat.le_of_ble_eq_true rfl, Or.inl (tb3 188 rfl rfl)⟩, List.forall_mem_cons.mpr ⟨trivial, List.forall_mem_cons.mpr ⟨trivial, List.forall_mem_cons.mpr ⟨trivial, List.forall_mem_cons.mpr ⟨trivial, fun _ h => absurd h List.not_mem_nil⟩⟩⟩⟩⟩⟩⟩⟩⟩), List.forall_mem_cons.mpr ⟨(List.forall_mem_cons.mpr ⟨trivial, List.forall_mem_cons.mpr ⟨trivial, List.forall_mem_cons.mpr ⟨trivial, List.forall_mem_cons.mpr ⟨trivial, List.forall_mem_cons.mpr ⟨trivial, List.forall_mem_cons.mpr ⟨trivial, List.forall_mem_cons.mpr ⟨trivial, List.forall_mem_cons.mpr ⟨trivial, List.forall_mem_cons.mpr ⟨trivial, fun _ h => absurd h List.not_mem_nil⟩⟩⟩⟩⟩⟩⟩⟩⟩), List.forall_mem_cons.mpr ⟨(List.forall_mem_cons.mpr ⟨trivial, List.forall_mem_cons.mpr ⟨(tb4 165 rfl rfl), List.forall_mem_cons.mpr ⟨trivial, List.forall_mem_cons.mpr ⟨trivial, List.forall_mem_cons.mpr ⟨trivial, List.forall_mem_cons.mpr ⟨trivial, List.forall_mem_cons.mpr ⟨rfl, fun _ h => absurd h List.not_mem_nil⟩⟩⟩⟩⟩⟩⟩), fun _ h => absurd h List.not_mem_nil⟩⟩⟩⟩⟩⟩⟩⟩, by decide +kernel, rfl⟩
set_option maxRecDepth 100000 in
theorem okQ_142 : sm_Q PZ PP 142 := ⟨by decide +kernel, show ∀ ch ∈ pc_142, ∀ q ∈ ch, sm_okL PZ PP 142 q.2.1 q.2.2.2.1 q.2.2.2.2.1 q.2.2.2.2.2 from List.forall_mem_cons.mpr ⟨(List.forall_mem_cons.mpr ⟨trivial, List.forall_mem_cons.mpr ⟨trivial, List.forall_mem_cons.mpr ⟨⟨_, rfl, Nat.le_of_ble_eq_true rfl, Or.inl (tb3 178 rfl rfl)⟩, List.forall_mem_cons.mpr ⟨trivial, List.forall_mem_cons.mpr ⟨trivial, List.forall_mem_cons.mpr ⟨trivial, List.forall_mem_cons.mpr ⟨trivial, List.forall_mem_cons.mpr ⟨trivial, List.forall_mem_cons.mpr ⟨trivial, List.forall_mem_cons.mpr ⟨trivial, fun _ h => absurd h List.not_mem_nil⟩⟩⟩⟩⟩⟩⟩⟩⟩⟩), List.forall_mem_cons.mpr ⟨(List.forall_mem_cons.mpr ⟨(tb4 165 rfl rfl), List.forall_mem_cons.mpr ⟨rfl, List.forall_mem_cons.mpr ⟨trivial, List.forall_mem_cons.mpr ⟨trivial, List.forall_mem_cons.mpr ⟨trivial, List.forall_mem_cons.mpr ⟨trivial, List.forall_mem_cons.mpr ⟨⟨_, rfl, Nat.le_of_ble_eq_true rfl, Or.inl (tb3 190 rfl rfl)⟩, List.forall_mem_cons.mpr ⟨trivial, fun _ h => absurd h List.not_mem_nil⟩⟩⟩⟩⟩⟩⟩⟩), List.forall_mem_cons.mpr ⟨(List.forall_mem_cons.mpr ⟨trivial, List.forall_mem_cons.mpr ⟨trivial, List.forall_mem_cons.mpr ⟨trivial, List.forall_mem_cons.mpr ⟨trivial, List.forall_mem_cons.mpr ⟨trivial, List.forall_mem_cons.mpr ⟨trivial, List.forall_mem_cons.mpr ⟨trivial, List.forall_mem_cons.mpr ⟨⟨_, rfl, Nat.le_of_ble_eq_true rfl, Or.inl (tb3 191 rfl rfl)⟩, List.forall_mem_cons.mpr ⟨trivial, fun _ h => absurd h List.not_mem_nil⟩⟩⟩⟩⟩⟩⟩⟩⟩), List.forall_mem_cons.mpr ⟨(List.forall_mem_cons.mpr ⟨trivial, List.forall_mem_cons.mpr ⟨trivial, List.forall_mem_cons.mpr ⟨trivial, List.forall_mem_cons.mpr ⟨trivial, List.forall_mem_cons.mpr ⟨trivial, List.forall_mem_cons.mpr ⟨trivial, List.forall_mem_cons.mpr ⟨trivial, List.forall_mem_cons.mpr ⟨rfl, fun _ h => absurd h List.not_mem_nil⟩⟩⟩⟩⟩⟩⟩⟩), fun _ h => absurd h List.not_mem_nil⟩⟩⟩⟩, by decide +kernel, rfl⟩
set_option maxRecDepth 100000 in
theorem okQ_143 : sm_Q PZ PP 143 := ⟨by decide +kernel, show ∀ ch ∈ pc_143, ∀ q ∈ ch, sm_okL PZ PP 143 q.2.1 q.2.2.2.1 q.2.2.2.2.1 q.2.2.2.2.2 from List.forall_mem_cons.mpr ⟨(List.forall_mem_cons.mpr ⟨(tb4 165 rfl rfl), List.forall_mem_cons.mpr ⟨trivial, List.forall_mem_cons.mpr ⟨trivial, List.forall_mem_cons.mpr ⟨trivial, List.forall_mem_cons.mpr ⟨trivial, List.forall_mem_cons.mpr ⟨trivial, List.forall_mem_cons.mpr ⟨trivial, List.forall_mem_cons.mpr ⟨trivial, List.forall_mem_cons.mpr ⟨trivial, fun _ h => absurd h List.not_mem_nil⟩⟩⟩⟩⟩⟩⟩⟩⟩), List.forall_mem_cons.mpr ⟨(List.forall_mem_cons.mpr ⟨trivial, List.forall_mem_cons.mpr ⟨trivial, List.forall_mem_cons.mpr ⟨⟨_, rfl, Nat.le_of_ble_eq_true rfl, Or.inl (tb3 189 rfl rfl)⟩, List.forall_mem_cons.mpr ⟨trivial, List.forall_mem_cons.mpr ⟨trivial, List.forall_mem_cons.mpr ⟨trivial, List.forall_mem_cons.mpr ⟨trivial, List.forall_mem_cons.mpr ⟨trivial, List.forall_mem_cons.mpr ⟨⟨_, rfl, Nat.le_of_ble_eq_true rfl, Or.inl (tb3 187 rfl rfl)⟩, fun _ h => absurd h List.not_mem_nil⟩⟩⟩⟩⟩⟩⟩⟩⟩), List.forall_mem_cons.mpr ⟨(List.forall_mem_cons.mpr ⟨trivial, List.forall_mem_cons.mpr ⟨trivial, List.forall_mem_cons.mpr ⟨trivial, List.forall_mem_cons.mpr ⟨trivial, List.forall_mem_cons.mpr ⟨trivial, List.forall_mem_cons.mpr ⟨trivial, List.forall_mem_cons.mpr ⟨trivial, List.forall_mem_cons.mpr ⟨trivial, List.forall_mem_cons.mpr ⟨trivial, List.forall_mem_cons.mpr ⟨trivial, List.forall_mem_cons.mpr ⟨⟨_, rfl, Nat.le_of_ble_eq_true rfl, Or.inl (tb3 187 rfl rfl)⟩, fun _ h => absurd h List.not_mem_nil⟩⟩⟩⟩⟩⟩⟩⟩⟩⟩⟩), List.forall_mem_cons.mpr ⟨(List.forall_mem_cons.mpr ⟨trivial, List.forall_mem_cons.mpr ⟨trivial, List.forall_mem_cons.mpr ⟨trivial, List.forall_mem_cons.mpr ⟨⟨⟨okm_142.1, okm_142.2.1, okm_142.2.2.1, okm_142.2.2.2, Nat.le_of_ble_eq_true rfl, Nat.le_of_ble_eq_true rfl, Or.inl (tb4 174 rfl rfl)⟩, Nat.le_of_ble_eq_true rfl, oki_142, okv_142, ⟨_, rfl, rfl⟩⟩, List.forall_mem_cons.mpr ⟨trivial, List.forall_mem_cons.mpr ⟨⟨_, rfl, Nat.le_of_ble_eq_true rfl, Or.inl (tb3 188 rfl rfl)⟩, List.forall_mem_cons.mpr ⟨trivial, List.forall_mem_cons.mpr ⟨trivial, List.forall_mem_cons.mpr ⟨trivial, List.forall_mem_cons.mpr ⟨trivial, fun _ h => absurd h List.not_mem_nil⟩⟩⟩⟩⟩⟩⟩⟩⟩⟩), List.forall_mem_cons.mpr ⟨(List.forall_mem_cons.mpr ⟨trivial, List.forall_mem_cons.mpr ⟨trivial, List.forall_mem_cons.mpr ⟨trivial, List.forall_mem_cons.mpr ⟨trivial, List.forall_mem_cons.mpr ⟨trivial, List.forall_mem_cons.mpr ⟨trivial, List.forall_mem_cons.mpr ⟨trivial, List.forall_mem_cons.mpr ⟨trivial, fun _ h => absurd h List.not_mem_nil⟩⟩⟩⟩⟩⟩⟩⟩), List.forall_mem_cons.mpr ⟨(List.forall_mem_cons.mpr ⟨trivial, List.forall_mem_cons.mpr ⟨trivial, List.forall_mem_cons.mpr ⟨trivial, List.forall_mem_cons.mpr ⟨trivial, List.forall_mem_cons.mpr ⟨trivial, List.forall_mem_cons.mpr ⟨⟨_, rfl, Nat.le_of_ble_eq_true rfl, Or.inl (tb3 190 rfl rfl)⟩, List.forall_mem_cons.mpr ⟨trivial, fun _ h => absurd h List.not_mem_nil⟩⟩⟩⟩⟩⟩⟩), List.forall_mem_cons.mpr ⟨(List.forall_mem_cons.mpr ⟨trivial, List.forall_mem_cons.mpr ⟨trivial, List.forall_mem_cons.mpr ⟨trivial, List.forall_mem_cons.mpr ⟨trivial, List.forall_mem_cons.mpr ⟨trivial, List.forall_mem_cons.mpr ⟨trivial, List.forall_mem_cons.mpr ⟨trivial, List.forall_mem_cons.mpr ⟨trivial, List.forall_mem_cons.mpr ⟨⟨_, rfl, Nat.le_of_ble_eq_true rfl, Or.inl (tb3 191 rfl rfl)⟩, List.forall_mem_cons.mpr ⟨trivial, fun _ h => absurd h List.not_mem_nil⟩⟩⟩⟩⟩⟩⟩⟩⟩⟩), List.forall_mem_cons.mpr ⟨(List.forall_mem_cons.mpr ⟨trivial, List.forall_mem_cons.mpr ⟨trivial, List.forall_mem_cons.mpr ⟨trivial, List.forall_mem_cons.mpr ⟨trivial, List.forall_mem_cons.mpr ⟨trivial, List.forall_mem_cons.mpr ⟨trivial, List.forall_mem_cons.mpr ⟨trivial, List.forall_mem_cons.mpr ⟨trivial, List.forall_mem_cons.mpr ⟨rfl, fun _ h => absurd h List.not_mem_nil⟩⟩⟩⟩⟩⟩⟩⟩⟩), fun _ h => absurd h List.not_mem_nil⟩⟩⟩⟩⟩⟩⟩⟩, by decide +kernel, rfl⟩
set_option maxRecDepth 100000 in
theorem okQ_144 : sm_Q PZ PP 144 := ⟨by decide +kernel, show ∀ ch ∈ pc_144, ∀ q ∈ ch, sm_okL PZ PP 144 q.2.1 q.2.2.2.1 q.2.2.2.2.1 q.2.2.2.2.2 from List.forall_mem_cons.mpr ⟨(List.forall_mem_cons.mpr ⟨trivial, List.forall_mem_cons.mpr ⟨⟨_, rfl, Nat.le_of_ble_eq_true rfl, Or.inl (tb3 178 rfl rfl)⟩, List.forall_mem_cons.mpr ⟨trivial, List.forall_mem_cons.mpr ⟨trivial, List.forall_mem_cons.mpr ⟨trivial, List.forall_mem_cons.mpr ⟨trivial, List.forall_mem_cons.mpr ⟨trivial, List.forall_mem_cons.mpr ⟨trivial, List.forall_mem_cons.mpr ⟨trivial, fun _ h => absurd h List.not_mem_nil⟩⟩⟩⟩⟩⟩⟩⟩⟩), List.forall_mem_cons.mpr ⟨(List.forall_mem_cons.mpr ⟨rfl, List.forall_mem_cons.mpr ⟨trivial, List.forall_mem_cons.mpr ⟨⟨_, rfl, Nat.le_of_ble_eq_true rfl, Or.inl (tb3 178 rfl rfl)⟩, List.forall_mem_cons.mpr ⟨trivial, List.forall_mem_cons.mpr ⟨trivial, List.forall_mem_cons.mpr ⟨trivial, List.forall_mem_cons.mpr ⟨trivial, List.forall_mem_cons.mpr ⟨trivial, List.forall_mem_cons.mpr ⟨trivial, List.forall_mem_cons.mpr ⟨trivial, List.forall_mem_cons.mpr ⟨trivial, List.forall_mem_cons.mpr ⟨trivial, fun _ h => absurd h List.not_mem_nil⟩⟩⟩⟩⟩⟩⟩⟩⟩⟩⟩⟩), List.forall_mem_cons.mpr ⟨(List.forall_mem_cons.mpr ⟨trivial, List.forall_mem_cons.mpr ⟨trivial, List.forall_mem_cons.mpr ⟨trivial, List.forall_mem_cons.mpr ⟨trivial, List.forall_mem_cons.mpr ⟨trivial, List.forall_mem_cons.mpr ⟨trivial, List.forall_mem_cons.mpr ⟨⟨⟨okm_143.1, okm_143.2.1, okm_143.2.2.1, okm_143.2.2.2, Nat.le_of_ble_eq_true rfl, Nat.le_of_ble_eq_true rfl, Or.inl (tb4 170 rfl rfl)⟩, Nat.le_of_ble_eq_true rfl, oki_143, okv_143, ⟨_, rfl, rfl⟩⟩, List.forall_mem_cons.mpr ⟨trivial, List.forall_mem_cons.mpr ⟨trivial, fun _ h => absurd h List.not_mem_nil⟩⟩⟩⟩⟩⟩⟩⟩⟩), List.forall_mem_cons.mpr ⟨(List.forall_mem_cons.mpr ⟨trivial, List.forall_mem_cons.mpr ⟨trivial, List.forall_mem_cons.mpr ⟨trivial, List.forall_mem_cons.mpr ⟨trivial, List.forall_mem_cons.mpr ⟨trivial, List.forall_mem_cons.mpr ⟨⟨⟨okm_142.1, okm_142.2.1, okm_142.2.2.1, okm_142.2.2.2, Nat.le_of_ble_eq_true rfl, Nat.le_of_ble_eq_true rfl, Or.inl (tb4 174 rfl rfl)⟩, Nat.le_of_ble_eq_true rfl, oki_142, okv_142, ⟨_, rfl, rfl⟩⟩, List.forall_mem_cons.mpr ⟨trivial, List.forall_mem_cons.mpr ⟨trivial, List.forall_mem_cons.mpr ⟨(tb4 165 rfl rfl), fun _ h => absurd h List.not_mem_nil⟩⟩⟩⟩⟩⟩⟩⟩⟩), List.forall_mem_cons.mpr ⟨(List.forall_mem_cons.mpr ⟨trivial, List.forall_mem_cons.mpr ⟨trivial, List.forall_mem_cons.mpr ⟨rfl, List.forall_mem_cons.mpr ⟨trivial, List.forall_mem_cons.mpr ⟨trivial, List.forall_mem_cons.mpr ⟨trivial, List.forall_mem_cons.mpr ⟨trivial, List.forall_mem_cons.mpr ⟨trivial, List.forall_mem_cons.mpr ⟨trivial, List.forall_mem_cons.mpr ⟨⟨_, rfl, Nat.le_of_ble_eq_true rfl, Or.inl (tb3 178 rfl rfl)⟩, fun _ h => absurd h List.not_mem_nil⟩⟩⟩⟩⟩⟩⟩⟩⟩⟩), List.forall_mem_cons.mpr ⟨(List.forall_mem_cons.mpr ⟨trivial, List.forall_mem_cons.mpr ⟨trivial, List.forall_mem_cons.mpr ⟨trivial, List.forall_mem_cons.mpr ⟨trivial, List.forall_mem_cons.mpr ⟨trivial, List.forall_mem_cons.mpr ⟨trivial, List.forall_mem_cons.mpr ⟨trivial, List.forall_mem_cons.mpr ⟨trivial, fun _ h => absurd h List.not_mem_nil⟩⟩⟩⟩⟩⟩⟩⟩), List.forall_mem_cons.mpr ⟨(List.forall_mem_cons.mpr ⟨⟨_, rfl, Nat.le_of_ble_eq_true rfl, Or.inl (tb3 187 rfl rfl)⟩, List.forall_mem_cons.mpr ⟨trivial, List.forall_mem_cons.mpr ⟨trivial, List.forall_mem_cons.mpr ⟨trivial, List.forall_mem_cons.mpr ⟨trivial, List.forall_mem_cons.mpr ⟨trivial, List.forall_mem_cons.mpr ⟨trivial, List.forall_mem_cons.mpr ⟨trivial, List.forall_mem_cons.mpr ⟨trivial, List.forall_mem_cons.mpr ⟨trivial, fun _ h => absurd h List.not_mem_nil⟩⟩⟩⟩⟩⟩⟩⟩⟩⟩), List.forall_mem_cons.mpr ⟨(List.forall_mem_cons.mpr ⟨trivial, List.forall_mem_cons.mpr ⟨⟨_, rfl, Nat.le_of_ble_eq_true rfl, Or.inl (tb3 187 rfl rfl)⟩, List.forall_mem_cons.mpr ⟨trivial, List.forall_mem_cons.mpr ⟨trivial, List.forall_mem_cons.mpr ⟨trivial, List.forall_mem_cons.mpr ⟨⟨⟨okm_142.1, okm_142.2.1, okm_142.2.2.1, okm_142.2.2.2, Nat.le_of_ble_eq_true rfl, Nat.le_of_ble_eq_true rfl, Or.inl (tb4 174 rfl rfl)⟩, Nat.le_of_ble_eq_true rfl, oki_142, okv_142, ⟨_, rfl, rfl⟩⟩, List.forall_mem_cons.mpr ⟨trivial, List.forall_mem_cons.mpr ⟨⟨_, rfl, Nat.le_of_ble_eq_true rfl, Or.inl (tb3 188 rfl rfl)⟩, List.forall_mem_cons.mpr ⟨trivial, fun _ h => absurd h List.not_mem_nil⟩⟩⟩⟩⟩⟩⟩⟩⟩), List.forall_mem_cons.mpr ⟨(List.forall_mem_cons.mpr ⟨trivial, List.forall_mem_cons.mpr ⟨trivial, List.forall_mem_cons.mpr ⟨trivial, List.forall_mem_cons.mpr ⟨trivial, List.forall_mem_cons.mpr ⟨trivial, List.forall_mem_cons.mpr ⟨⟨⟨okm_142.1, okm_142.2.1, okm_142.2.2.1, okm_142.2.2.2, Nat.le_of_ble_eq_true rfl, Nat.le_of_ble_eq_true rfl, Or.inl (tb4 174 rfl rfl)⟩, Nat.le_of_ble_eq_true rfl, oki_142, okv_142, ⟨_, rfl, rfl⟩⟩, List.forall_mem_cons.mpr ⟨trivial, List.forall_mem_cons.mpr ⟨trivial, fun _ h => absurd h List.not_mem_nil⟩⟩⟩⟩⟩⟩⟩⟩), List.forall_mem_cons.mpr ⟨(List.forall_mem_cons.mpr ⟨trivial, List.forall_mem_cons.mpr ⟨trivial, List.forall_mem_cons.mpr ⟨⟨_, rfl, Nat.le_of_ble_eq_true rfl, Or.inl (tb3 192 rfl rfl)⟩, List.forall_mem_cons.mpr ⟨trivial, List.forall_mem_cons.mpr ⟨trivial, List.forall_mem_cons.mpr ⟨⟨_, rfl, Nat.le_of_ble_eq_true rfl, Or.inl (tb3 187 rfl rfl)⟩, List.forall_mem_cons.mpr ⟨trivial, List.forall_mem_cons.mpr ⟨trivial, fun _ h => absurd h List.not_mem_nil⟩⟩⟩⟩⟩⟩⟩⟩), List.forall_mem_cons.mpr ⟨(List.forall_mem_cons.mpr ⟨trivial, List.forall_mem_cons.mpr ⟨trivial, List.forall_mem_cons.mpr ⟨trivial, List.forall_mem_cons.mpr ⟨⟨_, rfl, Nat.le_of_ble_eq_true rfl, Or.inl (tb3 187 rfl rfl)⟩, List.forall_mem_cons.mpr ⟨trivial, List.forall_mem_cons.mpr ⟨trivial, List.forall_mem_cons.mpr ⟨trivial, List.forall_mem_cons.mpr ⟨trivial, List.forall_mem_cons.mpr ⟨trivial, List.forall_mem_cons.mpr ⟨trivial, fun _ h => absurd h List.not_mem_nil⟩⟩⟩⟩⟩⟩⟩⟩⟩⟩), List.forall_mem_cons.mpr ⟨(List.forall_mem_cons.mpr ⟨trivial, List.forall_mem_cons.mpr ⟨rfl, fun _ h => absurd h List.not_mem_nil⟩⟩), fun _ h => absurd h List.not_mem_nil⟩⟩⟩⟩⟩⟩⟩⟩⟩⟩⟩⟩, by decide +kernel, rfl⟩
set_option maxRecDepth 100000 in
theorem okQ_145 : sm_Q PZ PP 145 := ⟨by decide +kernel, show ∀ ch ∈ pc_145, ∀ q ∈ ch, sm_okL PZ PP 145 q.2.1 q.2.2.2.1 q.2.2.2.2.1 q.2.2.2.2.2 from List.forall_mem_cons.mpr ⟨(List.forall_mem_cons.mpr ⟨trivial, List.forall_mem_cons.mpr ⟨⟨⟨okm_140.1, okm_140.2.1, okm_140.2.2.1, okm_140.2.2.2, Nat.le_of_ble_eq_true rfl, Nat.le_of_ble_eq_true rfl, Or.inl (tb4 157 rfl rfl)⟩, Nat.le_of_ble_eq_true rfl, oki_140, okv_140, ⟨_, rfl, rfl⟩⟩, List.forall_mem_cons.mpr ⟨trivial, List.forall_mem_cons.mpr ⟨⟨_, rfl, Nat.le_of_ble_eq_true rfl, Or.inl (tb3 178 rfl rfl)⟩, List.forall_mem_cons.mpr ⟨trivial, List.forall_mem_cons.mpr ⟨trivial, List.forall_mem_cons.mpr ⟨trivial, List.forall_mem_cons.mpr ⟨trivial, List.forall_mem_cons.mpr ⟨trivial, fun _ h => absurd h List.not_mem_nil⟩⟩⟩⟩⟩⟩⟩⟩⟩), List.forall_mem_cons.mpr ⟨(List.forall_mem_cons.mpr ⟨⟨⟨okm_141.1, okm_141.2.1, okm_141.2.2.1, okm_141.2.2.2, Nat.le_of_ble_eq_true rfl, Nat.le_of_ble_eq_true rfl, Or.inl (tb4 161 rfl rfl)⟩, Nat.le_of_ble_eq_true rfl, oki_141, okv_141, ⟨_, rfl, rfl⟩⟩, List.forall_mem_cons.mpr ⟨trivial, List.forall_mem_cons.mpr ⟨trivial, List.forall_mem_cons.mpr ⟨⟨⟨okm_144.1, okm_144.2.1, okm_144.2.2.1, okm_144.2.2.2, Nat.le_of_ble_eq_true rfl, Nat.le_of_ble_eq_true rfl, Or.inl (tb4 166 rfl rfl)⟩, Nat.le_of_ble_eq_true rfl, oki_144, okv_144, ⟨_, rfl, rfl⟩⟩, List.forall_mem_cons.mpr ⟨rfl, fun _ h => absurd h List.not_mem_nil⟩⟩⟩⟩⟩), fun _ h => absurd h List.not_mem_nil⟩⟩, by decide +kernel, rfl⟩
set_option maxRecDepth 100000 in
theorem okQ_146 : sm_Q PZ PP 146 := ⟨by decide +kernel, show ∀ ch ∈ pc_146, ∀ q ∈ ch, sm_okL PZ PP 146 q.2.1 q.2.2.2.1 q.2.2.2.2.1 q.2.2.2.2.2 from List.forall_mem_cons.mpr ⟨(List.forall_mem_cons.mpr ⟨trivial, List.forall_mem_cons.mpr ⟨trivial, List.forall_mem_cons.mpr ⟨trivial, List.forall_mem_cons.mpr ⟨trivial, List.forall_mem_cons.mpr ⟨trivial, List.forall_mem_cons.mpr ⟨⟨⟨okm_116.1, okm_116.2.1, okm_116.2.2.1, okm_116.2.2.2, Nat.le_of_ble_eq_true rfl, Nat.le_of_ble_eq_true rfl, Or.inl (tb4 29 rfl rfl)⟩, Nat.le_of_ble_eq_true rfl, oki_116, okv_116, ⟨_, rfl, rfl⟩⟩, List.forall_mem_cons.mpr ⟨trivial, List.forall_mem_cons.mpr ⟨trivial, List.forall_mem_cons.mpr ⟨rfl, List.forall_mem_cons.mpr ⟨trivial, fun _ h => absurd h List.not_mem_nil⟩⟩⟩⟩⟩⟩⟩⟩⟩⟩), List.forall_mem_cons.mpr ⟨(List.forall_mem_cons.mpr ⟨⟨⟨okm_145.1, okm_145.2.1, okm_145.2.2.1, okm_145.2.2.2, Nat.le_of_ble_eq_true rfl, Nat.le_of_ble_eq_true rfl, Or.inl (tb4 153 rfl rfl)⟩, Nat.le_of_ble_eq_true rfl, oki_145, okv_145, ⟨_, rfl, rfl⟩⟩, List.forall_mem_cons.mpr ⟨trivial, List.forall_mem_cons.mpr ⟨trivial, List.forall_mem_cons.mpr ⟨trivial, List.forall_mem_cons.mpr ⟨trivial, List.forall_mem_cons.mpr ⟨trivial, List.forall_mem_cons.mpr ⟨trivial, List.forall_mem_cons.mpr ⟨trivial, List.forall_mem_cons.mpr ⟨trivial, fun _ h => absurd h List.not_mem_nil⟩⟩⟩⟩⟩⟩⟩⟩⟩), List.forall_mem_cons.mpr ⟨(List.forall_mem_cons.mpr ⟨trivial, List.forall_mem_cons.mpr ⟨trivial, List.forall_mem_cons.mpr ⟨⟨_, rfl, Nat.le_of_ble_eq_true rfl, Or.inl (tb3 192 rfl rfl)⟩, List.forall_mem_cons.mpr ⟨trivial, List.forall_mem_cons.mpr ⟨trivial, List.forall_mem_cons.mpr ⟨rfl, fun _ h => absurd h List.not_mem_nil⟩⟩⟩⟩⟩⟩), fun _ h => absurd h List.not_mem_nil⟩⟩⟩, by decide +kernel, rfl⟩
set_option maxRecDepth 100000 in
theorem okQ_147 : sm_Q PZ PP 147 := ⟨by decide +kernel, show ∀ ch ∈ pc_147, ∀ q ∈ ch, sm_okL PZ PP 147 q.2.1 q.2.2.2.1 q.2.2.2.2.1 q.2.2.2.2.2 from List.forall_mem_cons.mpr ⟨(List.forall_mem_cons.mpr ⟨trivial, List.forall_mem_cons.mpr ⟨trivial, List.forall_mem_cons.mpr ⟨trivial, List.forall_mem_cons.mpr ⟨trivial, List.forall_mem_cons.mpr ⟨trivial, List.forall_mem_cons.mpr ⟨trivial, List.forall_mem_cons.mpr ⟨⟨_, rfl, Nat.le_of_ble_eq_true rfl, Or.inl (tb3 178 rfl rfl)⟩, List.forall_mem_cons.mpr ⟨trivial, List.forall_mem_cons.mpr ⟨trivial, List.forall_mem_cons.mpr ⟨trivial, List.forall_mem_cons.mpr ⟨trivial, List.forall_mem_cons.mpr ⟨trivial, fun _ h => absurd h List.not_mem_nil⟩⟩⟩⟩⟩⟩⟩⟩⟩⟩⟩⟩), List.forall_mem_cons.mpr ⟨(List.forall_mem_cons.mpr ⟨trivial, List.forall_mem_cons.mpr ⟨⟨_, rfl, Nat.le_of_ble_eq_true rfl, Or.inl (tb3 189 rfl rfl)⟩, List.forall_mem_cons.mpr ⟨trivial, List.forall_mem_cons.mpr ⟨trivial, List.forall_mem_cons.mpr ⟨trivial, List.forall_mem_cons.mpr ⟨trivial, List.forall_mem_cons.mpr ⟨trivial, List.forall_mem_cons.mpr ⟨trivial, fun _ h => absurd h List.not_mem_nil⟩⟩⟩⟩⟩⟩⟩⟩), List.forall_mem_cons.mpr ⟨(List.forall_mem_cons.mpr ⟨trivial, List.forall_mem_cons.mpr ⟨trivial, List.forall_mem_cons.mpr ⟨trivial, List.forall_mem_cons.mpr ⟨trivial, List.forall_mem_cons.mpr ⟨rfl, fun _ h => absurd h List.not_mem_nil⟩⟩⟩⟩⟩), fun _ h => absurd h List.not_mem_nil⟩⟩⟩, by decide +kernel, rfl⟩
set_option maxRecDepth 100000 in
theorem okQ_148 : sm_Q PZ PP 148 := ⟨by decide +kernel, show ∀ ch ∈ pc_148, ∀ q ∈ ch, sm_okL PZ PP 148 q.2.1 q.2.2.2.1 q.2.2.2.2.1 q.2.2.2.2.2 from List.forall_mem_cons.mpr ⟨(List.forall_mem_cons.mpr ⟨trivial, List.forall_mem_cons.mpr ⟨trivial, List.forall_mem_cons.mpr ⟨trivial, List.forall_mem_cons.mpr ⟨trivial, List.forall_mem_cons.mpr ⟨trivial, List.forall_mem_cons.mpr ⟨trivial, List.forall_mem_cons.mpr ⟨trivial, List.forall_mem_cons.mpr ⟨trivial, List.forall_mem_cons.mpr ⟨trivial, List.forall_mem_cons.mpr ⟨trivial, fun _ h => absurd h List.not_mem_nil⟩⟩⟩⟩⟩⟩⟩⟩⟩⟩), List.forall_mem_cons.mpr ⟨(List.forall_mem_cons.mpr ⟨trivial, List.forall_mem_cons.mpr ⟨trivial, List.forall_mem_cons.mpr ⟨trivial, List.forall_mem_cons.mpr ⟨trivial, List.forall_mem_cons.mpr ⟨trivial, List.forall_mem_cons.mpr ⟨trivial, List.forall_mem_cons.mpr ⟨⟨_, rfl, Nat.le_of_ble_eq_true rfl, Or.inl (tb3 189 rfl rfl)⟩, List.forall_mem_cons.mpr ⟨trivial, List.forall_mem_cons.mpr ⟨trivial, List.forall_mem_cons.mpr ⟨trivial, List.forall_mem_cons.mpr ⟨trivial, fun _ h => absurd h List.not_mem_nil⟩⟩⟩⟩⟩⟩⟩⟩⟩⟩⟩), List.forall_mem_cons.mpr ⟨(List.forall_mem_cons.mpr ⟨trivial, List.forall_mem_cons.mpr ⟨⟨_, rfl, Nat.le_of_ble_eq_true rfl, Or.inl (tb3 187 rfl rfl)⟩, List.forall_mem_cons.mpr ⟨trivial, List.forall_mem_cons.mpr ⟨trivial, List.forall_mem_cons.mpr ⟨trivial, List.forall_mem_cons.mpr ⟨trivial, List.forall_mem_cons.mpr ⟨trivial, List.forall_mem_cons.mpr ⟨trivial, fun _ h => absurd h List.not_mem_nil⟩⟩⟩⟩⟩⟩⟩⟩), List.forall_mem_cons.mpr ⟨(List.forall_mem_cons.mpr ⟨trivial, List.forall_mem_cons.mpr ⟨⟨_, rfl, Nat.le_of_ble_eq_true rfl, Or.inl (tb3 193 rfl rfl)⟩, List.forall_mem_cons.mpr ⟨trivial, List.forall_mem_cons.mpr ⟨trivial, List.forall_mem_cons.mpr ⟨⟨_, rfl, Nat.le_of_ble_eq_true rfl, Or.inl (tb3 187 rfl rfl)⟩, List.forall_mem_cons.mpr ⟨trivial, List.forall_mem_cons.mpr ⟨trivial, List.forall_mem_cons.mpr ⟨trivial, List.forall_mem_cons.mpr ⟨trivial, fun _ h => absurd h List.not_mem_nil⟩⟩⟩⟩⟩⟩⟩⟩⟩), List.forall_mem_cons.mpr ⟨(List.forall_mem_cons.mpr ⟨trivial, List.forall_mem_cons.mpr ⟨trivial, List.forall_mem_cons.mpr ⟨trivial, List.forall_mem_cons.mpr ⟨trivial, List.forall_mem_cons.mpr ⟨⟨_, rfl, Nat.le_of_ble_eq_true rfl, Or.inl (tb3 194 rfl rfl)⟩, List.forall_mem_cons.mpr ⟨trivial, List.forall_mem_cons.mpr ⟨trivial, List.forall_mem_cons.mpr ⟨trivial, fun _ h => absurd h List.not_mem_nil⟩⟩⟩⟩⟩⟩⟩⟩), List.forall_mem_cons.mpr ⟨(List.forall_mem_cons.mpr ⟨trivial, List.forall_mem_cons.mpr ⟨trivial, List.forall_mem_cons.mpr ⟨trivial, List.forall_mem_cons.mpr ⟨trivial, List.forall_mem_cons.mpr ⟨trivial, List.forall_mem_cons.mpr ⟨trivial, List.forall_mem_cons.mpr ⟨trivial, List.forall_mem_cons.mpr ⟨trivial, fun _ h => absurd h List.not_mem_nil⟩⟩⟩⟩⟩⟩⟩⟩), List.forall_mem_cons.mpr ⟨(List.forall_mem_cons.mpr ⟨⟨_, rfl, Nat.le_of_ble_eq_true rfl, Or.inl (tb3 193 rfl rfl)⟩, List.forall_mem_cons.mpr ⟨trivial, List.forall_mem_cons.mpr ⟨trivial, List.forall_mem_cons.mpr ⟨⟨_, rfl, Nat.le_of_ble_eq_true rfl, Or.inl (tb3 194 rfl rfl)⟩, List.forall_mem_cons.mpr ⟨trivial, List.forall_mem_cons.mpr ⟨trivial, List.forall_mem_cons.mpr ⟨trivial, List.forall_mem_cons.mpr ⟨trivial, List.forall_mem_cons.mpr ⟨trivial, fun _ h => absurd h List.not_mem_nil⟩⟩⟩⟩⟩⟩⟩⟩⟩), List.forall_mem_cons.mpr ⟨(List.forall_mem_cons.mpr ⟨rfl, fun _ h => absurd h List.not_mem_nil⟩), fun _ h => absurd h List.not_mem_nil⟩⟩⟩⟩⟩⟩⟩⟩, by decide +kernel, rfl⟩
set_option maxRecDepth 100000 in
theorem okQ_149 : sm_Q PZ PP 149 := ⟨by decide +kernel, show ∀ ch ∈ pc_149, ∀ q ∈ ch, sm_okL PZ PP 149 q.2.1 q.2.2.2.1 q.2.2.2.2.1 q.2.2.2.2.2 from List.forall_mem_cons.mpr ⟨(List.forall_mem_cons.mpr ⟨trivial, List.forall_mem_cons.mpr ⟨trivial, List.forall_mem_cons.mpr ⟨trivial, List.forall_mem_cons.mpr ⟨trivial, List.forall_mem_cons.mpr ⟨trivial, List.forall_mem_cons.mpr ⟨trivial, List.forall_mem_cons.mpr ⟨⟨_, rfl, Nat.le_of_ble_eq_true rfl, Or.inl (tb3 193 rfl rfl)⟩, List.forall_mem_cons.mpr ⟨trivial, List.forall_mem_cons.mpr ⟨trivial, List.forall_mem_cons.mpr ⟨trivial, fun _ h => absurd h List.not_mem_nil⟩⟩⟩⟩⟩⟩⟩⟩⟩⟩), List.forall_mem_cons.mpr ⟨(List.forall_mem_cons.mpr ⟨trivial, List.forall_mem_cons.mpr ⟨trivial, List.forall_mem_cons.mpr ⟨trivial, List.forall_mem_cons.mpr ⟨trivial, List.forall_mem_cons.mpr ⟨trivial, List.forall_mem_cons.mpr ⟨trivial, List.forall_mem_cons.mpr ⟨trivial, List.forall_mem_cons.mpr ⟨trivial, fun _ h => absurd h List.not_mem_nil⟩⟩⟩⟩⟩⟩⟩⟩), List.forall_mem_cons.mpr ⟨(List.forall_mem_cons.mpr ⟨trivial, List.forall_mem_cons.mpr ⟨trivial, List.forall_mem_cons.mpr ⟨⟨_, rfl, Nat.le_of_ble_eq_true rfl, Or.inl (tb3 178 rfl rfl)⟩, List.forall_mem_cons.mpr ⟨trivial, List.forall_mem_cons.mpr ⟨trivial, List.forall_mem_cons.mpr ⟨trivial, List.forall_mem_cons.mpr ⟨trivial, List.forall_mem_cons.mpr ⟨trivial, List.forall_mem_cons.mpr ⟨trivial, List.forall_mem_cons.mpr ⟨trivial, fun _ h => absurd h List.not_mem_nil⟩⟩⟩⟩⟩⟩⟩⟩⟩⟩), List.forall_mem_cons.mpr ⟨(List.forall_mem_cons.mpr ⟨trivial, List.forall_mem_cons.mpr ⟨⟨⟨okm_148.1, okm_148.2.1, okm_148.2.2.1, okm_148.2.2.2, Nat.le_of_ble_eq_true rfl, Nat.le_of_ble_eq_true rfl, Or.inl (tb4 190 rfl rfl)⟩, Nat.le_of_ble_eq_true rfl, oki_148, okv_148, ⟨_, rfl, rfl⟩⟩, List.forall_mem_cons.mpr ⟨trivial, List.forall_mem_cons.mpr ⟨trivial, List.forall_mem_cons.mpr ⟨rfl, fun _ h => absurd h List.not_mem_nil⟩⟩⟩⟩⟩), fun _ h => absurd h List.not_mem_nil⟩⟩⟩⟩, by decide +kernel, rfl⟩
set_option maxRecDepth 100000 in
theorem okQ_150 : sm_Q PZ PP 150 := ⟨by decide +kernel, show ∀ ch ∈ pc_150, ∀ q ∈ ch, sm_okL PZ PP 150 q.2.1 q.2.2.2.1 q.2.2.2.2.1 q.2.2.2.2.2 from List.forall_mem_cons.mpr ⟨(List.forall_mem_cons.mpr ⟨trivial, List.forall_mem_cons.mpr ⟨trivial, List.forall_mem_cons.mpr ⟨⟨⟨okm_116.1, okm_116.2.1, okm_116.2.2.1, okm_116.2.2.2, Nat.le_of_ble_eq_true rfl, Nat.le_of_ble_eq_true rfl, Or.inl (tb4 29 rfl rfl)⟩, Nat.le_of_ble_eq_true rfl, oki_116, okv_116, ⟨_, rfl, rfl⟩⟩, List.forall_mem_cons.mpr ⟨trivial, List.forall_mem_cons.mpr ⟨trivial, List.forall_mem_cons.mpr ⟨rfl, List.forall_mem_cons.mpr ⟨trivial, List.forall_mem_cons.mpr ⟨⟨⟨okm_140.1, okm_140.2.1, okm_140.2.2.1, okm_140.2.2.2, Nat.le_of_ble_eq_true rfl, Nat.le_of_ble_eq_true rfl, Or.inl (tb4 157 rfl rfl)⟩, Nat.le_of_ble_eq_true rfl, oki_140, okv_140, ⟨_, rfl, rfl⟩⟩, List.forall_mem_cons.mpr ⟨trivial, fun _ h => absurd h List.not_mem_nil⟩⟩⟩⟩⟩⟩⟩⟩⟩), List.forall_mem_cons.mpr ⟨(List.forall_mem_cons.mpr ⟨trivial, List.forall_mem_cons.mpr ⟨trivial, List.forall_mem_cons.mpr ⟨trivial, List.forall_mem_cons.mpr ⟨trivial, List.forall_mem_cons.mpr ⟨⟨_, rfl, Nat.le_of_ble_eq_true rfl, Or.inl (tb3 178 rfl rfl)⟩, List.forall_mem_cons.mpr ⟨trivial, List.forall_mem_cons.mpr ⟨trivial, List.forall_mem_cons.mpr ⟨trivial, List.forall_mem_cons.mpr ⟨trivial, List.forall_mem_cons.mpr ⟨trivial, List.forall_mem_cons.mpr ⟨trivial, fun _ h => absurd h List.not_mem_nil⟩⟩⟩⟩⟩⟩⟩⟩⟩⟩⟩), List.forall_mem_cons.mpr ⟨(List.forall_mem_cons.mpr ⟨trivial, List.forall_mem_cons.mpr ⟨⟨⟨okm_147.1, okm_147.2.1, okm_147.2.2.1, okm_147.2.2.2, Nat.le_of_ble_eq_true rfl, Nat.le_of_ble_eq_true rfl, Or.inl (tb4 182 rfl rfl)⟩, Nat.le_of_ble_eq_true rfl, oki_147, okv_147, ⟨_, rfl, rfl⟩⟩, List.forall_mem_cons.mpr ⟨trivial, List.forall_mem_cons.mpr ⟨trivial, List.forall_mem_cons.mpr ⟨⟨_, rfl, Nat.le_of_ble_eq_true rfl, Or.inl (tb3 189 rfl rfl)⟩, List.forall_mem_cons.mpr ⟨trivial, List.forall_mem_cons.mpr ⟨trivial, List.forall_mem_cons.mpr ⟨trivial, List.forall_mem_cons.mpr ⟨trivial, fun _ h => absurd h List.not_mem_nil⟩⟩⟩⟩⟩⟩⟩⟩⟩), List.forall_mem_cons.mpr ⟨(List.forall_mem_cons.mpr ⟨trivial, List.forall_mem_cons.mpr ⟨trivial, List.forall_mem_cons.mpr ⟨trivial, List.forall_mem_cons.mpr ⟨⟨_, rfl, Nat.le_of_ble_eq_true rfl, Or.inl (tb3 187 rfl rfl)⟩, List.forall_mem_cons.mpr ⟨trivial, List.forall_mem_cons.mpr ⟨trivial, List.forall_mem_cons.mpr ⟨rfl, List.forall_mem_cons.mpr ⟨trivial, List.forall_mem_cons.mpr ⟨trivial, fun _ h => absurd h List.not_mem_nil⟩⟩⟩⟩⟩⟩⟩⟩⟩), List.forall_mem_cons.mpr ⟨(List.forall_mem_cons.mpr ⟨⟨⟨okm_149.1, okm_149.2.1, okm_149.2.2.1, okm_149.2.2.2, Nat.le_of_ble_eq_true rfl, Nat.le_of_ble_eq_true rfl, Or.inl (tb4 186 rfl rfl)⟩, Nat.le_of_ble_eq_true rfl, oki_149, okv_149, ⟨_, rfl, rfl⟩⟩, List.forall_mem_cons.mpr ⟨trivial, List.forall_mem_cons.mpr ⟨trivial, List.forall_mem_cons.mpr ⟨trivial, List.forall_mem_cons.mpr ⟨trivial, List.forall_mem_cons.mpr ⟨trivial, List.forall_mem_cons.mpr ⟨trivial, List.forall_mem_cons.mpr ⟨trivial, List.forall_mem_cons.mpr ⟨trivial, fun _ h => absurd h List.not_mem_nil⟩⟩⟩⟩⟩⟩⟩⟩⟩), List.forall_mem_cons.mpr ⟨(List.forall_mem_cons.mpr ⟨trivial, List.forall_mem_cons.mpr ⟨⟨_, rfl, Nat.le_of_ble_eq_true rfl, Or.inl (tb3 189 rfl rfl)⟩, List.forall_mem_cons.mpr ⟨trivial, List.forall_mem_cons.mpr ⟨trivial, List.forall_mem_cons.mpr ⟨trivial, List.forall_mem_cons.mpr ⟨trivial, List.forall_mem_cons.mpr ⟨trivial, List.forall_mem_cons.mpr ⟨trivial, List.forall_mem_cons.mpr ⟨⟨_, rfl, Nat.le_of_ble_eq_true rfl, Or.inl (tb3 187 rfl rfl)⟩, List.forall_mem_cons.mpr ⟨trivial, fun _ h => absurd h List.not_mem_nil⟩⟩⟩⟩⟩⟩⟩⟩⟩⟩), List.forall_mem_cons.mpr ⟨(List.forall_mem_cons.mpr ⟨trivial, List.forall_mem_cons.mpr ⟨trivial, List.forall_mem_cons.mpr ⟨trivial, List.forall_mem_cons.mpr ⟨trivial, List.forall_mem_cons.mpr ⟨trivial, List.forall_mem_cons.mpr ⟨trivial, List.forall_mem_cons.mpr ⟨⟨⟨okm_107.1, okm_107.2.1, okm_107.2.2.1, okm_107.2.2.2, Nat.le_of_ble_eq_true rfl, Nat.le_of_ble_eq_true rfl, Or.inl (tb3 237 rfl rfl)⟩, Nat.le_of_ble_eq_true rfl, oks_107⟩, List.forall_mem_cons.mpr ⟨trivial, fun _ h => absurd h List.not_mem_nil⟩⟩⟩⟩⟩⟩⟩⟩), List.forall_mem_cons.mpr ⟨(List.forall_mem_cons.mpr ⟨trivial, List.forall_mem_cons.mpr ⟨⟨_, rfl, Nat.le_of_ble_eq_true rfl, Or.inl (tb3 193 rfl rfl)⟩, List.forall_mem_cons.mpr ⟨trivial, List.forall_mem_cons.mpr ⟨trivial, List.forall_mem_cons.mpr ⟨trivial, List.forall_mem_cons.mpr ⟨trivial, List.forall_mem_cons.mpr ⟨trivial, List.forall_mem_cons.mpr ⟨⟨_, rfl, Nat.le_of_ble_eq_true rfl, Or.inl (tb3 187 rfl rfl)⟩, fun _ h => absurd h List.not_mem_nil⟩⟩⟩⟩⟩⟩⟩⟩), List.forall_mem_cons.mpr ⟨(List.forall_mem_cons.mpr ⟨trivial, List.forall_mem_cons.mpr ⟨trivial, List.forall_mem_cons.mpr ⟨trivial, List.forall_mem_cons.mpr ⟨trivial, List.forall_mem_cons.mpr ⟨trivial, List.forall_mem_cons.mpr ⟨trivial, List.forall_mem_cons.mpr ⟨trivial, fun _ h => absurd h List.not_mem_nil⟩⟩⟩⟩⟩⟩⟩), List.forall_mem_cons.mpr ⟨(List.forall_mem_cons.mpr ⟨trivial, List.forall_mem_cons.mpr ⟨trivial, List.forall_mem_cons.mpr ⟨trivial, List.forall_mem_cons.mpr ⟨trivial, List.forall_mem_cons.mpr ⟨rfl, fun _ h => absurd h List.not_mem_nil⟩⟩⟩⟩⟩), fun _ h => absurd h List.not_mem_nil⟩⟩⟩⟩⟩⟩⟩⟩⟩⟩, by decide +kernel, rfl⟩
set_option maxRecDepth 100000 in
theorem okQ_151 : sm_Q PZ PP 151 := ⟨by decide +kernel, show ∀ ch ∈ pc_151, ∀ q ∈ ch, sm_okL PZ PP 151 q.2.1 q.2.2.2.1 q.2.2.2.2.1 q.2.2.2.2.2 from List.forall_mem_cons.mpr ⟨(List.forall_mem_cons.mpr ⟨trivial, List.forall_mem_cons.mpr ⟨trivial, List.forall_mem_cons.mpr ⟨trivial, List.forall_mem_cons.mpr ⟨trivial, List.forall_mem_cons.mpr ⟨trivial, List.forall_mem_cons.mpr ⟨trivial, List.forall_mem_cons.mpr ⟨⟨_, rfl, Nat.le_of_ble_eq_true rfl, Or.inl (tb3 195 rfl rfl)⟩, List.forall_mem_cons.mpr ⟨trivial, List.forall_mem_cons.mpr ⟨trivial, List.forall_mem_cons.mpr ⟨trivial, List.forall_mem_cons.mpr ⟨trivial, fun _ h => absurd h List.not_mem_nil⟩⟩⟩⟩⟩⟩⟩⟩⟩⟩⟩), List.forall_mem_cons.mpr ⟨(List.forall_mem_cons.mpr ⟨trivial, List.forall_mem_cons.mpr ⟨trivial, List.forall_mem_cons.mpr ⟨trivial, List.forall_mem_cons.mpr ⟨trivial, List.forall_mem_cons.mpr ⟨trivial, List.forall_mem_cons.mpr ⟨trivial, List.forall_mem_cons.mpr ⟨trivial, List.forall_mem_cons.mpr ⟨trivial, fun _ h => absurd h List.not_mem_nil⟩⟩⟩⟩⟩⟩⟩⟩), List.forall_mem_cons.mpr ⟨(List.forall_mem_cons.mpr ⟨trivial, List.forall_mem_cons.mpr ⟨trivial, List.forall_mem_cons.mpr ⟨trivial, List.forall_mem_cons.mpr ⟨trivial, List.forall_mem_cons.mpr ⟨⟨_, rfl, Nat.le_of_ble_eq_true rfl, Or.inl (tb3 189 rfl rfl)⟩, List.forall_mem_cons.mpr ⟨trivial, List.forall_mem_cons.mpr ⟨trivial, List.forall_mem_cons.mpr ⟨trivial, List.forall_mem_cons.mpr ⟨trivial, List.forall_mem_cons.mpr ⟨trivial, fun _ h => absurd h List.not_mem_nil⟩⟩⟩⟩⟩⟩⟩⟩⟩⟩), List.forall_mem_cons.mpr ⟨(List.forall_mem_cons.mpr ⟨trivial, List.forall_mem_cons.mpr ⟨⟨_, rfl, Nat.le_of_ble_eq_true rfl, Or.inl (tb3 187 rfl rfl)⟩, List.forall_mem_cons.mpr ⟨trivial, List.forall_mem_cons.mpr ⟨trivial, List.forall_mem_cons.mpr ⟨⟨⟨okm_129.1, okm_129.2.1, okm_129.2.2.1, okm_129.2.2.2, Nat.le_of_ble_eq_true rfl, Nat.le_of_ble_eq_true rfl, Or.inl (tb4 80 rfl rfl)⟩, Nat.le_of_ble_eq_true rfl, oki_129, okv_129, ⟨_, rfl, rfl⟩⟩, List.forall_mem_cons.mpr ⟨trivial, List.forall_mem_cons.mpr ⟨⟨_, rfl, Nat.le_of_ble_eq_true rfl, Or.inl (tb3 185 rfl rfl)⟩, List.forall_mem_cons.mpr ⟨trivial, List.forall_mem_cons.mpr ⟨trivial, fun _ h => absurd h List.not_mem_nil⟩⟩⟩⟩⟩⟩⟩⟩⟩), List.forall_mem_cons.mpr ⟨(List.forall_mem_cons.mpr ⟨trivial, List.forall_mem_cons.mpr ⟨trivial, List.forall_mem_cons.mpr ⟨trivial, List.forall_mem_cons.mpr ⟨trivial, List.forall_mem_cons.mpr ⟨⟨_, rfl, Nat.le_of_ble_eq_true rfl, Or.inl (tb3 195 rfl rfl)⟩, List.forall_mem_cons.mpr ⟨trivial, List.forall_mem_cons.mpr ⟨trivial, List.forall_mem_cons.mpr ⟨trivial, List.forall_mem_cons.mpr ⟨trivial, List.forall_mem_cons.mpr ⟨trivial, List.forall_mem_cons.mpr ⟨trivial, fun _ h => absurd h List.not_mem_nil⟩⟩⟩⟩⟩⟩⟩⟩⟩⟩⟩), List.forall_mem_cons.mpr ⟨(List.forall_mem_cons.mpr ⟨trivial, List.forall_mem_cons.mpr ⟨⟨_, rfl, Nat.le_of_ble_eq_true rfl, Or.inl (tb3 195 rfl rfl)⟩, List.forall_mem_cons.mpr ⟨trivial, List.forall_mem_cons.mpr ⟨trivial, List.forall_mem_cons.mpr ⟨trivial, List.forall_mem_cons.mpr ⟨trivial, List.forall_mem_cons.mpr ⟨trivial, List.forall_mem_cons.mpr ⟨⟨_, rfl, Nat.le_of_ble_eq_true rfl, Or.inl (tb3 195 rfl rfl)⟩, List.forall_mem_cons.mpr ⟨trivial, fun _ h => absurd h List.not_mem_nil⟩⟩⟩⟩⟩⟩⟩⟩⟩), List.forall_mem_cons.mpr ⟨(List.forall_mem_cons.mpr ⟨trivial, List.forall_mem_cons.mpr ⟨trivial, List.forall_mem_cons.mpr ⟨trivial, List.forall_mem_cons.mpr ⟨trivial, List.forall_mem_cons.mpr ⟨trivial, List.forall_mem_cons.mpr ⟨trivial, List.forall_mem_cons.mpr ⟨trivial, List.forall_mem_cons.mpr ⟨rfl, fun _ h => absurd h List.not_mem_nil⟩⟩⟩⟩⟩⟩⟩⟩), fun _ h => absurd h List.not_mem_nil⟩⟩⟩⟩⟩⟩⟩, by decide +kernel, rfl⟩
set_option maxRecDepth 100000 in
theorem okQ_152 : sm_Q PZ PP 152 := ⟨by decide +kernel, show ∀ ch ∈ pc_152, ∀ q ∈ ch, sm_okL PZ PP 152 q.2.1 q.2.2.2.1 q.2.2.2.2.1 q.2.2.2.2.2 from List.forall_mem_cons.mpr ⟨(List.forall_mem_cons.mpr ⟨trivial, List.forall_mem_cons.mpr ⟨trivial, List.forall_mem_cons.mpr ⟨⟨⟨okm_116.1, okm_116.2.1, okm_116.2.2.1, okm_116.2.2.2, Nat.le_of_ble_eq_true rfl, Nat.le_of_ble_eq_true rfl, Or.inl (tb4 29 rfl rfl)⟩, Nat.le_of_ble_eq_true rfl, oki_116, okv_116, ⟨_, rfl, rfl⟩⟩, List.forall_mem_cons.mpr ⟨trivial, List.forall_mem_cons.mpr ⟨trivial, List.forall_mem_cons.mpr ⟨rfl, List.forall_mem_cons.mpr ⟨trivial, List.forall_mem_cons.mpr ⟨trivial, List.forall_mem_cons.mpr ⟨⟨⟨okm_134.1, okm_134.2.1, okm_134.2.2.1, okm_134.2.2.2, Nat.le_of_ble_eq_true rfl, Nat.le_of_ble_eq_true rfl, Or.inl (tb4 129 rfl rfl)⟩, Nat.le_of_ble_eq_true rfl, oki_134, okv_134, ⟨_, rfl, rfl⟩⟩, List.forall_mem_cons.mpr ⟨trivial, fun _ h => absurd h List.not_mem_nil⟩⟩⟩⟩⟩⟩⟩⟩⟩⟩), List.forall_mem_cons.mpr ⟨(List.forall_mem_cons.mpr ⟨trivial, List.forall_mem_cons.mpr ⟨⟨⟨okm_118.1, okm_118.2.1, okm_118.2.2.1, okm_118.2.2.2, Nat.le_of_ble_eq_true rfl, Nat.le_of_ble_eq_true rfl, Or.inl (tb4 41 rfl rfl)⟩, Nat.le_of_ble_eq_true rfl, oks_118⟩, List.forall_mem_cons.mpr ⟨trivial, List.forall_mem_cons.mpr ⟨trivial, List.forall_mem_cons.mpr ⟨trivial, List.forall_mem_cons.mpr ⟨trivial, List.forall_mem_cons.mpr ⟨trivial, List.forall_mem_cons.mpr ⟨trivial, List.forall_mem_cons.mpr ⟨trivial, fun _ h => absurd h List.not_mem_nil⟩⟩⟩⟩⟩⟩⟩⟩⟩), List.forall_mem_cons.mpr ⟨(List.forall_mem_cons.mpr ⟨trivial, List.forall_mem_cons.mpr ⟨trivial, List.forall_mem_cons.mpr ⟨⟨_, rfl, Nat.le_of_ble_eq_true rfl, Or.inl (tb3 178 rfl rfl)⟩, List.forall_mem_cons.mpr ⟨trivial, List.forall_mem_cons.mpr ⟨trivial, List.forall_mem_cons.mpr ⟨trivial, List.forall_mem_cons.mpr ⟨trivial, List.forall_mem_cons.mpr ⟨⟨_, rfl, Nat.le_of_ble_eq_true rfl, Or.inl (tb3 189 rfl rfl)⟩, List.forall_mem_cons.mpr ⟨trivial, fun _ h => absurd h List.not_mem_nil⟩⟩⟩⟩⟩⟩⟩⟩⟩), List.forall_mem_cons.mpr ⟨(List.forall_mem_cons.mpr ⟨trivial, List.forall_mem_cons.mpr ⟨trivial, List.forall_mem_cons.mpr ⟨trivial, List.forall_mem_cons.mpr ⟨trivial, List.forall_mem_cons.mpr ⟨⟨_, rfl, Nat.le_of_ble_eq_true rfl, Or.inl (tb3 178 rfl rfl)⟩, List.forall_mem_cons.mpr ⟨trivial, List.forall_mem_cons.mpr ⟨trivial, List.forall_mem_cons.mpr ⟨trivial, List.forall_mem_cons.mpr ⟨trivial, List.forall_mem_cons.mpr ⟨trivial, List.forall_mem_cons.mpr ⟨trivial, fun _ h => absurd h List.not_mem_nil⟩⟩⟩⟩⟩⟩⟩⟩⟩⟩⟩), List.forall_mem_cons.mpr ⟨(List.forall_mem_cons.mpr ⟨trivial, List.forall_mem_cons.mpr ⟨trivial, List.forall_mem_cons.mpr ⟨trivial, List.forall_mem_cons.mpr ⟨trivial, List.forall_mem_cons.mpr ⟨trivial, List.forall_mem_cons.mpr ⟨⟨⟨okm_151.1, okm_151.2.1, okm_151.2.2.1, okm_151.2.2.2, Nat.le_of_ble_eq_true rfl, Nat.le_of_ble_eq_true rfl, Or.inl (tb4 198 rfl rfl)⟩, Nat.le_of_ble_eq_true rfl, oki_151, okv_151, ⟨_, rfl, rfl⟩⟩, List.forall_mem_cons.mpr ⟨trivial, List.forall_mem_cons.mpr ⟨trivial, fun _ h => absurd h List.not_mem_nil⟩⟩⟩⟩⟩⟩⟩⟩), List.forall_mem_cons.mpr ⟨(List.forall_mem_cons.mpr ⟨trivial, List.forall_mem_cons.mpr ⟨trivial, List.forall_mem_cons.mpr ⟨trivial, List.forall_mem_cons.mpr ⟨trivial, List.forall_mem_cons.mpr ⟨trivial, List.forall_mem_cons.mpr ⟨trivial, List.forall_mem_cons.mpr ⟨trivial, List.forall_mem_cons.mpr ⟨trivial, fun _ h => absurd h List.not_mem_nil⟩⟩⟩⟩⟩⟩⟩⟩), List.forall_mem_cons.mpr ⟨(List.forall_mem_cons.mpr ⟨trivial, List.forall_mem_cons.mpr ⟨trivial, List.forall_mem_cons.mpr ⟨trivial, List.forall_mem_cons.mpr ⟨trivial, List.forall_mem_cons.mpr ⟨trivial, List.forall_mem_cons.mpr ⟨trivial, List.forall_mem_cons.mpr ⟨trivial, fun _ h => absurd h List.not_mem_nil⟩⟩⟩⟩⟩⟩⟩), List.forall_mem_cons.mpr ⟨(List.forall_mem_cons.mpr ⟨trivial, List.forall_mem_cons.mpr ⟨rfl, fun _ h => absurd h List.not_mem_nil⟩⟩), fun _ h => absurd h List.not_mem_nil⟩⟩⟩⟩⟩⟩⟩⟩, by decide +kernel, rfl⟩
set_option maxRecDepth 100000 in
theorem okQ_153 : sm_Q PZ PP 153 := ⟨by decide +kernel, show ∀ ch ∈ pc_153, ∀ q ∈ ch, sm_okL PZ PP 153 q.2.1 q.2.2.2.1 q.2.2.2.2.1 q.2.2.2.2.2 from List.forall_mem_cons.mpr ⟨(List.forall_mem_cons.mpr ⟨trivial, List.forall_mem_cons.mpr ⟨trivial, List.forall_mem_cons.mpr ⟨trivial, List.forall_mem_cons.mpr ⟨⟨⟨okm_107.1, okm_107.2.1, okm_107.2.2.1, okm_107.2.2.2, Nat.le_of_ble_eq_true rfl, Nat.le_of_ble_eq_true rfl, Or.inl (tb3 237 rfl rfl)⟩, Nat.le_of_ble_eq_true rfl, oks_107⟩, List.forall_mem_cons.mpr ⟨trivial, List.forall_mem_cons.mpr ⟨trivial, List.forall_mem_cons.mpr ⟨rfl, List.forall_mem_cons.mpr ⟨trivial, List.forall_mem_cons.mpr ⟨⟨_, rfl, Nat.le_of_ble_eq_true rfl, Or.inl (tb3 178 rfl rfl)⟩, List.forall_mem_cons.mpr ⟨trivial, fun _ h => absurd h List.not_mem_nil⟩⟩⟩⟩⟩⟩⟩⟩⟩⟩), List.forall_mem_cons.mpr ⟨(List.forall_mem_cons.mpr ⟨trivial, List.forall_mem_cons.mpr ⟨⟨_, rfl, Nat.le_of_ble_eq_true rfl, Or.inl (tb3 181 rfl rfl)⟩, List.forall_mem_cons.mpr ⟨trivial, List.forall_mem_cons.mpr ⟨trivial, List.forall_mem_cons.mpr ⟨trivial, List.forall_mem_cons.mpr ⟨trivial, List.forall_mem_cons.mpr ⟨⟨⟨okm_113.1, okm_113.2.1, okm_113.2.2.1, okm_113.2.2.2, Nat.le_of_ble_eq_true rfl, Nat.le_of_ble_eq_true rfl, Or.inl (tb4 22 rfl rfl)⟩, Nat.le_of_ble_eq_true rfl, oks_113⟩, List.forall_mem_cons.mpr ⟨trivial, fun _ h => absurd h List.not_mem_nil⟩⟩⟩⟩⟩⟩⟩⟩), List.forall_mem_cons.mpr ⟨(List.forall_mem_cons.mpr ⟨⟨_, rfl, Nat.le_of_ble_eq_true rfl, Or.inl (tb3 182 rfl rfl)⟩, List.forall_mem_cons.mpr ⟨trivial, List.forall_mem_cons.mpr ⟨trivial, List.forall_mem_cons.mpr ⟨trivial, List.forall_mem_cons.mpr ⟨trivial, List.forall_mem_cons.mpr ⟨⟨_, rfl, Nat.le_of_ble_eq_true rfl, Or.inl (tb3 178 rfl rfl)⟩, List.forall_mem_cons.mpr ⟨trivial, List.forall_mem_cons.mpr ⟨trivial, List.forall_mem_cons.mpr ⟨rfl, fun _ h => absurd h List.not_mem_nil⟩⟩⟩⟩⟩⟩⟩⟩⟩), fun _ h => absurd h List.not_mem_nil⟩⟩⟩, by decide +kernel, rfl⟩
set_option maxRecDepth 100000 in
theorem okQ_154 : sm_Q PZ PP 154 := ⟨by decide +kernel, show ∀ ch ∈ pc_154, ∀ q ∈ ch, sm_okL PZ PP 154 q.2.1 q.2.2.2.1 q.2.2.2.2.1 q.2.2.2.2.2 from List.forall_mem_cons.mpr ⟨(List.forall_mem_cons.mpr ⟨trivial, List.forall_mem_cons.mpr ⟨trivial, List.forall_mem_cons.mpr ⟨trivial, List.forall_mem_cons.mpr ⟨⟨⟨okm_107.1, okm_107.2.1, okm_107.2.2.1, okm_107.2.2.2, Nat.le_of_ble_eq_true rfl, Nat.le_of_ble_eq_true rfl, Or.inl (tb3 237 rfl rfl)⟩, Nat.le_of_ble_eq_true rfl, oks_107⟩, List.forall_mem_cons.mpr ⟨trivial, List.forall_mem_cons.mpr ⟨trivial, List.forall_mem_cons.mpr ⟨rfl, List.forall_mem_cons.mpr ⟨trivial, List.forall_mem_cons.mpr ⟨⟨_, rfl, Nat.le_of_ble_eq_true rfl, Or.inl (tb3 182 rfl rfl)⟩, List.forall_mem_cons.mpr ⟨trivial, fun _ h => absurd h List.not_mem_nil⟩⟩⟩⟩⟩⟩⟩⟩⟩⟩), List.forall_mem_cons.mpr ⟨(List.forall_mem_cons.mpr ⟨trivial, List.forall_mem_cons.mpr ⟨trivial, List.forall_mem_cons.mpr ⟨trivial, List.forall_mem_cons.mpr ⟨rfl, List.forall_mem_cons.mpr ⟨trivial, List.forall_mem_cons.mpr ⟨⟨_, rfl, Nat.le_of_ble_eq_true rfl, Or.inl (tb3 181 rfl rfl)⟩, List.forall_mem_cons.mpr ⟨trivial, List.forall_mem_cons.mpr ⟨trivial, List.forall_mem_cons.mpr ⟨trivial, fun _ h => absurd h List.not_mem_nil⟩⟩⟩⟩⟩⟩⟩⟩⟩), List.forall_mem_cons.mpr ⟨(List.forall_mem_cons.mpr ⟨trivial, List.forall_mem_cons.mpr ⟨⟨_, rfl, Nat.le_of_ble_eq_true rfl, Or.inl (tb3 178 rfl rfl)⟩, List.forall_mem_cons.mpr ⟨trivial, List.forall_mem_cons.mpr ⟨trivial, List.forall_mem_cons.mpr ⟨⟨⟨okm_113.1, okm_113.2.1, okm_113.2.2.1, okm_113.2.2.2, Nat.le_of_ble_eq_true rfl, Nat.le_of_ble_eq_true rfl, Or.inl (tb4 22 rfl rfl)⟩, Nat.le_of_ble_eq_true rfl, oks_113⟩, List.forall_mem_cons.mpr ⟨trivial, List.forall_mem_cons.mpr ⟨trivial, List.forall_mem_cons.mpr ⟨⟨_, rfl, Nat.le_of_ble_eq_true rfl, ⟨.int, by decide +kernel, rfl⟩, Or.inl ⟨rfl, Or.inl (tb3 180 rfl rfl)⟩⟩, fun _ h => absurd h List.not_mem_nil⟩⟩⟩⟩⟩⟩⟩⟩), List.forall_mem_cons.mpr ⟨(List.forall_mem_cons.mpr ⟨trivial, List.forall_mem_cons.mpr ⟨⟨_, rfl, Nat.le_of_ble_eq_true rfl, Or.inl (tb3 178 rfl rfl)⟩, List.forall_mem_cons.mpr ⟨trivial, List.forall_mem_cons.mpr ⟨trivial, List.forall_mem_cons.mpr ⟨rfl, fun _ h => absurd h List.not_mem_nil⟩⟩⟩⟩⟩), fun _ h => absurd h List.not_mem_nil⟩⟩⟩⟩, by decide +kernel, rfl⟩
set_option maxRecDepth 100000 in
theorem okQ_155 : sm_Q PZ PP 155 := ⟨by decide +kernel, show ∀ ch ∈ pc_155, ∀ q ∈ ch, sm_okL PZ PP 155 q.2.1 q.2.2.2.1 q.2.2.2.2.1 q.2.2.2.2.2 from List.forall_mem_cons.mpr ⟨(List.forall_mem_cons.mpr ⟨trivial, List.forall_mem_cons.mpr ⟨trivial, List.forall_mem_cons.mpr ⟨trivial, List.forall_mem_cons.mpr ⟨trivial, List.forall_mem_cons.mpr ⟨trivial, List.forall_mem_cons.mpr ⟨trivial, List.forall_mem_cons.mpr ⟨trivial, List.forall_mem_cons.mpr ⟨trivial, List.forall_mem_cons.mpr ⟨trivial, List.forall_mem_cons.mpr ⟨trivial, List.forall_mem_cons.mpr ⟨trivial, List.forall_mem_cons.mpr ⟨⟨⟨okm_140.1, okm_140.2.1, okm_140.2.2.1, okm_140.2.2.2, Nat.le_of_ble_eq_true rfl, Nat.le_of_ble_eq_true rfl, Or.inl (tb4 157 rfl rfl)⟩, Nat.le_of_ble_eq_true rfl, oki_140, okv_140, ⟨_, rfl, rfl⟩⟩, fun _ h => absurd h List.not_mem_nil⟩⟩⟩⟩⟩⟩⟩⟩⟩⟩⟩⟩), List.forall_mem_cons.mpr ⟨(List.forall_mem_cons.mpr ⟨trivial, List.forall_mem_cons.mpr ⟨trivial, List.forall_mem_cons.mpr ⟨trivial, List.forall_mem_cons.mpr ⟨trivial, List.forall_mem_cons.mpr ⟨⟨_, rfl, Nat.le_of_ble_eq_true rfl, Or.inl (tb3 178 rfl rfl)⟩, List.forall_mem_cons.mpr ⟨trivial, List.forall_mem_cons.mpr ⟨trivial, List.forall_mem_cons.mpr ⟨trivial, fun _ h => absurd h List.not_mem_nil⟩⟩⟩⟩⟩⟩⟩⟩), List.forall_mem_cons.mpr ⟨(List.forall_mem_cons.mpr ⟨trivial, List.forall_mem_cons.mpr ⟨trivial, List.forall_mem_cons.mpr ⟨⟨_, rfl, Nat.le_of_ble_eq_true rfl, Or.inl (tb3 189 rfl rfl)⟩, List.forall_mem_cons.mpr ⟨trivial, List.forall_mem_cons.mpr ⟨trivial, List.forall_mem_cons.mpr ⟨trivial, List.forall_mem_cons.mpr ⟨trivial, List.forall_mem_cons.mpr ⟨trivial, List.forall_mem_cons.mpr ⟨trivial, fun _ h => absurd h List.not_mem_nil⟩⟩⟩⟩⟩⟩⟩⟩⟩), List.forall_mem_cons.mpr ⟨(List.forall_mem_cons.mpr ⟨trivial, List.forall_mem_cons.mpr ⟨trivial, List.forall_mem_cons.mpr ⟨trivial, List.forall_mem_cons.mpr ⟨trivial, List.forall_mem_cons.mpr ⟨trivial, List.forall_mem_cons.mpr ⟨⟨⟨okm_121.1, okm_121.2.1, okm_121.2.2.1, okm_121.2.2.2, Nat.le_of_ble_eq_true rfl, Nat.le_of_ble_eq_true rfl, Or.inl (tb4 48 rfl rfl)⟩, Nat.le_of_ble_eq_true rfl, oki_121, okv_121, ⟨_, rfl, rfl⟩⟩, List.forall_mem_cons.mpr ⟨trivial, List.forall_mem_cons.mpr ⟨trivial, List.forall_mem_cons.mpr ⟨trivial, List.forall_mem_cons.mpr ⟨trivial, fun _ h => absurd h List.not_mem_nil⟩⟩⟩⟩⟩⟩⟩⟩⟩⟩), List.forall_mem_cons.mpr ⟨(List.forall_mem_cons.mpr ⟨trivial, List.forall_mem_cons.mpr ⟨trivial, fun _ h => absurd h List.not_mem_nil⟩⟩), List.forall_mem_cons.mpr ⟨(fun _ h => absurd h List.not_mem_nil), List.forall_mem_cons.mpr ⟨(List.forall_mem_cons.mpr ⟨trivial, List.forall_mem_cons.mpr ⟨⟨_, rfl, Nat.le_of_ble_eq_true rfl, Or.inl (tb3 178 rfl rfl)⟩, fun _ h => absurd h List.not_mem_nil⟩⟩), List.forall_mem_cons.mpr ⟨(List.forall_mem_cons.mpr ⟨trivial, List.forall_mem_cons.mpr ⟨trivial, List.forall_mem_cons.mpr ⟨rfl, List.forall_mem_cons.mpr ⟨trivial, List.forall_mem_cons.mpr ⟨rfl, List.forall_mem_cons.mpr ⟨trivial, List.forall_mem_cons.mpr ⟨⟨_, rfl, Nat.le_of_ble_eq_true rfl, Or.inl (tb3 178 rfl rfl)⟩, List.forall_mem_cons.mpr ⟨trivial, List.forall_mem_cons.mpr ⟨trivial, List.forall_mem_cons.mpr ⟨rfl, List.forall_mem_cons.mpr ⟨trivial, List.forall_mem_cons.mpr ⟨⟨_, rfl, Nat.le_of_ble_eq_true rfl, Or.inl (tb3 178 rfl rfl)⟩, fun _ h => absurd h List.not_mem_nil⟩⟩⟩⟩⟩⟩⟩⟩⟩⟩⟩⟩), List.forall_mem_cons.mpr ⟨(List.forall_mem_cons.mpr ⟨trivial, List.forall_mem_cons.mpr ⟨trivial, List.forall_mem_cons.mpr ⟨rfl, List.forall_mem_cons.mpr ⟨trivial, List.forall_mem_cons.mpr ⟨rfl, List.forall_mem_cons.mpr ⟨trivial, List.forall_mem_cons.mpr ⟨⟨_, rfl, Nat.le_of_ble_eq_true rfl, Or.inl (tb3 184 rfl rfl)⟩, List.forall_mem_cons.mpr ⟨rfl, List.forall_mem_cons.mpr ⟨trivial, List.forall_mem_cons.mpr ⟨⟨_, rfl, Nat.le_of_ble_eq_true rfl, Or.inl (tb3 180 rfl rfl)⟩, List.forall_mem_cons.mpr ⟨rfl, List.forall_mem_cons.mpr ⟨trivial, fun _ h => absurd h List.not_mem_nil⟩⟩⟩⟩⟩⟩⟩⟩⟩⟩⟩⟩), List.forall_mem_cons.mpr ⟨(List.forall_mem_cons.mpr ⟨rfl, fun _ h => absurd h List.not_mem_nil⟩), fun _ h => absurd h List.not_mem_nil⟩⟩⟩⟩⟩⟩⟩⟩⟩⟩, by decide +kernel, rfl⟩
set_option maxRecDepth 100000 in
theorem okQ_156 : sm_Q PZ PP 156 := ⟨by decide +kernel, show ∀ ch ∈ pc_156, ∀ q ∈ ch, sm_okL PZ PP 156 q.2.1 q.2.2.2.1 q.2.2.2.2.1 q.2.2.2.2.2 from List.forall_mem_cons.mpr ⟨(List.forall_mem_cons.mpr ⟨⟨_, rfl, (tb1 17 rfl rfl), (tb1 18 rfl rfl), (tb1 1 rfl rfl)⟩, List.forall_mem_cons.mpr ⟨trivial, List.forall_mem_cons.mpr ⟨⟨⟨okm_26.1, okm_26.2.1, okm_26.2.2.1, okm_26.2.2.2, Nat.le_of_ble_eq_true rfl, Nat.le_of_ble_eq_true rfl, Or.inl (tb1 19 rfl rfl)⟩, Nat.le_of_ble_eq_true rfl, oki_26, rfl, rfl⟩, List.forall_mem_cons.mpr ⟨trivial, List.forall_mem_cons.mpr ⟨⟨_, rfl, (tb3 172 rfl rfl), (tb3 173 rfl rfl), (tb1 14 rfl rfl)⟩, List.forall_mem_cons.mpr ⟨trivial, List.forall_mem_cons.mpr ⟨⟨⟨okm_106.1, okm_106.2.1, okm_106.2.2.1, okm_106.2.2.2, Nat.le_of_ble_eq_true rfl, Nat.le_of_ble_eq_true rfl, Or.inl (tb3 174 rfl rfl)⟩, Nat.le_of_ble_eq_true rfl, oki_106, rfl, rfl⟩, List.forall_mem_cons.mpr ⟨trivial, fun _ h => absurd h List.not_mem_nil⟩⟩⟩⟩⟩⟩⟩⟩), List.forall_mem_cons.mpr ⟨(List.forall_mem_cons.mpr ⟨trivial, List.forall_mem_cons.mpr ⟨trivial, List.forall_mem_cons.mpr ⟨trivial, List.forall_mem_cons.mpr ⟨trivial, List.forall_mem_cons.mpr ⟨trivial, List.forall_mem_cons.mpr ⟨trivial, List.forall_mem_cons.mpr ⟨trivial, List.forall_mem_cons.mpr ⟨trivial, List.forall_mem_cons.mpr ⟨trivial, List.forall_mem_cons.mpr ⟨trivial, List.forall_mem_cons.mpr ⟨trivial, List.forall_mem_cons.mpr ⟨trivial, List.forall_mem_cons.mpr ⟨trivial, fun _ h => absurd h List.not_mem_nil⟩⟩⟩⟩⟩⟩⟩⟩⟩⟩⟩⟩⟩), List.forall_mem_cons.mpr ⟨(List.forall_mem_cons.mpr ⟨trivial, fun _ h => absurd h List.not_mem_nil⟩), List.forall_mem_cons.mpr ⟨(fun _ h => absurd h List.not_mem_nil), List.forall_mem_cons.mpr ⟨(fun _ h => absurd h List.not_mem_nil), List.forall_mem_cons.mpr ⟨(fun _ h => absurd h List.not_mem_nil), List.forall_mem_cons.mpr ⟨(fun _ h => absurd h List.not_mem_nil), List.forall_mem_cons.mpr ⟨(fun _ h => absurd h List.not_mem_nil), List.forall_mem_cons.mpr ⟨(List.forall_mem_cons.mpr ⟨trivial, List.forall_mem_cons.mpr ⟨trivial, List.forall_mem_cons.mpr ⟨trivial, List.forall_mem_cons.mpr ⟨trivial, List.forall_mem_cons.mpr ⟨trivial, List.forall_mem_cons.mpr ⟨trivial, List.forall_mem_cons.mpr ⟨⟨⟨okm_28.1, okm_28.2.1, okm_28.2.2.1, okm_28.2.2.2, Nat.le_of_ble_eq_true rfl, Nat.le_of_ble_eq_true rfl, Or.inl (tb2 69 rfl rfl)⟩, Nat.le_of_ble_eq_true rfl, oki_28, okv_28, ⟨_, rfl, rfl⟩⟩, List.forall_mem_cons.mpr ⟨trivial, List.forall_mem_cons.mpr ⟨trivial, List.forall_mem_cons.mpr ⟨trivial, List.forall_mem_cons.mpr ⟨trivial, List.forall_mem_cons.mpr ⟨trivial, List.forall_mem_cons.mpr ⟨trivial, List.forall_mem_cons.mpr ⟨⟨⟨okm_108.1, okm_108.2.1, okm_108.2.2.1, okm_108.2.2.2, Nat.le_of_ble_eq_true rfl, Nat.le_of_ble_eq_true rfl, Or.inl (tb3 233 rfl rfl)⟩, Nat.le_of_ble_eq_true rfl, oki_108, okv_108, ⟨_, rfl, rfl⟩⟩, fun _ h => absurd h List.not_mem_nil⟩⟩⟩⟩⟩⟩⟩⟩⟩⟩⟩⟩⟩⟩), List.forall_mem_cons.mpr ⟨(List.forall_mem_cons.mpr ⟨trivial, List.forall_mem_cons.mpr ⟨trivial, List.forall_mem_cons.mpr ⟨rfl, List.forall_mem_cons.mpr ⟨trivial, List.forall_mem_cons.mpr ⟨⟨⟨okm_29.1, okm_29.2.1, okm_29.2.2.1, okm_29.2.2.2, Nat.le_of_ble_eq_true rfl, Nat.le_of_ble_eq_true rfl, Or.inl (tb2 77 rfl rfl)⟩, Nat.le_of_ble_eq_true rfl, oki_29, okv_29, ⟨_, rfl, rfl⟩⟩, List.forall_mem_cons.mpr ⟨trivial, List.forall_mem_cons.mpr ⟨⟨⟨okm_109.1, okm_109.2.1, okm_109.2.2.1, okm_109.2.2.2, Nat.le_of_ble_eq_true rfl, Nat.le_of_ble_eq_true rfl, Or.inl (tb4 0 rfl rfl)⟩, Nat.le_of_ble_eq_true rfl, oki_109, okv_109, ⟨_, rfl, rfl⟩⟩, List.forall_mem_cons.mpr ⟨trivial, fun _ h => absurd h List.not_mem_nil⟩⟩⟩⟩⟩⟩⟩⟩), List.forall_mem_cons.mpr ⟨(List.forall_mem_cons.mpr ⟨trivial, List.forall_mem_cons.mpr ⟨rfl, List.forall_mem_cons.mpr ⟨trivial, List.forall_mem_cons.mpr ⟨⟨⟨okm_47.1, okm_47.2.1, okm_47.2.2.1, okm_47.2.2.2, Nat.le_of_ble_eq_true rfl, Nat.le_of_ble_eq_true rfl, Or.inl (tb2 81 rfl rfl)⟩, Nat.le_of_ble_eq_true rfl, oki_47, okv_47, ⟨_, rfl, rfl⟩⟩, List.forall_mem_cons.mpr ⟨trivial, List.forall_mem_cons.mpr ⟨⟨⟨okm_115.1, okm_115.2.1, okm_115.2.2.1, okm_115.2.2.2, Nat.le_of_ble_eq_true rfl, Nat.le_of_ble_eq_true rfl, Or.inl (tb4 4 rfl rfl)⟩, Nat.le_of_ble_eq_true rfl, oki_115, okv_115, ⟨_, rfl, rfl⟩⟩, List.forall_mem_cons.mpr ⟨trivial, List.forall_mem_cons.mpr ⟨trivial, fun _ h => absurd h List.not_mem_nil⟩⟩⟩⟩⟩⟩⟩⟩), List.forall_mem_cons.mpr ⟨(List.forall_mem_cons.mpr ⟨rfl, List.forall_mem_cons.mpr ⟨trivial, List.forall_mem_cons.mpr ⟨trivial, List.forall_mem_cons.mpr ⟨trivial, List.forall_mem_cons.mpr ⟨trivial, List.forall_mem_cons.mpr ⟨trivial, List.forall_mem_cons.mpr ⟨trivial, List.forall_mem_cons.mpr ⟨⟨⟨okm_50.1, okm_50.2.1, okm_50.2.2.1, okm_50.2.2.2, Nat.le_of_ble_eq_true rfl, Nat.le_of_ble_eq_true rfl, Or.inl (tb2 156 rfl rfl)⟩, Nat.le_of_ble_eq_true rfl, oki_50, okv_50, ⟨_, rfl, rfl⟩⟩, List.forall_mem_cons.mpr ⟨trivial, List.forall_mem_cons.mpr ⟨trivial, List.forall_mem_cons.mpr ⟨trivial, List.forall_mem_cons.mpr ⟨trivial, List.forall_mem_cons.mpr ⟨trivial, List.forall_mem_cons.mpr ⟨trivial, fun _ h => absurd h List.not_mem_nil⟩⟩⟩⟩⟩⟩⟩⟩⟩⟩⟩⟩⟩⟩), List.forall_mem_cons.mpr ⟨(List.forall_mem_cons.mpr ⟨⟨⟨okm_117.1, okm_117.2.1, okm_117.2.2.1, okm_117.2.2.2, Nat.le_of_ble_eq_true rfl, Nat.le_of_ble_eq_true rfl, Or.inl (tb4 25 rfl rfl)⟩, Nat.le_of_ble_eq_true rfl, oki_117, okv_117, ⟨_, rfl, rfl⟩⟩, List.forall_mem_cons.mpr ⟨trivial, List.forall_mem_cons.mpr ⟨trivial, List.forall_mem_cons.mpr ⟨rfl, List.forall_mem_cons.mpr ⟨trivial, List.forall_mem_cons.mpr ⟨trivial, List.forall_mem_cons.mpr ⟨trivial, List.forall_mem_cons.mpr ⟨trivial, List.forall_mem_cons.mpr ⟨trivial, List.forall_mem_cons.mpr ⟨trivial, List.forall_mem_cons.mpr ⟨trivial, List.forall_mem_cons.mpr ⟨trivial, fun _ h => absurd h List.not_mem_nil⟩⟩⟩⟩⟩⟩⟩⟩⟩⟩⟩⟩), List.forall_mem_cons.mpr ⟨(List.forall_mem_cons.mpr ⟨trivial, List.forall_mem_cons.mpr ⟨trivial, List.forall_mem_cons.mpr ⟨trivial, List.forall_mem_cons.mpr ⟨trivial, List.forall_mem_cons.mpr ⟨trivial, List.forall_mem_cons.mpr ⟨trivial, List.forall_mem_cons.mpr ⟨trivial, List.forall_mem_cons.mpr ⟨trivial, List.forall_mem_cons.mpr ⟨⟨⟨okm_52.1, okm_52.2.1, okm_52.2.2.1, okm_52.2.2.2, Nat.le_of_ble_eq_true rfl, Nat.le_of_ble_eq_true rfl, Or.inl (tb2 169 rfl rfl)⟩, Nat.le_of_ble_eq_true rfl, oki_52, okv_52, ⟨_, rfl, rfl⟩⟩, List.forall_mem_cons.mpr ⟨trivial, List.forall_mem_cons.mpr ⟨trivial, List.forall_mem_cons.mpr ⟨trivial, List.forall_mem_cons.mpr ⟨trivial, List.forall_mem_cons.mpr ⟨trivial, fun _ h => absurd h List.not_mem_nil⟩⟩⟩⟩⟩⟩⟩⟩⟩⟩⟩⟩⟩⟩), List.forall_mem_cons.mpr ⟨(List.forall_mem_cons.mpr ⟨trivial, List.forall_mem_cons.mpr ⟨trivial, List.forall_mem_cons.mpr ⟨trivial, List.forall_mem_cons.mpr ⟨trivial, List.forall_mem_cons.mpr ⟨trivial, List.forall_mem_cons.mpr ⟨trivial, List.forall_mem_cons.mpr ⟨trivial, List.forall_mem_cons.mpr ⟨trivial, List.forall_mem_cons.mpr ⟨trivial, List.forall_mem_cons.mpr ⟨trivial, List.forall_mem_cons.mpr ⟨trivial, List.forall_mem_cons.mpr ⟨⟨⟨okm_120.1, okm_120.2.1, okm_120.2.2.1, okm_120.2.2.2, Nat.le_of_ble_eq_true rfl, Nat.le_of_ble_eq_true rfl, Or.inl (tb4 33 rfl rfl)⟩, Nat.le_of_ble_eq_true rfl, oki_120, okv_120, ⟨_, rfl, rfl⟩⟩, List.forall_mem_cons.mpr ⟨trivial, fun _ h => absurd h List.not_mem_nil⟩⟩⟩⟩⟩⟩⟩⟩⟩⟩⟩⟩⟩), List.forall_mem_cons.mpr ⟨(List.forall_mem_cons.mpr ⟨trivial, List.forall_mem_cons.mpr ⟨rfl, List.forall_mem_cons.mpr ⟨trivial, List.forall_mem_cons.mpr ⟨trivial, List.forall_mem_cons.mpr ⟨trivial, List.forall_mem_cons.mpr ⟨trivial, List.forall_mem_cons.mpr ⟨trivial, List.forall_mem_cons.mpr ⟨trivial, List.forall_mem_cons.mpr ⟨trivial, List.forall_mem_cons.mpr ⟨trivial, List.forall_mem_cons.mpr ⟨trivial, List.forall_mem_cons.mpr ⟨trivial, List.forall_mem_cons.mpr ⟨trivial, List.forall_mem_cons.mpr ⟨trivial, List.forall_mem_cons.mpr ⟨trivial, fun _ h => absurd h List.not_mem_nil⟩⟩⟩⟩⟩⟩⟩⟩⟩⟩⟩⟩⟩⟩⟩), List.forall_mem_cons.mpr ⟨(List.forall_mem_cons.mpr ⟨trivial, List.forall_mem_cons.mpr ⟨trivial, List.forall_mem_cons.mpr ⟨trivial, List.forall_mem_cons.mpr ⟨trivial, List.forall_mem_cons.mpr ⟨trivial, List.forall_mem_cons.mpr ⟨trivial, List.forall_mem_cons.mpr ⟨trivial, List.forall_mem_cons.mpr ⟨trivial, List.forall_mem_cons.mpr ⟨⟨⟨okm_56.1, okm_56.2.1, okm_56.2.2.1, okm_56.2.2.2, Nat.le_of_ble_eq_true rfl, Nat.le_of_ble_eq_true rfl, Or.inl (tb2 180 rfl rfl)⟩, Nat.le_of_ble_eq_true rfl, oki_56, okv_56, ⟨_, rfl, rfl⟩⟩, List.forall_mem_cons.mpr ⟨trivial, List.forall_mem_cons.mpr ⟨trivial, List.forall_mem_cons.mpr ⟨trivial, List.forall_mem_cons.mpr ⟨trivial, List.forall_mem_cons.mpr ⟨trivial, fun _ h => absurd h List.not_mem_nil⟩⟩⟩⟩⟩⟩⟩⟩⟩⟩⟩⟩⟩⟩), List.forall_mem_cons.mpr ⟨(List.forall_mem_cons.mpr ⟨trivial, List.forall_mem_cons.mpr ⟨trivial, List.forall_mem_cons.mpr ⟨trivial, List.forall_mem_cons.mpr ⟨trivial, List.forall_mem_cons.mpr ⟨trivial, List.forall_mem_cons.mpr ⟨trivial, List.forall_mem_cons.mpr ⟨trivial, List.forall_mem_cons.mpr ⟨trivial, List.forall_mem_cons.mpr ⟨trivial, List.forall_mem_cons.mpr ⟨trivial, List.forall_mem_cons.mpr ⟨trivial, List.forall_mem_cons.mpr ⟨trivial, List.forall_mem_cons.mpr ⟨trivial, List.forall_mem_cons.mpr ⟨trivial, List.forall_mem_cons.mpr ⟨trivial, List.forall_mem_cons.mpr ⟨trivial, fun _ h => absurd h List.not_mem_nil⟩⟩⟩⟩⟩⟩⟩⟩⟩⟩⟩⟩⟩⟩⟩⟩), List.forall_mem_cons.mpr ⟨(List.forall_mem_cons.mpr ⟨⟨⟨okm_122.1, okm_122.2.1, okm_122.2.2.1, okm_122.2.2.2, Nat.le_of_ble_eq_true rfl, Nat.le_of_ble_eq_true rfl, Or.inl (tb4 44 rfl rfl)⟩, Nat.le_of_ble_eq_true rfl, oki_122, okv_122, ⟨_, rfl, rfl⟩⟩, List.forall_mem_cons.mpr ⟨trivial, List.forall_mem_cons.mpr ⟨trivial, List.forall_mem_cons.mpr ⟨rfl, List.forall_mem_cons.mpr ⟨trivial, List.forall_mem_cons.mpr ⟨trivial, List.forall_mem_cons.mpr ⟨trivial, List.forall_mem_cons.mpr ⟨trivial, List.forall_mem_cons.mpr ⟨trivial, List.forall_mem_cons.mpr ⟨trivial, List.forall_mem_cons.mpr ⟨⟨⟨okm_57.1, okm_57.2.1, okm_57.2.2.1, okm_57.2.2.2, Nat.le_of_ble_eq_true rfl, Nat.le_of_ble_eq_true rfl, Or.inl (tb2 197 rfl rfl)⟩, Nat.le_of_ble_eq_true rfl, oki_57, okv_57, ⟨_, rfl, rfl⟩⟩, fun _ h => absurd h List.not_mem_nil⟩⟩⟩⟩⟩⟩⟩⟩⟩⟩⟩), List.forall_mem_cons.mpr ⟨(List.forall_mem_cons.mpr ⟨trivial, List.forall_mem_cons.mpr ⟨trivial, List.forall_mem_cons.mpr ⟨trivial, List.forall_mem_cons.mpr ⟨trivial, List.forall_mem_cons.mpr ⟨trivial, List.forall_mem_cons.mpr ⟨trivial, List.forall_mem_cons.mpr ⟨⟨⟨okm_124.1, okm_124.2.1, okm_124.2.2.1, okm_124.2.2.2, Nat.le_of_ble_eq_true rfl, Nat.le_of_ble_eq_true rfl, Or.inl (tb4 52 rfl rfl)⟩, Nat.le_of_ble_eq_true rfl, oki_124, okv_124, ⟨_, rfl, rfl⟩⟩, List.forall_mem_cons.mpr ⟨trivial, List.forall_mem_cons.mpr ⟨trivial, List.forall_mem_cons.mpr ⟨rfl, List.forall_mem_cons.mpr ⟨trivial, fun _ h => absurd h List.not_mem_nil⟩⟩⟩⟩⟩⟩⟩⟩⟩⟩⟩), List.forall_mem_cons.mpr ⟨(List.forall_mem_cons.mpr ⟨trivial, List.forall_mem_cons.mpr ⟨trivial, List.forall_mem_cons.mpr ⟨trivial, List.forall_mem_cons.mpr ⟨trivial, List.forall_mem_cons.mpr ⟨trivial, List.forall_mem_cons.mpr ⟨⟨⟨okm_58.1, okm_58.2.1, okm_58.2.2.1, okm_58.2.2.2, Nat.le_of_ble_eq_true rfl, Nat.le_of_ble_eq_true rfl, Or.inl (tb2 201 rfl rfl)⟩, Nat.le_of_ble_eq_true rfl, oki_58, okv_58, ⟨_, rfl, rfl⟩⟩, List.forall_mem_cons.mpr ⟨trivial, List.forall_mem_cons.mpr ⟨trivial, List.forall_mem_cons.mpr ⟨trivial, List.forall_mem_cons.mpr ⟨trivial, List.forall_mem_cons.mpr ⟨trivial, List.forall_mem_cons.mpr ⟨trivial, List.forall_mem_cons.mpr ⟨⟨⟨okm_125.1, okm_125.2.1, okm_125.2.2.1, okm_125.2.2.2, Nat.le_of_ble_eq_true rfl, Nat.le_of_ble_eq_true rfl, Or.inl (tb4 60 rfl rfl)⟩, Nat.le_of_ble_eq_true rfl, oki_125, okv_125, ⟨_, rfl, rfl⟩⟩, fun _ h => absurd h List.not_mem_nil⟩⟩⟩⟩⟩⟩⟩⟩⟩⟩⟩⟩⟩), List.forall_mem_cons.mpr ⟨(List.forall_mem_cons.mpr ⟨trivial, List.forall_mem_cons.mpr ⟨trivial, List.forall_mem_cons.mpr ⟨rfl, List.forall_mem_cons.mpr ⟨trivial, List.forall_mem_cons.mpr ⟨⟨⟨okm_60.1, okm_60.2.1, okm_60.2.2.1, okm_60.2.2.2, Nat.le_of_ble_eq_true rfl, Nat.le_of_ble_eq_true rfl, Or.inl (tb2 205 rfl rfl)⟩, Nat.le_of_ble_eq_true rfl, oki_60, okv_60, ⟨_, rfl, rfl⟩⟩, List.forall_mem_cons.mpr ⟨trivial, List.forall_mem_cons.mpr ⟨⟨⟨okm_126.1, okm_126.2.1, okm_126.2.2.1, okm_126.2.2.2, Nat.le_of_ble_eq_true rfl, Nat.le_of_ble_eq_true rfl, Or.inl (tb4 64 rfl rfl)⟩, Nat.le_of_ble_eq_true rfl, oki_126, okv_126, ⟨_, rfl, rfl⟩⟩, List.forall_mem_cons.mpr ⟨trivial, fun _ h => absurd h List.not_mem_nil⟩⟩⟩⟩⟩⟩⟩⟩), List.forall_mem_cons.mpr ⟨(List.forall_mem_cons.mpr ⟨trivial, List.forall_mem_cons.mpr ⟨rfl, List.forall_mem_cons.mpr ⟨trivial, List.forall_mem_cons.mpr ⟨trivial, List.forall_mem_cons.mpr ⟨trivial, List.forall_mem_cons.mpr ⟨trivial, List.forall_mem_cons.mpr ⟨trivial, List.forall_mem_cons.mpr ⟨trivial, List.forall_mem_cons.mpr ⟨trivial, List.forall_mem_cons.mpr ⟨trivial, List.forall_mem_cons.mpr ⟨trivial, List.forall_mem_cons.mpr ⟨trivial, List.forall_mem_cons.mpr ⟨trivial, List.forall_mem_cons.mpr ⟨⟨⟨okm_71.1, okm_71.2.1, okm_71.2.2.1, okm_71.2.2.2, Nat.le_of_ble_eq_true rfl, Nat.le_of_ble_eq_true rfl, Or.inl (tb2 213 rfl rfl)⟩, Nat.le_of_ble_eq_true rfl, oki_71, okv_71, ⟨_, rfl, rfl⟩⟩, fun _ h => absurd h List.not_mem_nil⟩⟩⟩⟩⟩⟩⟩⟩⟩⟩⟩⟩⟩⟩), List.forall_mem_cons.mpr ⟨(List.forall_mem_cons.mpr ⟨trivial, List.forall_mem_cons.mpr ⟨trivial, List.forall_mem_cons.mpr ⟨trivial, List.forall_mem_cons.mpr ⟨trivial, List.forall_mem_cons.mpr ⟨trivial, List.forall_mem_cons.mpr ⟨trivial, List.forall_mem_cons.mpr ⟨trivial, List.forall_mem_cons.mpr ⟨trivial, List.forall_mem_cons.mpr ⟨trivial, List.forall_mem_cons.mpr ⟨trivial, List.forall_mem_cons.mpr ⟨trivial, List.forall_mem_cons.mpr ⟨⟨⟨okm_135.1, okm_135.2.1, okm_135.2.2.1, okm_135.2.2.2, Nat.le_of_ble_eq_true rfl, Nat.le_of_ble_eq_true rfl, Or.inl (tb4 68 rfl rfl)⟩, Nat.le_of_ble_eq_true rfl, oki_135, okv_135, ⟨_, rfl, rfl⟩⟩, List.forall_mem_cons.mpr ⟨trivial, fun _ h => absurd h List.not_mem_nil⟩⟩⟩⟩⟩⟩⟩⟩⟩⟩⟩⟩⟩), List.forall_mem_cons.mpr ⟨(List.forall_mem_cons.mpr ⟨trivial, List.forall_mem_cons.mpr ⟨rfl, List.forall_mem_cons.mpr ⟨trivial, List.forall_mem_cons.mpr ⟨trivial, List.forall_mem_cons.mpr ⟨trivial, List.forall_mem_cons.mpr ⟨trivial, List.forall_mem_cons.mpr ⟨trivial, List.forall_mem_cons.mpr ⟨trivial, List.forall_mem_cons.mpr ⟨trivial, List.forall_mem_cons.mpr ⟨trivial, List.forall_mem_cons.mpr ⟨trivial, List.forall_mem_cons.mpr ⟨trivial, List.forall_mem_cons.mpr ⟨trivial, List.forall_mem_cons.mpr ⟨trivial, fun _ h => absurd h List.not_mem_nil⟩⟩⟩⟩⟩⟩⟩⟩⟩⟩⟩⟩⟩⟩), List.forall_mem_cons.mpr ⟨(List.forall_mem_cons.mpr ⟨trivial, List.forall_mem_cons.mpr ⟨trivial, List.forall_mem_cons.mpr ⟨trivial, List.forall_mem_cons.mpr ⟨trivial, List.forall_mem_cons.mpr ⟨⟨⟨okm_72.1, okm_72.2.1, okm_72.2.2.1, okm_72.2.2.2, Nat.le_of_ble_eq_true rfl, Nat.le_of_ble_eq_true rfl, Or.inl (tb3 22 rfl rfl)⟩, Nat.le_of_ble_eq_true rfl, oki_72, okv_72, ⟨_, rfl, rfl⟩⟩, List.forall_mem_cons.mpr ⟨trivial, List.forall_mem_cons.mpr ⟨trivial, List.forall_mem_cons.mpr ⟨trivial, List.forall_mem_cons.mpr ⟨trivial, List.forall_mem_cons.mpr ⟨trivial, List.forall_mem_cons.mpr ⟨trivial, List.forall_mem_cons.mpr ⟨trivial, List.forall_mem_cons.mpr ⟨trivial, List.forall_mem_cons.mpr ⟨trivial, fun _ h => absurd h List.not_mem_nil⟩⟩⟩⟩⟩⟩⟩⟩⟩⟩⟩⟩⟩⟩), List.forall_mem_cons.mpr ⟨(List.forall_mem_cons.mpr ⟨trivial, List.forall_mem_cons.mpr ⟨trivial, List.forall_mem_cons.mpr ⟨trivial, List.forall_mem_cons.mpr ⟨trivial, List.forall_mem_cons.mpr ⟨trivial, List.forall_mem_cons.mpr ⟨trivial, List.forall_mem_cons.mpr ⟨trivial, List.forall_mem_cons.mpr ⟨⟨⟨okm_136.1, okm_136.2.1, okm_136.2.2.1, okm_136.2.2.2, Nat.le_of_ble_eq_true rfl, Nat.le_of_ble_eq_true rfl, Or.inl (tb4 133 rfl rfl)⟩, Nat.le_of_ble_eq_true rfl, oki_136, okv_136, ⟨_, rfl, rfl⟩⟩, List.forall_mem_cons.mpr ⟨trivial, List.forall_mem_cons.mpr ⟨trivial, List.forall_mem_cons.mpr ⟨rfl, List.forall_mem_cons.mpr ⟨trivial, fun _ h => absurd h List.not_mem_nil⟩⟩⟩⟩⟩⟩⟩⟩⟩⟩⟩⟩), List.forall_mem_cons.mpr ⟨(List.forall_mem_cons.mpr ⟨trivial, List.forall_mem_cons.mpr ⟨trivial, List.forall_mem_cons.mpr ⟨trivial, List.forall_mem_cons.mpr ⟨trivial, List.forall_mem_cons.mpr ⟨trivial, List.forall_mem_cons.mpr ⟨trivial, List.forall_mem_cons.mpr ⟨trivial, List.forall_mem_cons.mpr ⟨trivial, List.forall_mem_cons.mpr ⟨trivial, List.forall_mem_cons.mpr ⟨trivial, List.forall_mem_cons.mpr ⟨trivial, List.forall_mem_cons.mpr ⟨trivial, List.forall_mem_cons.mpr ⟨trivial, List.forall_mem_cons.mpr ⟨trivial, List.forall_mem_cons.mpr ⟨trivial, List.forall_mem_cons.mpr ⟨⟨⟨okm_73.1, okm_73.2.1, okm_73.2.2.1, okm_73.2.2.2, Nat.le_of_ble_eq_true rfl, Nat.le_of_ble_eq_true rfl, Or.inl (tb3 26 rfl rfl)⟩, Nat.le_of_ble_eq_true rfl, oki_73, okv_73, ⟨_, rfl, rfl⟩⟩, fun _ h => absurd h List.not_mem_nil⟩⟩⟩⟩⟩⟩⟩⟩⟩⟩⟩⟩⟩⟩⟩⟩), List.forall_mem_cons.mpr ⟨(List.forall_mem_cons.mpr ⟨trivial, List.forall_mem_cons.mpr ⟨trivial, List.forall_mem_cons.mpr ⟨trivial, List.forall_mem_cons.mpr ⟨trivial, List.forall_mem_cons.mpr ⟨trivial, List.forall_mem_cons.mpr ⟨trivial, List.forall_mem_cons.mpr ⟨trivial, List.forall_mem_cons.mpr ⟨trivial, List.forall_mem_cons.mpr ⟨trivial, List.forall_mem_cons.mpr ⟨trivial, List.forall_mem_cons.mpr ⟨trivial, List.forall_mem_cons.mpr ⟨trivial, List.forall_mem_cons.mpr ⟨trivial, List.forall_mem_cons.mpr ⟨trivial, fun _ h => absurd h List.not_mem_nil⟩⟩⟩⟩⟩⟩⟩⟩⟩⟩⟩⟩⟩⟩), List.forall_mem_cons.mpr ⟨(List.forall_mem_cons.mpr ⟨trivial, List.forall_mem_cons.mpr ⟨trivial, List.forall_mem_cons.mpr ⟨⟨⟨okm_137.1, okm_137.2.1, okm_137.2.2.1, okm_137.2.2.2, Nat.le_of_ble_eq_true rfl, Nat.le_of_ble_eq_true rfl, Or.inl (tb4 137 rfl rfl)⟩, Nat.le_of_ble_eq_true rfl, oki_137, okv_137, ⟨_, rfl, rfl⟩⟩, List.forall_mem_cons.mpr ⟨trivial, List.forall_mem_cons.mpr ⟨trivial, List.forall_mem_cons.mpr ⟨rfl, List.forall_mem_cons.mpr ⟨trivial, List.forall_mem_cons.mpr ⟨trivial, List.forall_mem_cons.mpr ⟨trivial, List.forall_mem_cons.mpr ⟨trivial, List.forall_mem_cons.mpr ⟨trivial, List.forall_mem_cons.mpr ⟨trivial, fun _ h => absurd h List.not_mem_nil⟩⟩⟩⟩⟩⟩⟩⟩⟩⟩⟩⟩), List.forall_mem_cons.mpr ⟨(List.forall_mem_cons.mpr ⟨trivial, List.forall_mem_cons.mpr ⟨trivial, List.forall_mem_cons.mpr ⟨trivial, List.forall_mem_cons.mpr ⟨trivial, List.forall_mem_cons.mpr ⟨trivial, List.forall_mem_cons.mpr ⟨trivial, List.forall_mem_cons.mpr ⟨trivial, List.forall_mem_cons.mpr ⟨trivial, List.forall_mem_cons.mpr ⟨trivial, List.forall_mem_cons.mpr ⟨trivial, List.forall_mem_cons.mpr ⟨⟨⟨okm_78.1, okm_78.2.1, okm_78.2.2.1, okm_78.2.2.2, Nat.le_of_ble_eq_true rfl, Nat.le_of_ble_eq_true rfl, Or.inl (tb3 33 rfl rfl)⟩, Nat.le_of_ble_eq_true rfl, oki_78, okv_78, ⟨_, rfl, rfl⟩⟩, List.forall_mem_cons.mpr ⟨trivial, List.forall_mem_cons.mpr ⟨trivial, List.forall_mem_cons.mpr ⟨trivial, fun _ h => absurd h List.not_mem_nil⟩⟩⟩⟩⟩⟩⟩⟩⟩⟩⟩⟩⟩⟩), List.forall_mem_cons.mpr ⟨(List.forall_mem_cons.mpr ⟨trivial, List.forall_mem_cons.mpr ⟨trivial, List.forall_mem_cons.mpr ⟨trivial, List.forall_mem_cons.mpr ⟨trivial, List.forall_mem_cons.mpr ⟨trivial, List.forall_mem_cons.mpr ⟨trivial, List.forall_mem_cons.mpr ⟨trivial, List.forall_mem_cons.mpr ⟨trivial, List.forall_mem_cons.mpr ⟨trivial, List.forall_mem_cons.mpr ⟨trivial, List.forall_mem_cons.mpr ⟨trivial, List.forall_mem_cons.mpr ⟨trivial, List.forall_mem_cons.mpr ⟨trivial, List.forall_mem_cons.mpr ⟨⟨⟨okm_138.1, okm_138.2.1, okm_138.2.2.1, okm_138.2.2.2, Nat.le_of_ble_eq_true rfl, Nat.le_of_ble_eq_true rfl, Or.inl (tb4 141 rfl rfl)⟩, Nat.le_of_ble_eq_true rfl, oki_138, okv_138, ⟨_, rfl, rfl⟩⟩, fun _ h => absurd h List.not_mem_nil⟩⟩⟩⟩⟩⟩⟩⟩⟩⟩⟩⟩⟩⟩), List.forall_mem_cons.mpr ⟨(List.forall_mem_cons.mpr ⟨trivial, List.forall_mem_cons.mpr ⟨trivial, List.forall_mem_cons.mpr ⟨rfl, List.forall_mem_cons.mpr ⟨trivial, List.forall_mem_cons.mpr ⟨trivial, List.forall_mem_cons.mpr ⟨trivial, List.forall_mem_cons.mpr ⟨trivial, List.forall_mem_cons.mpr ⟨trivial, List.forall_mem_cons.mpr ⟨trivial, List.forall_mem_cons.mpr ⟨trivial, List.forall_mem_cons.mpr ⟨trivial, List.forall_mem_cons.mpr ⟨trivial, List.forall_mem_cons.mpr ⟨trivial, List.forall_mem_cons.mpr ⟨trivial, fun _ h => absurd h List.not_mem_nil⟩⟩⟩⟩⟩⟩⟩⟩⟩⟩⟩⟩⟩⟩), List.forall_mem_cons.mpr ⟨(List.forall_mem_cons.mpr ⟨⟨⟨okm_79.1, okm_79.2.1, okm_79.2.2.1, okm_79.2.2.2, Nat.le_of_ble_eq_true rfl, Nat.le_of_ble_eq_true rfl, Or.inl (tb3 54 rfl rfl)⟩, Nat.le_of_ble_eq_true rfl, oki_79, okv_79, ⟨_, rfl, rfl⟩⟩, List.forall_mem_cons.mpr ⟨trivial, List.forall_mem_cons.mpr ⟨trivial, List.forall_mem_cons.mpr ⟨trivial, List.forall_mem_cons.mpr ⟨trivial, List.forall_mem_cons.mpr ⟨trivial, List.forall_mem_cons.mpr ⟨trivial, List.forall_mem_cons.mpr ⟨trivial, List.forall_mem_cons.mpr ⟨trivial, List.forall_mem_cons.mpr ⟨trivial, List.forall_mem_cons.mpr ⟨trivial, List.forall_mem_cons.mpr ⟨trivial, List.forall_mem_cons.mpr ⟨⟨⟨okm_139.1, okm_139.2.1, okm_139.2.2.1, okm_139.2.2.2, Nat.le_of_ble_eq_true rfl, Nat.le_of_ble_eq_true rfl, Or.inl (tb4 145 rfl rfl)⟩, Nat.le_of_ble_eq_true rfl, oki_139, okv_139, ⟨_, rfl, rfl⟩⟩, fun _ h => absurd h List.not_mem_nil⟩⟩⟩⟩⟩⟩⟩⟩⟩⟩⟩⟩⟩), List.forall_mem_cons.mpr ⟨(List.forall_mem_cons.mpr ⟨trivial, List.forall_mem_cons.mpr ⟨trivial, List.forall_mem_cons.mpr ⟨rfl, List.forall_mem_cons.mpr ⟨trivial, List.forall_mem_cons.mpr ⟨trivial, List.forall_mem_cons.mpr ⟨trivial, List.forall_mem_cons.mpr ⟨trivial, List.forall_mem_cons.mpr ⟨trivial, List.forall_mem_cons.mpr ⟨trivial, List.forall_mem_cons.mpr ⟨⟨⟨okm_91.1, okm_91.2.1, okm_91.2.2.1, okm_91.2.2.2, Nat.le_of_ble_eq_true rfl, Nat.le_of_ble_eq_true rfl, Or.inl (tb3 60 rfl rfl)⟩, Nat.le_of_ble_eq_true rfl, oki_91, okv_91, ⟨_, rfl, rfl⟩⟩, List.forall_mem_cons.mpr ⟨trivial, fun _ h => absurd h List.not_mem_nil⟩⟩⟩⟩⟩⟩⟩⟩⟩⟩⟩), List.forall_mem_cons.mpr ⟨(List.forall_mem_cons.mpr ⟨trivial, List.forall_mem_cons.mpr ⟨trivial, List.forall_mem_cons.mpr ⟨trivial, List.forall_mem_cons.mpr ⟨trivial, List.forall_mem_cons.mpr ⟨trivial, List.forall_mem_cons.mpr ⟨⟨⟨okm_146.1, okm_146.2.1, okm_146.2.2.1, okm_146.2.2.2, Nat.le_of_ble_eq_true rfl, Nat.le_of_ble_eq_true rfl, Or.inl (tb4 149 rfl rfl)⟩, Nat.le_of_ble_eq_true rfl, oki_146, okv_146, ⟨_, rfl, rfl⟩⟩, List.forall_mem_cons.mpr ⟨trivial, List.forall_mem_cons.mpr ⟨trivial, List.forall_mem_cons.mpr ⟨rfl, List.forall_mem_cons.mpr ⟨trivial, List.forall_mem_cons.mpr ⟨trivial, List.forall_mem_cons.mpr ⟨trivial, fun _ h => absurd h List.not_mem_nil⟩⟩⟩⟩⟩⟩⟩⟩⟩⟩⟩⟩), List.forall_mem_cons.mpr ⟨(List.forall_mem_cons.mpr ⟨trivial, List.forall_mem_cons.mpr ⟨trivial, List.forall_mem_cons.mpr ⟨trivial, List.forall_mem_cons.mpr ⟨⟨⟨okm_98.1, okm_98.2.1, okm_98.2.2.1, okm_98.2.2.2, Nat.le_of_ble_eq_true rfl, Nat.le_of_ble_eq_true rfl, Or.inl (tb3 110 rfl rfl)⟩, Nat.le_of_ble_eq_true rfl, oki_98, okv_98, ⟨_, rfl, rfl⟩⟩, List.forall_mem_cons.mpr ⟨trivial, List.forall_mem_cons.mpr ⟨trivial, List.forall_mem_cons.mpr ⟨trivial, List.forall_mem_cons.mpr ⟨trivial, List.forall_mem_cons.mpr ⟨trivial, List.forall_mem_cons.mpr ⟨trivial, List.forall_mem_cons.mpr ⟨⟨⟨okm_150.1, okm_150.2.1, okm_150.2.2.1, okm_150.2.2.2, Nat.le_of_ble_eq_true rfl, Nat.le_of_ble_eq_true rfl, Or.inl (tb4 178 rfl rfl)⟩, Nat.le_of_ble_eq_true rfl, oki_150, okv_150, ⟨_, rfl, rfl⟩⟩, List.forall_mem_cons.mpr ⟨trivial, fun _ h => absurd h List.not_mem_nil⟩⟩⟩⟩⟩⟩⟩⟩⟩⟩⟩⟩), List.forall_mem_cons.mpr ⟨(List.forall_mem_cons.mpr ⟨trivial, List.forall_mem_cons.mpr ⟨rfl, List.forall_mem_cons.mpr ⟨trivial, List.forall_mem_cons.mpr ⟨trivial, List.forall_mem_cons.mpr ⟨trivial, List.forall_mem_cons.mpr ⟨trivial, List.forall_mem_cons.mpr ⟨trivial, List.forall_mem_cons.mpr ⟨trivial, List.forall_mem_cons.mpr ⟨⟨⟨okm_101.1, okm_101.2.1, okm_101.2.2.1, okm_101.2.2.2, Nat.le_of_ble_eq_true rfl, Nat.le_of_ble_eq_true rfl, Or.inl (tb3 138 rfl rfl)⟩, Nat.le_of_ble_eq_true rfl, oki_101, okv_101, ⟨_, rfl, rfl⟩⟩, List.forall_mem_cons.mpr ⟨trivial, List.forall_mem_cons.mpr ⟨trivial, List.forall_mem_cons.mpr ⟨trivial, fun _ h => absurd h List.not_mem_nil⟩⟩⟩⟩⟩⟩⟩⟩⟩⟩⟩⟩), List.forall_mem_cons.mpr ⟨(List.forall_mem_cons.mpr ⟨trivial, List.forall_mem_cons.mpr ⟨trivial, List.forall_mem_cons.mpr ⟨trivial, List.forall_mem_cons.mpr ⟨⟨⟨okm_152.1, okm_152.2.1, okm_152.2.2.1, okm_152.2.2.2, Nat.le_of_ble_eq_true rfl, Nat.le_of_ble_eq_true rfl, Or.inl (tb4 194 rfl rfl)⟩, Nat.le_of_ble_eq_true rfl, oki_152, okv_152, ⟨_, rfl, rfl⟩⟩, List.forall_mem_cons.mpr ⟨trivial, List.forall_mem_cons.mpr ⟨trivial, List.forall_mem_cons.mpr ⟨rfl, List.forall_mem_cons.mpr ⟨trivial, List.forall_mem_cons.mpr ⟨trivial, List.forall_mem_cons.mpr ⟨trivial, List.forall_mem_cons.mpr ⟨trivial, List.forall_mem_cons.mpr ⟨trivial, fun _ h => absurd h List.not_mem_nil⟩⟩⟩⟩⟩⟩⟩⟩⟩⟩⟩⟩), List.forall_mem_cons.mpr ⟨(List.forall_mem_cons.mpr ⟨trivial, List.forall_mem_cons.mpr ⟨⟨⟨okm_102.1, okm_102.2.1, okm_102.2.2.1, okm_102.2.2.2, Nat.le_of_ble_eq_true rfl, Nat.le_of_ble_eq_true rfl, Or.inl (tb3 153 rfl rfl)⟩, Nat.le_of_ble_eq_true rfl, oki_102, okv_102, ⟨_, rfl, rfl⟩⟩, List.forall_mem_cons.mpr ⟨trivial, List.forall_mem_cons.mpr ⟨trivial, List.forall_mem_cons.mpr ⟨trivial, List.forall_mem_cons.mpr ⟨trivial, List.forall_mem_cons.mpr ⟨trivial, List.forall_mem_cons.mpr ⟨trivial, List.forall_mem_cons.mpr ⟨⟨⟨okm_153.1, okm_153.2.1, okm_153.2.2.1, okm_153.2.2.2, Nat.le_of_ble_eq_true rfl, Nat.le_of_ble_eq_true rfl, Or.inl (tb4 202 rfl rfl)⟩, Nat.le_of_ble_eq_true rfl, oki_153, okv_153, ⟨_, rfl, rfl⟩⟩, List.forall_mem_cons.mpr ⟨trivial, fun _ h => absurd h List.not_mem_nil⟩⟩⟩⟩⟩⟩⟩⟩⟩⟩), List.forall_mem_cons.mpr ⟨(List.forall_mem_cons.mpr ⟨trivial, List.forall_mem_cons.mpr ⟨rfl, List.forall_mem_cons.mpr ⟨trivial, List.forall_mem_cons.mpr ⟨trivial, List.forall_mem_cons.mpr ⟨trivial, List.forall_mem_cons.mpr ⟨trivial, List.forall_mem_cons.mpr ⟨trivial, List.forall_mem_cons.mpr ⟨trivial, List.forall_mem_cons.mpr ⟨⟨⟨okm_103.1, okm_103.2.1, okm_103.2.2.1, okm_103.2.2.2, Nat.le_of_ble_eq_true rfl, Nat.le_of_ble_eq_true rfl, Or.inl (tb3 158 rfl rfl)⟩, Nat.le_of_ble_eq_true rfl, oki_103, okv_103, ⟨_, rfl, rfl⟩⟩, List.forall_mem_cons.mpr ⟨trivial, List.forall_mem_cons.mpr ⟨trivial, List.forall_mem_cons.mpr ⟨trivial, List.forall_mem_cons.mpr ⟨trivial, List.forall_mem_cons.mpr ⟨trivial, fun _ h => absurd h List.not_mem_nil⟩⟩⟩⟩⟩⟩⟩⟩⟩⟩⟩⟩⟩⟩), List.forall_mem_cons.mpr ⟨(List.forall_mem_cons.mpr ⟨trivial, List.forall_mem_cons.mpr ⟨⟨⟨okm_154.1, okm_154.2.1, okm_154.2.2.1, okm_154.2.2.2, Nat.le_of_ble_eq_true rfl, Nat.le_of_ble_eq_true rfl, Or.inl (tb4 206 rfl rfl)⟩, Nat.le_of_ble_eq_true rfl, oki_154, okv_154, ⟨_, rfl, rfl⟩⟩, List.forall_mem_cons.mpr ⟨trivial, List.forall_mem_cons.mpr ⟨trivial, List.forall_mem_cons.mpr ⟨rfl, List.forall_mem_cons.mpr ⟨trivial, List.forall_mem_cons.mpr ⟨trivial, List.forall_mem_cons.mpr ⟨trivial, List.forall_mem_cons.mpr ⟨trivial, List.forall_mem_cons.mpr ⟨trivial, List.forall_mem_cons.mpr ⟨trivial, List.forall_mem_cons.mpr ⟨⟨⟨okm_105.1, okm_105.2.1, okm_105.2.2.1, okm_105.2.2.2, Nat.le_of_ble_eq_true rfl, Nat.le_of_ble_eq_true rfl, Or.inl (tb3 162 rfl rfl)⟩, Nat.le_of_ble_eq_true rfl, oki_105, okv_105, ⟨_, rfl, rfl⟩⟩, fun _ h => absurd h List.not_mem_nil⟩⟩⟩⟩⟩⟩⟩⟩⟩⟩⟩⟩), List.forall_mem_cons.mpr ⟨(List.forall_mem_cons.mpr ⟨trivial, List.forall_mem_cons.mpr ⟨trivial, List.forall_mem_cons.mpr ⟨trivial, List.forall_mem_cons.mpr ⟨trivial, List.forall_mem_cons.mpr ⟨trivial, List.forall_mem_cons.mpr ⟨trivial, List.forall_mem_cons.mpr ⟨⟨⟨okm_155.1, okm_155.2.1, okm_155.2.2.1, okm_155.2.2.2, Nat.le_of_ble_eq_true rfl, Nat.le_of_ble_eq_true rfl, Or.inl (tb4 210 rfl rfl)⟩, Nat.le_of_ble_eq_true rfl, oki_155, okv_155, ⟨_, rfl, rfl⟩⟩, List.forall_mem_cons.mpr ⟨trivial, List.forall_mem_cons.mpr ⟨trivial, List.forall_mem_cons.mpr ⟨rfl, fun _ h => absurd h List.not_mem_nil⟩⟩⟩⟩⟩⟩⟩⟩⟩⟩), List.forall_mem_cons.mpr ⟨(List.forall_mem_cons.mpr ⟨trivial, List.forall_mem_cons.mpr ⟨trivial, List.forall_mem_cons.mpr ⟨trivial, List.forall_mem_cons.mpr ⟨rfl, fun _ h => absurd h List.not_mem_nil⟩⟩⟩⟩), fun _ h => absurd h List.not_mem_nil⟩⟩⟩⟩⟩⟩⟩⟩⟩⟩⟩⟩⟩⟩⟩⟩⟩⟩⟩⟩⟩⟩⟩⟩⟩⟩⟩⟩⟩⟩⟩⟩⟩⟩⟩⟩⟩⟩⟩⟩⟩⟩⟩⟩, by decide +kernel, rfl⟩
end
section
theorem okA_0 : ∀ m, m < 0 → sm_Q PZ PP m := lt_0
theorem okA_20 : ∀ m, m < 20 → sm_Q PZ PP m := lt_s (lt_s (lt_s (lt_s (lt_s (lt_s (lt_s (lt_s (lt_s (lt_s (lt_s (lt_s (lt_s (lt_s (lt_s (lt_s (lt_s (lt_s (lt_s (lt_s (okA_0) okQ_0) okQ_1) okQ_2) okQ_3) okQ_4) okQ_5) okQ_6) okQ_7) okQ_8) okQ_9) okQ_10) okQ_11) okQ_12) okQ_13) okQ_14) okQ_15) okQ_16) okQ_17) okQ_18) okQ_19
theorem okA_40 : ∀ m, m < 40 → sm_Q PZ PP m := lt_s (lt_s (lt_s (lt_s (lt_s (lt_s (lt_s (lt_s (lt_s (lt_s (lt_s (lt_s (lt_s (lt_s (lt_s (lt_s (lt_s (lt_s (lt_s (lt_s (okA_20) okQ_20) okQ_21) okQ_22) okQ_23) okQ_24) okQ_25) okQ_26) okQ_27) okQ_28) okQ_29) okQ_30) okQ_31) okQ_32) okQ_33) okQ_34) okQ_35) okQ_36) okQ_37) okQ_38) okQ_39
theorem okA_60 : ∀ m, m < 60 → sm_Q PZ PP m := lt_s (lt_s (lt_s (lt_s (lt_s (lt_s (lt_s (lt_s (lt_s (lt_s (lt_s (lt_s (lt_s (lt_s (lt_s (lt_s (lt_s (lt_s (lt_s (lt_s (okA_40) okQ_40) okQ_41) okQ_42) okQ_43) okQ_44) okQ_45) okQ_46) okQ_47) okQ_48) okQ_49) okQ_50) okQ_51) okQ_52) okQ_53) okQ_54) okQ_55) okQ_56) okQ_57) okQ_58) okQ_59
theorem okA_80 : ∀ m, m < 80 → sm_Q PZ PP m := lt_s (lt_s (lt_s (lt_s (lt_s (lt_s (lt_s (lt_s (lt_s (lt_s (lt_s (lt_s (lt_s (lt_s (lt_s (lt_s (lt_s (lt_s (lt_s (lt_s (okA_60) okQ_60) okQ_61) okQ_62) okQ_63) okQ_64) okQ_65) okQ_66) okQ_67) okQ_68) okQ_69) okQ_70) okQ_71) okQ_72) okQ_73) okQ_74) okQ_75) okQ_76) okQ_77) okQ_78) okQ_79
theorem okA_100 : ∀ m, m < 100 → sm_Q PZ PP m := lt_s (lt_s (lt_s (lt_s (lt_s (lt_s (lt_s (lt_s (lt_s (lt_s (lt_s (lt_s (lt_s (lt_s (lt_s (lt_s (lt_s (lt_s (lt_s (lt_s (okA_80) okQ_80) okQ_81) okQ_82) okQ_83) okQ_84) okQ_85) okQ_86) okQ_87) okQ_88) okQ_89) okQ_90) okQ_91) okQ_92) okQ_93) okQ_94) okQ_95) okQ_96) okQ_97) okQ_98) okQ_99
theorem okA_120 : ∀ m, m < 120 → sm_Q PZ PP m := lt_s (lt_s (lt_s (lt_s (lt_s (lt_s (lt_s (lt_s (lt_s (lt_s (lt_s (lt_s (lt_s (lt_s (lt_s (lt_s (lt_s (lt_s (lt_s (lt_s (okA_100) okQ_100) okQ_101) okQ_102) okQ_103) okQ_104) okQ_105) okQ_106) okQ_107) okQ_108) okQ_109) okQ_110) okQ_111) okQ_112) okQ_113) okQ_114) okQ_115) okQ_116) okQ_117) okQ_118) okQ_119
theorem okA_140 : ∀ m, m < 140 → sm_Q PZ PP m := lt_s (lt_s (lt_s (lt_s (lt_s (lt_s (lt_s (lt_s (lt_s (lt_s (lt_s (lt_s (lt_s (lt_s (lt_s (lt_s (lt_s (lt_s (lt_s (lt_s (okA_120) okQ_120) okQ_121) okQ_122) okQ_123) okQ_124) okQ_125) okQ_126) okQ_127) okQ_128) okQ_129) okQ_130) okQ_131) okQ_132) okQ_133) okQ_134) okQ_135) okQ_136) okQ_137) okQ_138) okQ_139
theorem okA_157 : ∀ m, m < 157 → sm_Q PZ PP m := lt_s (lt_s (lt_s (lt_s (lt_s (lt_s (lt_s (lt_s (lt_s (lt_s (lt_s (lt_s (lt_s (lt_s (lt_s (lt_s (lt_s (okA_140) okQ_140) okQ_141) okQ_142) okQ_143) okQ_144) okQ_145) okQ_146) okQ_147) okQ_148) okQ_149) okQ_150) okQ_151) okQ_152) okQ_153) okQ_154) okQ_155) okQ_156
theorem okc_0 : (∀ w ∈ u_ws "WornSums$Agreeing" uT_0 5, w ∈ zTB PZ) ∧ (∃ ty : Nat → FieldType, (∀ j, j < 5 → parseFieldDescriptor (uT_0 j).2.2.1 = some (ty j)) ∧ ∀ j, j < 5 → defaultValue (ty j) = vp_V (PP.2.2.1 0) j) ∧ (PP.2.2.1 0).length = 5 ∧ (∀ a, a < 5 → ∀ b, b < 5 → a ≠ b → (uT_0 a).2.1 ≠ (uT_0 b).2.1) ∧ PP.2.2.2.1 0 = .object "WornSums$Agreeing" :=
  ⟨show ∀ w ∈ [(Jvm.Cond.laysFinal "WornSums$Agreeing" "WornSums$Agreeing" "numbers" "[I"), (Jvm.Cond.laysFinal "WornSums$Agreeing" "WornSums$Agreeing" "doubts" "[I"), (Jvm.Cond.lays "WornSums$Agreeing" "WornSums$Agreeing" "size" "I"), (Jvm.Cond.lays "WornSums$Agreeing" "WornSums$Agreeing" "byWords" "I"), (Jvm.Cond.lays "WornSums$Agreeing" "WornSums$Agreeing" "byFigures" "I")], w ∈ tbG from List.forall_mem_cons.mpr ⟨(tb2 10 rfl rfl), List.forall_mem_cons.mpr ⟨(tb2 12 rfl rfl), List.forall_mem_cons.mpr ⟨(tb2 14 rfl rfl), List.forall_mem_cons.mpr ⟨(tb2 16 rfl rfl), List.forall_mem_cons.mpr ⟨(tb2 18 rfl rfl), fun _ h => absurd h List.not_mem_nil⟩⟩⟩⟩⟩, ⟨fun j => (pp_ty.getD 0 []).getD j .int, by decide +kernel, by decide +kernel⟩, rfl, by decide +kernel, rfl⟩
theorem okc_1 : (∀ w ∈ u_ws "WornSums$Findings" uT_1 8, w ∈ zTB PZ) ∧ (∃ ty : Nat → FieldType, (∀ j, j < 8 → parseFieldDescriptor (uT_1 j).2.2.1 = some (ty j)) ∧ ∀ j, j < 8 → defaultValue (ty j) = vp_V (PP.2.2.1 1) j) ∧ (PP.2.2.1 1).length = 8 ∧ (∀ a, a < 8 → ∀ b, b < 8 → a ≠ b → (uT_1 a).2.1 ≠ (uT_1 b).2.1) ∧ PP.2.2.2.1 1 = .object "WornSums$Findings" :=
  ⟨show ∀ w ∈ [(Jvm.Cond.laysFinal "WornSums$Findings" "WornSums$Findings" "agreeing" "[LWornSums$Agreeing;"), (Jvm.Cond.lays "WornSums$Findings" "WornSums$Findings" "agreeingKnown" "Z"), (Jvm.Cond.laysFinal "WornSums$Findings" "WornSums$Findings" "leastBySum" "[[I"), (Jvm.Cond.laysFinal "WornSums$Findings" "WornSums$Findings" "leastNumbers" "[I"), (Jvm.Cond.lays "WornSums$Findings" "WornSums$Findings" "leastDoubt" "I"), (Jvm.Cond.lays "WornSums$Findings" "WornSums$Findings" "leastKnown" "Z"), (Jvm.Cond.laysFinal "WornSums$Findings" "WornSums$Findings" "reached" "[Z"), (Jvm.Cond.laysFinal "WornSums$Findings" "WornSums$Findings" "letterCounts" "[I")], w ∈ tbG from List.forall_mem_cons.mpr ⟨(tb2 30 rfl rfl), List.forall_mem_cons.mpr ⟨(tb2 32 rfl rfl), List.forall_mem_cons.mpr ⟨(tb2 34 rfl rfl), List.forall_mem_cons.mpr ⟨(tb2 36 rfl rfl), List.forall_mem_cons.mpr ⟨(tb2 38 rfl rfl), List.forall_mem_cons.mpr ⟨(tb2 40 rfl rfl), List.forall_mem_cons.mpr ⟨(tb2 42 rfl rfl), List.forall_mem_cons.mpr ⟨(tb2 44 rfl rfl), fun _ h => absurd h List.not_mem_nil⟩⟩⟩⟩⟩⟩⟩⟩, ⟨fun j => (pp_ty.getD 1 []).getD j .int, by decide +kernel, by decide +kernel⟩, rfl, by decide +kernel, rfl⟩
theorem okc_2 : (∀ w ∈ u_ws "WornSums$History" uT_2 3, w ∈ zTB PZ) ∧ (∃ ty : Nat → FieldType, (∀ j, j < 3 → parseFieldDescriptor (uT_2 j).2.2.1 = some (ty j)) ∧ ∀ j, j < 3 → defaultValue (ty j) = vp_V (PP.2.2.1 2) j) ∧ (PP.2.2.1 2).length = 3 ∧ (∀ a, a < 3 → ∀ b, b < 3 → a ≠ b → (uT_2 a).2.1 ≠ (uT_2 b).2.1) ∧ PP.2.2.2.1 2 = .object "WornSums$History" :=
  ⟨show ∀ w ∈ [(Jvm.Cond.laysFinal "WornSums$History" "WornSums$History" "sheets" "[LWornSums$Sheet;"), (Jvm.Cond.lays "WornSums$History" "WornSums$History" "next" "I"), (Jvm.Cond.lays "WornSums$History" "WornSums$History" "size" "I")], w ∈ tbG from List.forall_mem_cons.mpr ⟨(tb1 110 rfl rfl), List.forall_mem_cons.mpr ⟨(tb1 112 rfl rfl), List.forall_mem_cons.mpr ⟨(tb1 114 rfl rfl), fun _ h => absurd h List.not_mem_nil⟩⟩⟩, ⟨fun j => (pp_ty.getD 2 []).getD j .int, by decide +kernel, by decide +kernel⟩, rfl, by decide +kernel, rfl⟩
theorem okc_3 : (∀ w ∈ u_ws "WornSums$NumberWords" uT_3 2, w ∈ zTB PZ) ∧ (∃ ty : Nat → FieldType, (∀ j, j < 2 → parseFieldDescriptor (uT_3 j).2.2.1 = some (ty j)) ∧ ∀ j, j < 2 → defaultValue (ty j) = vp_V (PP.2.2.1 3) j) ∧ (PP.2.2.1 3).length = 2 ∧ (∀ a, a < 2 → ∀ b, b < 2 → a ≠ b → (uT_3 a).2.1 ≠ (uT_3 b).2.1) ∧ PP.2.2.2.1 3 = .object "WornSums$NumberWords" :=
  ⟨show ∀ w ∈ [(Jvm.Cond.laysFinal "WornSums$NumberWords" "WornSums$NumberWords" "signs" "[C"), (Jvm.Cond.laysFinal "WornSums$NumberWords" "WornSums$NumberWords" "lengths" "[I")], w ∈ tbG from List.forall_mem_cons.mpr ⟨(tb1 218 rfl rfl), List.forall_mem_cons.mpr ⟨(tb1 220 rfl rfl), fun _ h => absurd h List.not_mem_nil⟩⟩, ⟨fun j => (pp_ty.getD 3 []).getD j .int, by decide +kernel, by decide +kernel⟩, rfl, by decide +kernel, rfl⟩
theorem okc_4 : (∀ w ∈ u_ws "WornSums$Row" uT_4 2, w ∈ zTB PZ) ∧ (∃ ty : Nat → FieldType, (∀ j, j < 2 → parseFieldDescriptor (uT_4 j).2.2.1 = some (ty j)) ∧ ∀ j, j < 2 → defaultValue (ty j) = vp_V (PP.2.2.1 4) j) ∧ (PP.2.2.1 4).length = 2 ∧ (∀ a, a < 2 → ∀ b, b < 2 → a ≠ b → (uT_4 a).2.1 ≠ (uT_4 b).2.1) ∧ PP.2.2.2.1 4 = .object "WornSums$Row" :=
  ⟨show ∀ w ∈ [(Jvm.Cond.laysFinal "WornSums$Row" "WornSums$Row" "signs" "[C"), (Jvm.Cond.lays "WornSums$Row" "WornSums$Row" "length" "I")], w ∈ tbG from List.forall_mem_cons.mpr ⟨(tb1 66 rfl rfl), List.forall_mem_cons.mpr ⟨(tb1 68 rfl rfl), fun _ h => absurd h List.not_mem_nil⟩⟩, ⟨fun j => (pp_ty.getD 4 []).getD j .int, by decide +kernel, by decide +kernel⟩, rfl, by decide +kernel, rfl⟩
theorem okc_5 : (∀ w ∈ u_ws "WornSums$Sheet" uT_5 5, w ∈ zTB PZ) ∧ (∃ ty : Nat → FieldType, (∀ j, j < 5 → parseFieldDescriptor (uT_5 j).2.2.1 = some (ty j)) ∧ ∀ j, j < 5 → defaultValue (ty j) = vp_V (PP.2.2.1 5) j) ∧ (PP.2.2.1 5).length = 5 ∧ (∀ a, a < 5 → ∀ b, b < 5 → a ≠ b → (uT_5 a).2.1 ≠ (uT_5 b).2.1) ∧ PP.2.2.2.1 5 = .object "WornSums$Sheet" :=
  ⟨show ∀ w ∈ [(Jvm.Cond.laysFinal "WornSums$Sheet" "WornSums$Sheet" "words" "[LWornSums$Row;"), (Jvm.Cond.laysFinal "WornSums$Sheet" "WornSums$Sheet" "figures" "[LWornSums$Row;"), (Jvm.Cond.lays "WornSums$Sheet" "WornSums$Sheet" "size" "I"), (Jvm.Cond.lays "WornSums$Sheet" "WornSums$Sheet" "slack" "I"), (Jvm.Cond.lays "WornSums$Sheet" "WornSums$Sheet" "total" "I")], w ∈ tbG from List.forall_mem_cons.mpr ⟨(tb1 84 rfl rfl), List.forall_mem_cons.mpr ⟨(tb1 86 rfl rfl), List.forall_mem_cons.mpr ⟨(tb1 88 rfl rfl), List.forall_mem_cons.mpr ⟨(tb1 90 rfl rfl), List.forall_mem_cons.mpr ⟨(tb1 92 rfl rfl), fun _ h => absurd h List.not_mem_nil⟩⟩⟩⟩⟩, ⟨fun j => (pp_ty.getD 5 []).getD j .int, by decide +kernel, by decide +kernel⟩, rfl, by decide +kernel, rfl⟩
theorem okc_6 : (∀ w ∈ u_ws "WornSums$Text" uT_6 2, w ∈ zTB PZ) ∧ (∃ ty : Nat → FieldType, (∀ j, j < 2 → parseFieldDescriptor (uT_6 j).2.2.1 = some (ty j)) ∧ ∀ j, j < 2 → defaultValue (ty j) = vp_V (PP.2.2.1 6) j) ∧ (PP.2.2.1 6).length = 2 ∧ (∀ a, a < 2 → ∀ b, b < 2 → a ≠ b → (uT_6 a).2.1 ≠ (uT_6 b).2.1) ∧ PP.2.2.2.1 6 = .object "WornSums$Text" :=
  ⟨show ∀ w ∈ [(Jvm.Cond.laysFinal "WornSums$Text" "WornSums$Text" "letters" "[C"), (Jvm.Cond.lays "WornSums$Text" "WornSums$Text" "length" "I")], w ∈ tbG from List.forall_mem_cons.mpr ⟨(tb1 35 rfl rfl), List.forall_mem_cons.mpr ⟨(tb1 37 rfl rfl), fun _ h => absurd h List.not_mem_nil⟩⟩, ⟨fun j => (pp_ty.getD 6 []).getD j .int, by decide +kernel, by decide +kernel⟩, rfl, by decide +kernel, rfl⟩
theorem okc_7 : (∀ w ∈ u_ws "WornSums" uT_7 7, w ∈ zTB PZ) ∧ (∃ ty : Nat → FieldType, (∀ j, j < 7 → parseFieldDescriptor (uT_7 j).2.2.1 = some (ty j)) ∧ ∀ j, j < 7 → defaultValue (ty j) = vp_V (PP.2.2.1 7) j) ∧ (PP.2.2.1 7).length = 7 ∧ (∀ a, a < 7 → ∀ b, b < 7 → a ≠ b → (uT_7 a).2.1 ≠ (uT_7 b).2.1) ∧ PP.2.2.2.1 7 = .object "WornSums" :=
  ⟨show ∀ w ∈ [(Jvm.Cond.laysFinal "WornSums" "WornSums" "text" "LWornSums$Text;"), (Jvm.Cond.laysFinal "WornSums" "WornSums" "sheet" "LWornSums$Sheet;"), (Jvm.Cond.laysFinal "WornSums" "WornSums" "history" "LWornSums$History;"), (Jvm.Cond.laysFinal "WornSums" "WornSums" "images" "[LWornSums$Sheet;"), (Jvm.Cond.laysFinal "WornSums" "WornSums" "imageKept" "[Z"), (Jvm.Cond.laysFinal "WornSums" "WornSums" "numberWords" "LWornSums$NumberWords;"), (Jvm.Cond.laysFinal "WornSums" "WornSums" "findings" "LWornSums$Findings;")], w ∈ tbG from List.forall_mem_cons.mpr ⟨(tb2 54 rfl rfl), List.forall_mem_cons.mpr ⟨(tb2 56 rfl rfl), List.forall_mem_cons.mpr ⟨(tb2 58 rfl rfl), List.forall_mem_cons.mpr ⟨(tb2 60 rfl rfl), List.forall_mem_cons.mpr ⟨(tb2 62 rfl rfl), List.forall_mem_cons.mpr ⟨(tb2 64 rfl rfl), List.forall_mem_cons.mpr ⟨(tb2 66 rfl rfl), fun _ h => absurd h List.not_mem_nil⟩⟩⟩⟩⟩⟩⟩, ⟨fun j => (pp_ty.getD 7 []).getD j .int, by decide +kernel, by decide +kernel⟩, rfl, by decide +kernel, rfl⟩
theorem okc_8 : (∀ w ∈ u_ws "WornSumsModel" uT_8 18, w ∈ zTB PZ) ∧ (∃ ty : Nat → FieldType, (∀ j, j < 18 → parseFieldDescriptor (uT_8 j).2.2.1 = some (ty j)) ∧ ∀ j, j < 18 → defaultValue (ty j) = vp_V (PP.2.2.1 8) j) ∧ (PP.2.2.1 8).length = 18 ∧ (∀ a, a < 18 → ∀ b, b < 18 → a ≠ b → (uT_8 a).2.1 ≠ (uT_8 b).2.1) ∧ PP.2.2.2.1 8 = .object "WornSumsModel" :=
  ⟨show ∀ w ∈ [(Jvm.Cond.laysFinal "WornSumsModel" "WornSumsModel" "now" "[I"), (Jvm.Cond.laysFinal "WornSumsModel" "WornSumsModel" "past" "[I"), (Jvm.Cond.lays "WornSumsModel" "WornSumsModel" "deeds" "I"), (Jvm.Cond.laysFinal "WornSumsModel" "WornSumsModel" "images" "[I"), (Jvm.Cond.laysFinal "WornSumsModel" "WornSumsModel" "isKept" "[Z"), (Jvm.Cond.laysFinal "WornSumsModel" "WornSumsModel" "text" "[I"), (Jvm.Cond.lays "WornSumsModel" "WornSumsModel" "letters" "I"), (Jvm.Cond.laysFinal "WornSumsModel" "WornSumsModel" "spelt" "[I"), (Jvm.Cond.lays "WornSumsModel" "WornSumsModel" "speltMany" "I"), (Jvm.Cond.laysFinal "WornSumsModel" "WornSumsModel" "agreeing" "[I"), (Jvm.Cond.laysFinal "WornSumsModel" "WornSumsModel" "doubts" "[I"), (Jvm.Cond.laysFinal "WornSumsModel" "WornSumsModel" "agreeMany" "[I"), (Jvm.Cond.laysFinal "WornSumsModel" "WornSumsModel" "early" "[I"), (Jvm.Cond.laysFinal "WornSumsModel" "WornSumsModel" "late" "[I"), (Jvm.Cond.laysFinal "WornSumsModel" "WornSumsModel" "chosen" "[I"), (Jvm.Cond.laysFinal "WornSumsModel" "WornSumsModel" "comes" "[Z"), (Jvm.Cond.laysFinal "WornSumsModel" "WornSumsModel" "comesThen" "[Z"), (Jvm.Cond.laysFinal "WornSumsModel" "WornSumsModel" "having" "[I")], w ∈ tbG from List.forall_mem_cons.mpr ⟨(tb3 196 rfl rfl), List.forall_mem_cons.mpr ⟨(tb3 198 rfl rfl), List.forall_mem_cons.mpr ⟨(tb3 200 rfl rfl), List.forall_mem_cons.mpr ⟨(tb3 202 rfl rfl), List.forall_mem_cons.mpr ⟨(tb3 204 rfl rfl), List.forall_mem_cons.mpr ⟨(tb3 206 rfl rfl), List.forall_mem_cons.mpr ⟨(tb3 208 rfl rfl), List.forall_mem_cons.mpr ⟨(tb3 210 rfl rfl), List.forall_mem_cons.mpr ⟨(tb3 212 rfl rfl), List.forall_mem_cons.mpr ⟨(tb3 214 rfl rfl), List.forall_mem_cons.mpr ⟨(tb3 216 rfl rfl), List.forall_mem_cons.mpr ⟨(tb3 218 rfl rfl), List.forall_mem_cons.mpr ⟨(tb3 220 rfl rfl), List.forall_mem_cons.mpr ⟨(tb3 222 rfl rfl), List.forall_mem_cons.mpr ⟨(tb3 224 rfl rfl), List.forall_mem_cons.mpr ⟨(tb3 226 rfl rfl), List.forall_mem_cons.mpr ⟨(tb3 228 rfl rfl), List.forall_mem_cons.mpr ⟨(tb3 230 rfl rfl), fun _ h => absurd h List.not_mem_nil⟩⟩⟩⟩⟩⟩⟩⟩⟩⟩⟩⟩⟩⟩⟩⟩⟩⟩, ⟨fun j => (pp_ty.getD 8 []).getD j .int, by decide +kernel, by decide +kernel⟩, rfl, by decide +kernel, rfl⟩
theorem okcl : ∀ (k : Nat) (q : vw_C), (zcl PZ)[k]? = some q → (∀ w ∈ u_ws q.1 q.2.1 q.2.2, w ∈ zTB PZ) ∧ (∃ ty : Nat → FieldType, (∀ j, j < q.2.2 → parseFieldDescriptor (q.2.1 j).2.2.1 = some (ty j)) ∧ ∀ j, j < q.2.2 → defaultValue (ty j) = vp_V (PP.2.2.1 k) j) ∧ (PP.2.2.1 k).length = q.2.2 ∧ (∀ a, a < q.2.2 → ∀ b, b < q.2.2 → a ≠ b → (q.2.1 a).2.1 ≠ (q.2.1 b).2.1) ∧ PP.2.2.2.1 k = .object q.1 := by
  intro k q hq
  match k, hq with
  | 0, hq =>
    obtain rfl : (("WornSums$Agreeing", uT_0, 5) : vw_C) = q := Option.some.inj hq
    exact okc_0
  | 1, hq =>
    obtain rfl : (("WornSums$Findings", uT_1, 8) : vw_C) = q := Option.some.inj hq
    exact okc_1
  | 2, hq =>
    obtain rfl : (("WornSums$History", uT_2, 3) : vw_C) = q := Option.some.inj hq
    exact okc_2
  | 3, hq =>
    obtain rfl : (("WornSums$NumberWords", uT_3, 2) : vw_C) = q := Option.some.inj hq
    exact okc_3
  | 4, hq =>
    obtain rfl : (("WornSums$Row", uT_4, 2) : vw_C) = q := Option.some.inj hq
    exact okc_4
  | 5, hq =>
    obtain rfl : (("WornSums$Sheet", uT_5, 5) : vw_C) = q := Option.some.inj hq
    exact okc_5
  | 6, hq =>
    obtain rfl : (("WornSums$Text", uT_6, 2) : vw_C) = q := Option.some.inj hq
    exact okc_6
  | 7, hq =>
    obtain rfl : (("WornSums", uT_7, 7) : vw_C) = q := Option.some.inj hq
    exact okc_7
  | 8, hq =>
    obtain rfl : (("WornSumsModel", uT_8, 18) : vw_C) = q := Option.some.inj hq
    exact okc_8
  | k + 9, hq => cases hq
theorem sm_AO_A {t : FieldType} {u U : State} (hvm : u.vm.Alike U.vm) (h : va_Nw (.arrayOver (.array t)) u) : va_Nw (.arrayOver (.array t)) U := by
  obtain ⟨comp, c, k, h1, h2, h3, h4, h5⟩ := arrayOverA_spec h
  obtain ⟨k', hk', he⟩ := hvm.2.2 _ _ h3
  have hi : (U.vm.classes.findIdx? fun (x : Class) => match x.kind with | .array component _ => component == comp | _ => false) = some c := by
    refine (va_idx_bare U.vm comp).symm.trans ?_
    first | rw [hvm.bare_eq] | rw [← hvm.bare_eq]
    exact (va_idx_bare u.vm comp).trans h2
  have hkind : k'.kind = .array comp (.array t) := by rw [he]; exact h4
  have f1 : U.vm.findClass (FieldType.array t).toString = some comp := by rw [hvm.findClass]; exact h1
  have f2 : U.vm.findClass ("[" ++ (FieldType.array t).toString) = some c := by rw [hvm.findClass]; exact h5
  unfold va_Nw Cond.before Cond.holds
  simp only [Cond.value]
  rw [f1, Option.bind_some]
  refine (congrArg (fun o : Option Nat => (o.bind (fun c => (U.vm.classes[c]?).map fun (k : Class) => match k.kind with | .array _ ty => decide (ty = FieldType.array t) && decide (U.vm.findClass ("[" ++ (FieldType.array t).toString) = some c) | _ => false) == some true)) hi).trans ?_
  simp [hk', hkind, f2]
theorem oknw : ∀ w ∈ pp_nw, (∀ s U : State, s.WarmedH U.vm → va_Nw w s → va_Nw w U) ∧ (∀ u U : State, u.vm = U.vm → va_Nw w u → va_Nw w U) ∧ ∀ (A : Array Value) (U : State), va_Nw w U → w.before A U = true := List.forall_mem_cons.mpr ⟨⟨fun s U hW h => va_Nw.warmM hW h, fun u U h hz => va_Nw.same rfl h hz, fun A U h => va_Nw.use rfl h⟩, List.forall_mem_cons.mpr ⟨⟨fun s U hW h => va_Nw.warmF hW h, fun u U h hz => va_Nw.same rfl h hz, fun A U h => va_Nw.use rfl h⟩, List.forall_mem_cons.mpr ⟨⟨fun s U hW h => va_Nw.warmF hW h, fun u U h hz => va_Nw.same rfl h hz, fun A U h => va_Nw.use rfl h⟩, List.forall_mem_cons.mpr ⟨⟨fun s U hW h => va_Nw.warmM hW h, fun u U h hz => va_Nw.same rfl h hz, fun A U h => va_Nw.use rfl h⟩, List.forall_mem_cons.mpr ⟨⟨fun s U hW h => va_Nw.warmF hW h, fun u U h hz => va_Nw.same rfl h hz, fun A U h => va_Nw.use rfl h⟩, List.forall_mem_cons.mpr ⟨⟨fun s U hW h => va_Nw.warmF hW h, fun u U h hz => va_Nw.same rfl h hz, fun A U h => va_Nw.use rfl h⟩, List.forall_mem_cons.mpr ⟨⟨fun s U hW h => va_Nw.warmF hW h, fun u U h hz => va_Nw.same rfl h hz, fun A U h => va_Nw.use rfl h⟩, List.forall_mem_cons.mpr ⟨⟨fun s U hW h => va_Nw.warmF hW h, fun u U h hz => va_Nw.same rfl h hz, fun A U h => va_Nw.use rfl h⟩, List.forall_mem_cons.mpr ⟨⟨fun s U hW h => va_Nw.warmF hW h, fun u U h hz => va_Nw.same rfl h hz, fun A U h => va_Nw.use rfl h⟩, List.forall_mem_cons.mpr ⟨⟨fun s U hW h => va_Nw.warmF hW h, fun u U h hz => va_Nw.same rfl h hz, fun A U h => va_Nw.use rfl h⟩, List.forall_mem_cons.mpr ⟨⟨fun s U hW h => va_Nw.warmF hW h, fun u U h hz => va_Nw.same rfl h hz, fun A U h => va_Nw.use rfl h⟩, List.forall_mem_cons.mpr ⟨⟨fun s U hW h => va_Nw.warmF hW h, fun u U h hz => va_Nw.same rfl h hz, fun A U h => va_Nw.use rfl h⟩, List.forall_mem_cons.mpr ⟨⟨fun s U hW h => va_Nw.warmF hW h, fun u U h hz => va_Nw.same rfl h hz, fun A U h => va_Nw.use rfl h⟩, List.forall_mem_cons.mpr ⟨⟨fun s U hW h => va_Nw.warmF hW h, fun u U h hz => va_Nw.same rfl h hz, fun A U h => va_Nw.use rfl h⟩, List.forall_mem_cons.mpr ⟨⟨fun s U hW h => va_Nw.warmF hW h, fun u U h hz => va_Nw.same rfl h hz, fun A U h => va_Nw.use rfl h⟩, List.forall_mem_cons.mpr ⟨⟨fun s U hW h => va_Nw.warmF hW h, fun u U h hz => va_Nw.same rfl h hz, fun A U h => va_Nw.use rfl h⟩, List.forall_mem_cons.mpr ⟨⟨fun s U hW h => va_Nw.warmM hW h, fun u U h hz => va_Nw.same rfl h hz, fun A U h => va_Nw.use rfl h⟩, List.forall_mem_cons.mpr ⟨⟨fun s U hW h => va_Nw.warmM hW h, fun u U h hz => va_Nw.same rfl h hz, fun A U h => va_Nw.use rfl h⟩, List.forall_mem_cons.mpr ⟨⟨fun s U hW h => va_Nw.warmF hW h, fun u U h hz => va_Nw.same rfl h hz, fun A U h => va_Nw.use rfl h⟩, List.forall_mem_cons.mpr ⟨⟨fun s U hW h => va_Nw.warmM hW h, fun u U h hz => va_Nw.same rfl h hz, fun A U h => va_Nw.use rfl h⟩, List.forall_mem_cons.mpr ⟨⟨fun s U hW h => va_Nw.warmM hW h, fun u U h hz => va_Nw.same rfl h hz, fun A U h => va_Nw.use rfl h⟩, List.forall_mem_cons.mpr ⟨⟨fun s U hW h => va_Nw.warmF hW h, fun u U h hz => va_Nw.same rfl h hz, fun A U h => va_Nw.use rfl h⟩, List.forall_mem_cons.mpr ⟨⟨fun s U hW h => va_Nw.warmF hW h, fun u U h hz => va_Nw.same rfl h hz, fun A U h => va_Nw.use rfl h⟩, List.forall_mem_cons.mpr ⟨⟨fun s U hW h => va_Nw.warmF hW h, fun u U h hz => va_Nw.same rfl h hz, fun A U h => va_Nw.use rfl h⟩, List.forall_mem_cons.mpr ⟨⟨fun s U hW h => va_Nw.warmF hW h, fun u U h hz => va_Nw.same rfl h hz, fun A U h => va_Nw.use rfl h⟩, List.forall_mem_cons.mpr ⟨⟨fun s U hW h => va_Nw.warmF hW h, fun u U h hz => va_Nw.same rfl h hz, fun A U h => va_Nw.use rfl h⟩, List.forall_mem_cons.mpr ⟨⟨fun s U hW h => va_Nw.warmM hW h, fun u U h hz => va_Nw.same rfl h hz, fun A U h => va_Nw.use rfl h⟩, List.forall_mem_cons.mpr ⟨⟨fun s U hW h => va_Nw.warmM hW h, fun u U h hz => va_Nw.same rfl h hz, fun A U h => va_Nw.use rfl h⟩, List.forall_mem_cons.mpr ⟨⟨fun s U hW h => va_AO.moved hW.alike h, fun u U h hz => va_AO.moved (by rw [h]; exact Vm.Alike.refl _) hz, fun A U h => va_AO.use h⟩, List.forall_mem_cons.mpr ⟨⟨fun s U hW h => va_AO.moved hW.alike h, fun u U h hz => va_AO.moved (by rw [h]; exact Vm.Alike.refl _) hz, fun A U h => va_AO.use h⟩, List.forall_mem_cons.mpr ⟨⟨fun s U hW h => va_AO.moved hW.alike h, fun u U h hz => va_AO.moved (by rw [h]; exact Vm.Alike.refl _) hz, fun A U h => va_AO.use h⟩, List.forall_mem_cons.mpr ⟨⟨fun s U hW h => sm_AO_A hW.alike h, fun u U h hz => sm_AO_A (by rw [h]; exact Vm.Alike.refl _) hz, fun A U h => h⟩, fun _ h => absurd h List.not_mem_nil⟩⟩⟩⟩⟩⟩⟩⟩⟩⟩⟩⟩⟩⟩⟩⟩⟩⟩⟩⟩⟩⟩⟩⟩⟩⟩⟩⟩⟩⟩⟩⟩
theorem okZ : sm_okZ PZ PP := ⟨⟨okcl, fun w hw => (List.mem_filter.mp hw).2, oknw⟩, fun m pc i len x y z hm hc => sm_Q_ok (okA_157 m hm) hc, fun m hm => (okA_157 m hm).2.2⟩
end
