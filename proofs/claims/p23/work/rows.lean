section
/-! THE SMALL MACHINE: a pure interpreter of the bytecode over a typed heap. Everything about the class and the reference is proved of it (parts 10 and on); one theorem (part 02) carries an answer of the small machine over to the machine itself. -/
abbrev smC : Type := (FieldType × vp_A) ⊕ (Nat × List Value)
/-- the heap: the cells by address; the next address; the slots made so far -/
abbrev smH : Type := (Nat → Option smC) × Nat × Nat
abbrev smL : Type := List (Nat × Value)
abbrev smR : Type := Option (Option Value × smH)
abbrev smK : Type := Nat → smL → List Value → smH → smR
/-- an instruction, its length, what its entry of the pool comes to -/
abbrev smI : Type := Instr × Nat × Nat × Nat × Nat
/-- the script: its length, its ints -/
abbrev smX : Type := Nat × (Nat → Int32)
/-- a program: code in chunks of 16 bytes; types of fields; fields of a new object; types of classes; string constants; at which places which locals are still read -/
abbrev smP : Type := (Nat → List (List (Nat × smI))) × (Nat → Nat → FieldType) × (Nat → List Value) × (Nat → FieldType) × (List (List Int32)) × (Nat → List (Nat × List Nat))
def sm_at : List (Nat × smI) → Nat → Option smI
  | [], _ => none
  | q :: l, pc => bif Nat.beq q.1 pc then some q.2 else sm_at l pc
def sm_code (P : smP) (m pc : Nat) : Option smI := sm_at ((P.1 m).getD (pc / 16) []) pc
def sm_tl : List (Nat × List Nat) → Nat → Option (List Nat)
  | [], _ => none
  | q :: l, pc => bif Nat.beq q.1 pc then some q.2 else sm_tl l pc
/-- the locals with which a place is come to: those that are still read there -/
def sm_tr (P : smP) (m pc : Nat) (ls : smL) : smL := match sm_tl (P.2.2.2.2.2 m) pc with
  | some lv => ls.filter (fun q => lv.contains q.1)
  | none => ls
/-- a constant: x, or -x -/
def sm_k (x y : Nat) : Int32 := bif Nat.beq y 0 then Int32.ofNat x else -Int32.ofNat x
def sm_lg (k : Nat) : smL → Option Value
  | [] => none
  | q :: l => bif Nat.beq q.1 k then some q.2 else sm_lg k l
def sm_in (i : Nat) (v : Value) : smL → smL
  | [] => [(i, v)]
  | q :: l => bif Nat.blt q.1 i then q :: sm_in i v l else (i, v) :: q :: l
def sm_l1 (i : Nat) (v : Value) (l : smL) : smL := sm_in i v (l.filter (fun q => !(q.1 == i) && !(q.1 + 1 == i && q.2.category == 2)))
def sm_l2 (i : Nat) (v : Value) (l : smL) : smL := sm_in i v (l.filter (fun q => !(q.1 == i) && (!(q.1 == i + 1) && !(q.1 + 1 == i && q.2.category == 2))))
def sm_w (h : smH) (a : Nat) (e : smC) : smH := (fun b => if b = a then some e else h.1 b, h.2)
def sm_n (h : smH) (e : smC) (k : Nat) : smH := (fun b => if b = h.2.1 then some e else h.1 b, h.2.1 + 1, h.2.2 + k)
/-- new int[n][k] -/
def sm_mn (h : smH) (n k : Nat) : smH := (fun b => if b = h.2.1 then some (.inl (.array .int, n, .inr (.inr (.inr (.inr (fun i => if i < n then some (h.2.1 + 1 + i) else none)))))) else if h.2.1 < b ∧ b ≤ h.2.1 + n then some (.inl (.int, k, .inl (fun _ => 0))) else h.1 b, h.2.1 + 1 + n, h.2.2 + (n + n * k))
/-- arrays that are no cells of the heap: the script (tag 40), the bytes of string constant t (tag 16 + t) -/
def sm_oA (P : smP) (X : smX) (t : Nat) : Option (FieldType × vp_A) :=
  bif Nat.beq t 40 then some (.int, X.1, .inl X.2)
  else bif Nat.blt t 40 && Nat.blt 15 t then (match P.2.2.2.2.1[t - 16]? with
    | some l => some (.byte, l.length, .inl (fun j => l.getD j 0))
    | none => none)
  else none
def sm_ar (P : smP) (X : smX) (h : smH) (v : Value) : Option (FieldType × vp_A) := match v with
  | .ref a => (match h.1 a with
    | some (.inl x) => some x
    | _ => none)
  | .retAddr t => sm_oA P X t
  | _ => none
def sm_pI (st : List Value) (κ : Int32 → List Value → smR) : smR := match st with
  | .int x :: r => κ x r
  | _ => none
def sm_pJ (st : List Value) (κ : Int64 → List Value → smR) : smR := match st with
  | .long x :: r => κ x r
  | _ => none
def sm_pR (st : List Value) (κ : Nat → List Value → smR) : smR := match st with
  | .ref x :: r => κ x r
  | _ => none
def sm_pT (st : List Value) (κ : Nat → List Value → smR) : smR := match st with
  | .retAddr x :: r => κ x r
  | _ => none
def sm_pV (st : List Value) (κ : Value → List Value → smR) : smR := match st with
  | x :: r => κ x r
  | _ => none
def sm_gI (o : Option Value) (κ : Int32 → smR) : smR := match o with
  | some (.int x) => κ x
  | _ => none
def sm_gJ (o : Option Value) (κ : Int64 → smR) : smR := match o with
  | some (.long x) => κ x
  | _ => none
/-- a reference, null or a tag -/
def sm_isA (v : Value) : Bool := match v with
  | .ref _ => true
  | .null => true
  | .retAddr _ => true
  | _ => false
def sm_gA (o : Option Value) (κ : Value → smR) : smR := match o with
  | some (.ref a) => κ (.ref a)
  | some .null => κ .null
  | some (.retAddr t) => κ (.retAddr t)
  | _ => none
/-- field k of the object at a, of class number ci -/
def sm_f (h : smH) (a ci k : Nat) : Option Value := match h.1 a with
  | some (.inr (c, fs)) => bif Nat.beq c ci then fs[k]? else none
  | _ => none
def sm_gR (o : Option Value) (κ : Nat → smR) : smR := match o with
  | some (.ref a) => κ a
  | _ => none
def sm_fP (h : smH) (a ci k : Nat) (v : Value) (κ : smH → smR) : smR := match h.1 a with
  | some (.inr (c, fs)) => bif Nat.beq c ci && Nat.blt k fs.length then κ (sm_w h a (.inr (ci, fs.set k v))) else none
  | _ => none
def sm_ld (o : Option (FieldType × vp_A)) (ty : FieldType) (i : Int32) (κ : Int32 → smR) : smR := match o with
  | some (t, n, .inl f) => if t = ty then (if i < 0 ∨ n ≤ i.toNatClampNeg then none else κ (f i.toNatClampNeg)) else none
  | _ => none
def sm_ldR (o : Option (FieldType × vp_A)) (i : Int32) (κ : Nat → smR) : smR := match o with
  | some (t, n, .inr (.inr (.inr (.inr f)))) => bif t.isReference then (if i < 0 ∨ n ≤ i.toNatClampNeg then none else (match f i.toNatClampNeg with
    | some b => κ b
    | none => none)) else none
  | _ => none
def sm_st (h : smH) (a : Nat) (ty : FieldType) (i x : Int32) (κ : smH → smR) : smR := match h.1 a with
  | some (.inl (t, n, .inl f)) => if t = ty then (if i < 0 ∨ n ≤ i.toNatClampNeg then none else κ (sm_w h a (.inl (ty, n, .inl (upd f i.toNatClampNeg x))))) else none
  | _ => none
def sm_stR (P : smP) (h : smH) (a : Nat) (i : Int32) (v : Nat) (κ : smH → smR) : smR := match h.1 a with
  | some (.inl (t, n, .inr (.inr (.inr (.inr f))))) => (match h.1 v with
    | some (.inr (c, _)) => if t = P.2.2.2.1 c then (if i < 0 ∨ n ≤ i.toNatClampNeg then none else κ (sm_w h a (.inl (t, n, .inr (.inr (.inr (.inr (va_up f i.toNatClampNeg (some v))))))))) else none
    | _ => none)
  | _ => none
def sm_ldJ (o : Option (FieldType × vp_A)) (i : Int32) (κ : Int64 → smR) : smR := match o with
  | some (t, n, .inr (.inl f)) => if t = .long then (if i < 0 ∨ n ≤ i.toNatClampNeg then none else κ (f i.toNatClampNeg)) else none
  | _ => none
def sm_stJ (h : smH) (a : Nat) (i : Int32) (x : Int64) (κ : smH → smR) : smR := match h.1 a with
  | some (.inl (t, n, .inr (.inl f))) => if t = .long then (if i < 0 ∨ n ≤ i.toNatClampNeg then none else κ (sm_w h a (.inl (.long, n, .inr (.inl (fun j => if j = i.toNatClampNeg then x else f j)))))) else none
  | _ => none
def sm_dfJ (ty : FieldType) : Bool := match ty with
  | .long => true
  | _ => false
def sm_al (o : Option (FieldType × vp_A)) (κ : Nat → smR) : smR := match o with
  | some (_, n, _) => κ n
  | none => none
/-- the object at a is of class number c -/
def sm_vc (h : smH) (a c : Nat) (r : smR) : smR := match h.1 a with
  | some (.inr (d, _)) => bif Nat.beq d c then r else none
  | _ => none
def sm_sw (o : Option Int) (κ : Int → smR) : smR := match o with
  | some i => κ i
  | none => none
def sm_cR (o : smR) (κ : Option Value → smH → smR) : smR := match o with
  | some (v, h) => κ v h
  | none => none
def sm_cat1 (v : Value) : Bool := match v with
  | .long _ => false
  | .double _ => false
  | _ => true
/-- n arguments off the stack -/
def sm_pN (n : Nat) (st : List Value) (κ : List Value → List Value → smR) : smR := bif Nat.ble n st.length && (st.take n).all sm_cat1 && Nat.ble ((st.drop n).map (fun v => v.category)).sum 8 then κ (st.take n).reverse (st.drop n) else none
def sm_nk (z : Nat) : FieldType := match z with
  | 1 => .boolean
  | 2 => .char
  | 3 => .byte
  | _ => .short
def sm_dfI (ty : FieldType) : Bool := match ty with
  | .int => true
  | .boolean => true
  | .char => true
  | _ => false
def sm_tg (pc : Nat) (off : Int) : Nat := ((pc : Int) + off).toNat

section SMSTEP
variable (P : smP) (X : smX) (C : Nat → List Value → smH → smR) (K : smK)
def sm_s6 (i : Instr) (x y z pc : Nat) (ls : smL) (st : List Value) (h : smH) : smR := match i with
  | .invokestatic _ => (match z with
    | 0 => sm_pN y st fun as r => sm_cR (C x as h) fun v h => K (pc + 3) ls (v.toList ++ r) h
    | 1 => sm_pI st fun b r => sm_pI r fun a r => bif Nat.ble (r.map (fun v => v.category)).sum 8 then K (pc + 3) ls (.int (if a < b then b else a) :: r) h else none
    | _ => sm_pI st fun b r => sm_pI r fun a r => bif Nat.ble (r.map (fun v => v.category)).sum 8 then K (pc + 3) ls (.int (if b < a then b else a) :: r) h else none)
  | .invokevirtual _ => (match z with
    | 0 => sm_pN y st fun as r => sm_pT r fun t r => bif Nat.blt t P.2.2.2.2.1.length then sm_cR (C x (.retAddr t :: as) h) fun v h => K (pc + 3) ls (v.toList ++ r) h else none
    | z + 1 => sm_pN y st fun as r => sm_pR r fun a r => sm_vc h a z (sm_cR (C x (.ref a :: as) h) fun v h => K (pc + 3) ls (v.toList ++ r) h))
  | .invokespecial _ => (match z with
    | 0 => sm_pR st fun _ r => bif Nat.ble (r.map (fun v => v.category)).sum 8 then K (pc + 3) ls r h else none
    | _ + 1 => sm_pN y st fun as r => sm_pR r fun a r => sm_cR (C x (.ref a :: as) h) fun v h => K (pc + 3) ls (v.toList ++ r) h)
  | .getstatic _ => (match z with
    | 0 => K (pc + 3) ls (.int (Int32.ofNat x) :: st) h
    | _ + 1 => K (pc + 3) ls (.retAddr x :: st) h)
  | .ireturn => sm_pI st fun v r => (match r with
    | [] => (match z with
      | 0 => some (some (.int v), h)
      | z + 1 => if narrow (sm_nk (z + 1)) (.int v) = .int v then some (some (.int v), h) else none)
    | _ => none)
  | .lreturn => sm_pJ st fun v r => (match r with
    | [] => some (some (.long v), h)
    | _ => none)
  | .areturn => sm_gA st.head? fun v => (match st with
    | [_] => some (some v, h)
    | _ => none)
  | .return_ => (match st with
    | [] => some (none, h)
    | _ => none)
  | _ => none
def sm_s5 (i : Instr) (x y z pc : Nat) (ls : smL) (st : List Value) (h : smH) : smR := match i with
  | .new _ => K (pc + 3) ls (.ref h.2.1 :: st) (sm_n h (.inr (x, P.2.2.1 x)) (P.2.2.1 x).length)
  | .newarray t => sm_pI st fun n r => if n < 0 ∨ 1000000 < n.toNatClampNeg then none else (bif sm_dfI (newarray.typeOf t) then K (pc + 2) ls (.ref h.2.1 :: r) (sm_n h (.inl (newarray.typeOf t, n.toNatClampNeg, .inl (fun _ => 0))) n.toNatClampNeg) else (bif sm_dfJ (newarray.typeOf t) then K (pc + 2) ls (.ref h.2.1 :: r) (sm_n h (.inl (newarray.typeOf t, n.toNatClampNeg, .inr (.inl (fun _ => 0)))) n.toNatClampNeg) else none))
  | .anewarray _ => sm_pI st fun n r => if n < 0 ∨ 1000000 < n.toNatClampNeg then none else K (pc + 3) ls (.ref h.2.1 :: r) (sm_n h (.inl (P.2.2.2.1 x, n.toNatClampNeg, .inr (.inr (.inr (.inr (fun _ => none)))))) n.toNatClampNeg)
  | .multianewarray _ _ => sm_pI st fun k r => sm_pI r fun n r => if (n < 0 ∨ 1000000 < n.toNatClampNeg) ∨ (k < 0 ∨ 1000000 < k.toNatClampNeg) then none else K (pc + 4) ls (.ref h.2.1 :: r) (sm_mn h n.toNatClampNeg k.toNatClampNeg)
  | .ldc _ => (match z with
    | 0 => K (pc + 2) ls (.int (Int32.ofNat x) :: st) h
    | _ + 1 => K (pc + 2) ls (.retAddr x :: st) h)
  | .ldc2_w _ => K (pc + 3) ls (.long (Int64.ofNat x) :: st) h
  | .i2c => sm_pI st fun a r => K (pc + 1) ls (.int (a.toUInt32 % 65536).toInt32 :: r) h
  | .l2i => sm_pJ st fun a r => K (pc + 1) ls (.int a.toInt32 :: r) h
  | .lconst n => K (pc + 1) ls (.long (Int64.ofNat (n : Nat)) :: st) h
  | .ldiv => sm_pJ st fun b r => sm_pJ r fun a r => if b = 0 then none else K (pc + 1) ls (.long (a / b) :: r) h
  | .lrem => sm_pJ st fun b r => sm_pJ r fun a r => if b = 0 then none else K (pc + 1) ls (.long (a - a / b * b) :: r) h
  | .ladd => sm_pJ st fun b r => sm_pJ r fun a r => K (pc + 1) ls (.long (a + b) :: r) h
  | .lmul => sm_pJ st fun b r => sm_pJ r fun a r => K (pc + 1) ls (.long (a * b) :: r) h
  | .i2l => sm_pI st fun a r => K (pc + 1) ls (.long a.toInt64 :: r) h
  | .lcmp => sm_pJ st fun b r => sm_pJ r fun a r => K (pc + 1) ls (.int (lg_cmp a b) :: r) h
  | .tableswitch d lo hi offs => sm_pI st fun a r => if a.toInt < lo ∨ hi < a.toInt then K (sm_tg pc d) ls r h else sm_sw offs[(a.toInt - lo).toNat]? fun o => K (sm_tg pc o) ls r h
  | i => sm_s6 P C K i x y z pc ls st h
def sm_s4 (i : Instr) (x y z pc : Nat) (ls : smL) (st : List Value) (h : smH) : smR := match i with
  | .goto o => K (sm_tg pc o) ls st h
  | .ifCond c o => sm_pI st fun a r => (match c with
    | .eq => if a = 0 then K (sm_tg pc o) ls r h else K (pc + 3) ls r h
    | .ne => if a = 0 then K (pc + 3) ls r h else K (sm_tg pc o) ls r h
    | .lt => if a < 0 then K (sm_tg pc o) ls r h else K (pc + 3) ls r h
    | .ge => if 0 ≤ a then K (sm_tg pc o) ls r h else K (pc + 3) ls r h
    | .gt => if 0 < a then K (sm_tg pc o) ls r h else K (pc + 3) ls r h
    | .le => if a ≤ 0 then K (sm_tg pc o) ls r h else K (pc + 3) ls r h)
  | .if_icmp c o => sm_pI st fun b r => sm_pI r fun a r => (match c with
    | .eq => if a = b then K (sm_tg pc o) ls r h else K (pc + 3) ls r h
    | .ne => if a = b then K (pc + 3) ls r h else K (sm_tg pc o) ls r h
    | .lt => if a < b then K (sm_tg pc o) ls r h else K (pc + 3) ls r h
    | .ge => if b ≤ a then K (sm_tg pc o) ls r h else K (pc + 3) ls r h
    | .gt => if b < a then K (sm_tg pc o) ls r h else K (pc + 3) ls r h
    | .le => if a ≤ b then K (sm_tg pc o) ls r h else K (pc + 3) ls r h)
  | .ifnull o => (match st with
    | .ref _ :: r => K (pc + 3) ls r h
    | .null :: r => K (sm_tg pc o) ls r h
    | _ => none)
  | .ifnonnull o => (match st with
    | .ref _ :: r => K (sm_tg pc o) ls r h
    | .null :: r => K (pc + 3) ls r h
    | _ => none)
  | .iinc k _ => sm_gI (sm_lg k ls) fun v => K (pc + 3) (sm_l1 k (.int (v + sm_k x y)) ls) st h
  | i => sm_s5 P C K i x y z pc ls st h
def sm_s3 (i : Instr) (x y z pc : Nat) (ls : smL) (st : List Value) (h : smH) : smR := match i with
  | .getfield _ => (match z with
    | 0 => sm_pR st fun a r => sm_gI (sm_f h a x y) fun v => K (pc + 3) ls (.int v :: r) h
    | 1 => sm_pR st fun a r => sm_gR (sm_f h a x y) fun v => K (pc + 3) ls (.ref v :: r) h
    | 2 => sm_pT st fun t r => bif Nat.blt t P.2.2.2.2.1.length then K (pc + 3) ls (.retAddr (t + 16) :: r) h else none
    | _ => sm_pT st fun t r => bif Nat.blt t P.2.2.2.2.1.length then K (pc + 3) ls (.int 0 :: r) h else none)
  | .putfield _ => (match z with
    | 0 => sm_pI st fun v r => sm_pR r fun a r => sm_fP h a x y (.int v) fun h => K (pc + 3) ls r h
    | 1 => sm_pR st fun v r => sm_pR r fun a r => sm_fP h a x y (.ref v) fun h => K (pc + 3) ls r h
    | _ => sm_pI st fun v r => sm_pR r fun a r => if narrow (P.2.1 x y) (.int v) = .int v ∧ fits (P.2.1 x y) (.int v) = true then sm_fP h a x y (.int v) fun h => K (pc + 3) ls r h else none)
  | .iaload => sm_pI st fun i r => sm_pV r fun a r => sm_ld (sm_ar P X h a) .int i fun v => K (pc + 1) ls (.int v :: r) h
  | .caload => sm_pI st fun i r => sm_pV r fun a r => sm_ld (sm_ar P X h a) .char i fun v => K (pc + 1) ls (.int v :: r) h
  | .baload => (match z with
    | 0 => sm_pI st fun i r => sm_pV r fun a r => sm_ld (sm_ar P X h a) .boolean i fun v => K (pc + 1) ls (.int v :: r) h
    | _ => sm_pI st fun i r => sm_pV r fun a r => sm_ld (sm_ar P X h a) .byte i fun v => K (pc + 1) ls (.int v :: r) h)
  | .aaload => sm_pI st fun i r => sm_pR r fun a r => sm_ldR (sm_ar P X h (.ref a)) i fun b => K (pc + 1) ls (.ref b :: r) h
  | .iastore => sm_pI st fun v r => sm_pI r fun i r => sm_pR r fun a r => sm_st h a .int i v fun h => K (pc + 1) ls r h
  | .castore => sm_pI st fun v r => sm_pI r fun i r => sm_pR r fun a r => sm_st h a .char i (vp_nar .char v) fun h => K (pc + 1) ls r h
  | .bastore => sm_pI st fun v r => sm_pI r fun i r => sm_pR r fun a r => sm_st h a .boolean i (vp_nar .boolean v) fun h => K (pc + 1) ls r h
  | .laload => sm_pI st fun i r => sm_pR r fun a r => sm_ldJ (sm_ar P X h (.ref a)) i fun v => K (pc + 1) ls (.long v :: r) h
  | .lastore => sm_pJ st fun v r => sm_pI r fun i r => sm_pR r fun a r => sm_stJ h a i v fun h => K (pc + 1) ls r h
  | .aastore => sm_pR st fun v r => sm_pI r fun i r => sm_pR r fun a r => sm_stR P h a i v fun h => K (pc + 1) ls r h
  | .arraylength => sm_pV st fun a r => sm_al (sm_ar P X h a) fun n => K (pc + 1) ls (.int (Int32.ofNat n) :: r) h
  | i => sm_s4 P C K i x y z pc ls st h
def sm_s2 (i : Instr) (x y z pc : Nat) (ls : smL) (st : List Value) (h : smH) : smR := match i with
  | .iadd => sm_pI st fun b r => sm_pI r fun a r => K (pc + 1) ls (.int (a + b) :: r) h
  | .isub => sm_pI st fun b r => sm_pI r fun a r => K (pc + 1) ls (.int (a - b) :: r) h
  | .imul => sm_pI st fun b r => sm_pI r fun a r => K (pc + 1) ls (.int (a * b) :: r) h
  | .iand => sm_pI st fun b r => sm_pI r fun a r => K (pc + 1) ls (.int (a &&& b) :: r) h
  | .ishr => sm_pI st fun b r => sm_pI r fun a r => K (pc + 1) ls (.int (a >>> (b &&& 31)) :: r) h
  | .ixor => sm_pI st fun b r => sm_pI r fun a r => K (pc + 1) ls (.int (a ^^^ b) :: r) h
  | .ior => sm_pI st fun b r => sm_pI r fun a r => K (pc + 1) ls (.int (a ||| b) :: r) h
  | .idiv => sm_pI st fun b r => sm_pI r fun a r => if b = 0 then none else K (pc + 1) ls (.int (a / b) :: r) h
  | .irem => sm_pI st fun b r => sm_pI r fun a r => if b = 0 then none else K (pc + 1) ls (.int (a - a / b * b) :: r) h
  | .dup => sm_pV st fun a r => bif sm_cat1 a then K (pc + 1) ls (a :: a :: r) h else none
  | .pop => sm_pV st fun a r => bif sm_cat1 a then K (pc + 1) ls r h else none
  | .dup2 => sm_pV st fun a r => sm_pV r fun b r => bif sm_cat1 a && sm_cat1 b then K (pc + 1) ls (a :: b :: a :: b :: r) h else none
  | i => sm_s3 P X C K i x y z pc ls st h
def sm_s1 (i : Instr) (x y z pc : Nat) (ls : smL) (st : List Value) (h : smH) : smR := match i with
  | .iload_n k => sm_gI (sm_lg k.val ls) fun v => K (pc + 1) ls (.int v :: st) h
  | .iload k => sm_gI (sm_lg k ls) fun v => K (pc + 2) ls (.int v :: st) h
  | .aload_n k => sm_gA (sm_lg k.val ls) fun v => K (pc + 1) ls (v :: st) h
  | .aload k => sm_gA (sm_lg k ls) fun v => K (pc + 2) ls (v :: st) h
  | .lload_n k => sm_gJ (sm_lg k.val ls) fun v => K (pc + 1) ls (.long v :: st) h
  | .lload k => sm_gJ (sm_lg k ls) fun v => K (pc + 2) ls (.long v :: st) h
  | .istore_n k => sm_pI st fun v r => K (pc + 1) (sm_l1 k.val (.int v) ls) r h
  | .istore k => sm_pI st fun v r => K (pc + 2) (sm_l1 k (.int v) ls) r h
  | .astore_n k => sm_gA st.head? fun v => K (pc + 1) (sm_l1 k.val v ls) st.tail h
  | .astore k => sm_gA st.head? fun v => K (pc + 2) (sm_l1 k v ls) st.tail h
  | .lstore_n k => sm_pJ st fun v r => K (pc + 1) (sm_l2 k.val (.long v) ls) r h
  | .lstore k => sm_pJ st fun v r => K (pc + 2) (sm_l2 k (.long v) ls) r h
  | .iconst _ => K (pc + 1) ls (.int (sm_k x y) :: st) h
  | .bipush _ => K (pc + 2) ls (.int (sm_k x y) :: st) h
  | .sipush _ => K (pc + 3) ls (.int (sm_k x y) :: st) h
  | .aconst_null => K (pc + 1) ls (.null :: st) h
  | i => sm_s2 P X C K i x y z pc ls st h
/-- one instruction of method m -/
def sm_step (m pc : Nat) (ls : smL) (st : List Value) (h : smH) : smR := match sm_code P m pc with
  | some (i, _, x, y, z) => sm_s1 P X C (fun pc ls st h => K pc (sm_tr P m pc ls) st h) i x y z pc ls st h
  | none => none
end SMSTEP
def sm_X (P : smP) (X : smX) : Nat → Nat → smK
  | 0, _ => fun _ _ _ _ => none
  | n + 1, m => sm_step P X (fun m' as h => sm_X P X n m' 0 (lv_args 0 as) [] h) (sm_X P X n m) m

/-! what one instruction uses: nothing, the rest once, or a call and the rest once -/
def sm_le (h h' : smH) : Prop := h.2.1 ≤ h'.2.1 ∧ h.2.2 ≤ h'.2.2
theorem sm_le.rf {h : smH} : sm_le h h := ⟨Nat.le_refl _, Nat.le_refl _⟩
theorem sm_le.tr {a b c : smH} (h1 : sm_le a b) (h2 : sm_le b c) : sm_le a c := ⟨Nat.le_trans h1.1 h2.1, Nat.le_trans h1.2 h2.2⟩
theorem sm_le.w {h : smH} {a : Nat} {e : smC} : sm_le h (sm_w h a e) := ⟨Nat.le_refl _, Nat.le_refl _⟩
theorem sm_le.n {h : smH} {e : smC} {k : Nat} : sm_le h (sm_n h e k) := ⟨Nat.le_succ _, Nat.le_add_right _ _⟩
theorem sm_le.mn {h : smH} {n k : Nat} : sm_le h (sm_mn h n k) := ⟨by show h.2.1 ≤ h.2.1 + 1 + n; omega, by show h.2.2 ≤ h.2.2 + _; omega⟩
abbrev smCT : Type := Nat → List Value → smH → smR
def sm_Us (h0 : smH) (F : smCT → smK → smR) : Prop := ∀ (C : smCT) (K : smK) (r : Option Value × smH), F C K = some r →
  (sm_le h0 r.2 ∧ ∀ C' K', F C' K' = some r) ∨
  (∃ pc ls st h, sm_le h0 h ∧ K pc ls st h = some r ∧ ∀ (C' : smCT) (K' : smK), K' pc ls st h = some r → F C' K' = some r) ∨
  (∃ m as h1 v h2 pc ls st, sm_le h0 h1 ∧ C m as h1 = some (v, h2) ∧ K pc ls st h2 = some r ∧ ∀ (C' : smCT) (K' : smK), C' m as h1 = some (v, h2) → K' pc ls st h2 = some r → F C' K' = some r)
theorem sm_Us.non {h0 : smH} : sm_Us h0 (fun _ _ => none) := fun _ _ _ h => by cases h
theorem sm_Us.som {h0 : smH} {r : Option Value × smH} (hl : sm_le h0 r.2) : sm_Us h0 (fun _ _ => some r) := fun _ _ _ h => by cases h; exact Or.inl ⟨hl, fun _ _ => rfl⟩
theorem sm_Us.kk {h0 : smH} {pc : Nat} {ls : smL} {st : List Value} {h : smH} (hl : sm_le h0 h) : sm_Us h0 (fun _ K => K pc ls st h) := fun _ _ _ e => Or.inr (Or.inl ⟨pc, ls, st, h, hl, e, fun _ _ z => z⟩)
theorem sm_Us.call {h0 : smH} {m pc : Nat} {as r : List Value} {ls : smL} {h : smH} (hl : sm_le h0 h) : sm_Us h0 (fun C K => sm_cR (C m as h) fun v h => K pc ls (v.toList ++ r) h) := fun C K q e => by
  cases hc : C m as h with
  | none => simp [hc, sm_cR] at e
  | some p =>
    obtain ⟨v, h2⟩ := p
    simp only [hc, sm_cR] at e
    exact Or.inr (Or.inr ⟨m, as, h, v, h2, pc, ls, v.toList ++ r, hl, hc, e, fun C' K' z1 z2 => by simp only [z1, sm_cR]; exact z2⟩)
theorem sm_Us.ite {h0 : smH} {c : Prop} [Decidable c] {F G : smCT → smK → smR} (hF : sm_Us h0 F) (hG : sm_Us h0 G) : sm_Us h0 (fun C K => if c then F C K else G C K) := by
  by_cases h : c
  · simp only [h, if_true]; exact hF
  · simp only [h, if_false]; exact hG
theorem sm_Us.bif {h0 : smH} {c : Bool} {F G : smCT → smK → smR} (hF : sm_Us h0 F) (hG : sm_Us h0 G) : sm_Us h0 (fun C K => bif c then F C K else G C K) := by
  cases c
  · exact hG
  · exact hF
theorem sm_Us.pI {h0 : smH} {st : List Value} {F : Int32 → List Value → smCT → smK → smR} (hF : ∀ x r, sm_Us h0 (F x r)) : sm_Us h0 (fun C K => sm_pI st fun x r => F x r C K) := by
  unfold sm_pI; split
  · exact hF _ _
  · exact sm_Us.non
theorem sm_Us.pJ {h0 : smH} {st : List Value} {F : Int64 → List Value → smCT → smK → smR} (hF : ∀ x r, sm_Us h0 (F x r)) : sm_Us h0 (fun C K => sm_pJ st fun x r => F x r C K) := by
  unfold sm_pJ; split
  · exact hF _ _
  · exact sm_Us.non
theorem sm_Us.pR {h0 : smH} {st : List Value} {F : Nat → List Value → smCT → smK → smR} (hF : ∀ x r, sm_Us h0 (F x r)) : sm_Us h0 (fun C K => sm_pR st fun x r => F x r C K) := by
  unfold sm_pR; split
  · exact hF _ _
  · exact sm_Us.non
theorem sm_Us.pT {h0 : smH} {st : List Value} {F : Nat → List Value → smCT → smK → smR} (hF : ∀ x r, sm_Us h0 (F x r)) : sm_Us h0 (fun C K => sm_pT st fun x r => F x r C K) := by
  unfold sm_pT; split
  · exact hF _ _
  · exact sm_Us.non
theorem sm_Us.pV {h0 : smH} {st : List Value} {F : Value → List Value → smCT → smK → smR} (hF : ∀ x r, sm_Us h0 (F x r)) : sm_Us h0 (fun C K => sm_pV st fun x r => F x r C K) := by
  unfold sm_pV; split
  · exact hF _ _
  · exact sm_Us.non
theorem sm_Us.gI {h0 : smH} {o : Option Value} {F : Int32 → smCT → smK → smR} (hF : ∀ x, sm_Us h0 (F x)) : sm_Us h0 (fun C K => sm_gI o fun x => F x C K) := by
  unfold sm_gI; split
  · exact hF _
  · exact sm_Us.non
theorem sm_Us.gJ {h0 : smH} {o : Option Value} {F : Int64 → smCT → smK → smR} (hF : ∀ x, sm_Us h0 (F x)) : sm_Us h0 (fun C K => sm_gJ o fun x => F x C K) := by
  unfold sm_gJ; split
  · exact hF _
  · exact sm_Us.non
theorem sm_Us.gR {h0 : smH} {o : Option Value} {F : Nat → smCT → smK → smR} (hF : ∀ x, sm_Us h0 (F x)) : sm_Us h0 (fun C K => sm_gR o fun x => F x C K) := by
  unfold sm_gR; split
  · exact hF _
  · exact sm_Us.non
theorem sm_Us.gA {h0 : smH} {o : Option Value} {F : Value → smCT → smK → smR} (hF : ∀ x, sm_Us h0 (F x)) : sm_Us h0 (fun C K => sm_gA o fun x => F x C K) := by
  unfold sm_gA; split
  · exact hF _
  · exact hF _
  · exact hF _
  · exact sm_Us.non
theorem sm_Us.fP {h0 h : smH} {a ci k : Nat} {v : Value} {F : smH → smCT → smK → smR} (hl : sm_le h0 h) (hF : ∀ h', sm_le h0 h' → sm_Us h0 (F h')) : sm_Us h0 (fun C K => sm_fP h a ci k v fun x => F x C K) := by
  unfold sm_fP; split
  · exact sm_Us.bif (hF _ (hl.tr sm_le.w)) sm_Us.non
  · exact sm_Us.non
theorem sm_Us.ld {h0 : smH} {o : Option (FieldType × vp_A)} {ty : FieldType} {i : Int32} {F : Int32 → smCT → smK → smR} (hF : ∀ x, sm_Us h0 (F x)) : sm_Us h0 (fun C K => sm_ld o ty i fun x => F x C K) := by
  unfold sm_ld; split
  · exact sm_Us.ite (sm_Us.ite sm_Us.non (hF _)) sm_Us.non
  · exact sm_Us.non
theorem sm_Us.ldR {h0 : smH} {o : Option (FieldType × vp_A)} {i : Int32} {F : Nat → smCT → smK → smR} (hF : ∀ x, sm_Us h0 (F x)) : sm_Us h0 (fun C K => sm_ldR o i fun x => F x C K) := by
  unfold sm_ldR; split
  · refine sm_Us.bif (sm_Us.ite sm_Us.non ?_) sm_Us.non
    split
    · exact hF _
    · exact sm_Us.non
  · exact sm_Us.non
theorem sm_Us.sst {h0 h : smH} {a : Nat} {ty : FieldType} {i x : Int32} {F : smH → smCT → smK → smR} (hl : sm_le h0 h) (hF : ∀ h', sm_le h0 h' → sm_Us h0 (F h')) : sm_Us h0 (fun C K => sm_st h a ty i x fun x => F x C K) := by
  unfold sm_st; split
  · exact sm_Us.ite (sm_Us.ite sm_Us.non (hF _ (hl.tr sm_le.w))) sm_Us.non
  · exact sm_Us.non
theorem sm_Us.stR {P : smP} {h0 h : smH} {a : Nat} {i : Int32} {x : Nat} {F : smH → smCT → smK → smR} (hl : sm_le h0 h) (hF : ∀ h', sm_le h0 h' → sm_Us h0 (F h')) : sm_Us h0 (fun C K => sm_stR P h a i x fun x => F x C K) := by
  unfold sm_stR; split
  · split
    · exact sm_Us.ite (sm_Us.ite sm_Us.non (hF _ (hl.tr sm_le.w))) sm_Us.non
    · exact sm_Us.non
  · exact sm_Us.non
theorem sm_Us.ldJ {h0 : smH} {o : Option (FieldType × vp_A)} {i : Int32} {F : Int64 → smCT → smK → smR} (hF : ∀ x, sm_Us h0 (F x)) : sm_Us h0 (fun C K => sm_ldJ o i fun x => F x C K) := by
  unfold sm_ldJ; split
  · exact sm_Us.ite (sm_Us.ite sm_Us.non (hF _)) sm_Us.non
  · exact sm_Us.non
theorem sm_Us.stJ {h0 h : smH} {a : Nat} {i : Int32} {x : Int64} {F : smH → smCT → smK → smR} (hl : sm_le h0 h) (hF : ∀ h', sm_le h0 h' → sm_Us h0 (F h')) : sm_Us h0 (fun C K => sm_stJ h a i x fun x => F x C K) := by
  unfold sm_stJ; split
  · exact sm_Us.ite (sm_Us.ite sm_Us.non (hF _ (hl.tr sm_le.w))) sm_Us.non
  · exact sm_Us.non
theorem sm_Us.al {h0 : smH} {o : Option (FieldType × vp_A)} {F : Nat → smCT → smK → smR} (hF : ∀ x, sm_Us h0 (F x)) : sm_Us h0 (fun C K => sm_al o fun x => F x C K) := by
  unfold sm_al; split
  · exact hF _
  · exact sm_Us.non
theorem sm_Us.sw {h0 : smH} {o : Option Int} {F : Int → smCT → smK → smR} (hF : ∀ x, sm_Us h0 (F x)) : sm_Us h0 (fun C K => sm_sw o fun x => F x C K) := by
  unfold sm_sw; split
  · exact hF _
  · exact sm_Us.non
theorem sm_Us.vc {h0 h : smH} {a c : Nat} {F : smCT → smK → smR} (hF : sm_Us h0 F) : sm_Us h0 (fun C K => sm_vc h a c (F C K)) := by
  unfold sm_vc; split
  · exact sm_Us.bif hF sm_Us.non
  · exact sm_Us.non
theorem sm_Us.comp {h0 : smH} {F : smCT → smK → smR} (g : Nat → smL → smL) (hF : sm_Us h0 F) : sm_Us h0 (fun C K => F C (fun pc ls st h => K pc (g pc ls) st h)) := by
  intro C K r e
  rcases hF C _ r e with ⟨l1, u⟩ | ⟨pc, ls, st, h, l1, k, u⟩ | ⟨m, as, h1, v, h2, pc, ls, st, l1, c, k, u⟩
  · exact Or.inl ⟨l1, fun _ _ => u _ _⟩
  · exact Or.inr (Or.inl ⟨pc, g pc ls, st, h, l1, k, fun _ _ z => u _ _ z⟩)
  · exact Or.inr (Or.inr ⟨m, as, h1, v, h2, pc, g pc ls, st, l1, c, k, fun _ _ z1 z2 => u _ _ z1 z2⟩)
theorem sm_Us.pN {h0 : smH} {n : Nat} {st : List Value} {F : List Value → List Value → smCT → smK → smR} (hF : ∀ x r, sm_Us h0 (F x r)) : sm_Us h0 (fun C K => sm_pN n st fun x r => F x r C K) := by
  unfold sm_pN
  exact sm_Us.bif (hF _ _) sm_Us.non
set_option maxHeartbeats 4000000 in
theorem sm_Us.s6 (P : smP) (X : smX) (i : Instr) (x y z pc : Nat) (ls : smL) (st : List Value) (h : smH) : sm_Us h (fun C K => sm_s6 P C K i x y z pc ls st h) := by
  unfold sm_s6
  repeat' first
    | exact sm_Us.non
    | exact sm_Us.som (by assumption)
    | exact sm_Us.som sm_le.rf
    | exact sm_Us.call (by assumption)
    | exact sm_Us.call sm_le.rf
    | exact sm_Us.kk (by assumption)
    | exact sm_Us.kk sm_le.rf
    | exact sm_Us.kk sm_le.n
    | exact sm_Us.kk sm_le.mn
    | refine sm_Us.pI fun _ _ => ?_
    | refine sm_Us.pJ fun _ _ => ?_
    | refine sm_Us.pR fun _ _ => ?_
    | refine sm_Us.pT fun _ _ => ?_
    | refine sm_Us.pV fun _ _ => ?_
    | refine sm_Us.pN fun _ _ => ?_
    | refine sm_Us.gI fun _ => ?_
    | refine sm_Us.gJ fun _ => ?_
    | refine sm_Us.gR fun _ => ?_
    | refine sm_Us.gA fun _ => ?_
    | refine sm_Us.ld fun _ => ?_
    | refine sm_Us.al fun _ => ?_
    | refine sm_Us.sw fun _ => ?_
    | refine sm_Us.vc ?_
    | refine sm_Us.ldR fun _ => ?_
    | refine sm_Us.ldJ fun _ => ?_
    | refine sm_Us.stJ sm_le.rf fun _ _ => ?_
    | refine sm_Us.fP sm_le.rf fun _ _ => ?_
    | refine sm_Us.sst sm_le.rf fun _ _ => ?_
    | refine sm_Us.stR sm_le.rf fun _ _ => ?_
    | refine sm_Us.ite ?_ ?_
    | refine sm_Us.bif ?_ ?_
    | split
set_option maxHeartbeats 4000000 in
theorem sm_Us.s5 (P : smP) (X : smX) (i : Instr) (x y z pc : Nat) (ls : smL) (st : List Value) (h : smH) : sm_Us h (fun C K => sm_s5 P C K i x y z pc ls st h) := by
  unfold sm_s5
  repeat' first
    | exact sm_Us.non
    | exact sm_Us.som (by assumption)
    | exact sm_Us.som sm_le.rf
    | exact sm_Us.call (by assumption)
    | exact sm_Us.call sm_le.rf
    | exact sm_Us.kk (by assumption)
    | exact sm_Us.kk sm_le.rf
    | exact sm_Us.kk sm_le.n
    | exact sm_Us.kk sm_le.mn
    | refine sm_Us.pI fun _ _ => ?_
    | refine sm_Us.pJ fun _ _ => ?_
    | refine sm_Us.pR fun _ _ => ?_
    | refine sm_Us.pT fun _ _ => ?_
    | refine sm_Us.pV fun _ _ => ?_
    | refine sm_Us.pN fun _ _ => ?_
    | refine sm_Us.gI fun _ => ?_
    | refine sm_Us.gJ fun _ => ?_
    | refine sm_Us.gR fun _ => ?_
    | refine sm_Us.gA fun _ => ?_
    | refine sm_Us.ld fun _ => ?_
    | refine sm_Us.al fun _ => ?_
    | refine sm_Us.sw fun _ => ?_
    | refine sm_Us.vc ?_
    | refine sm_Us.ldR fun _ => ?_
    | refine sm_Us.ldJ fun _ => ?_
    | refine sm_Us.stJ sm_le.rf fun _ _ => ?_
    | refine sm_Us.fP sm_le.rf fun _ _ => ?_
    | refine sm_Us.sst sm_le.rf fun _ _ => ?_
    | refine sm_Us.stR sm_le.rf fun _ _ => ?_
    | refine sm_Us.ite ?_ ?_
    | refine sm_Us.bif ?_ ?_
    | exact sm_Us.s6 P X _ x y z pc ls st h
    | split
set_option maxHeartbeats 4000000 in
theorem sm_Us.s4 (P : smP) (X : smX) (i : Instr) (x y z pc : Nat) (ls : smL) (st : List Value) (h : smH) : sm_Us h (fun C K => sm_s4 P C K i x y z pc ls st h) := by
  unfold sm_s4
  repeat' first
    | exact sm_Us.non
    | exact sm_Us.som (by assumption)
    | exact sm_Us.som sm_le.rf
    | exact sm_Us.call (by assumption)
    | exact sm_Us.call sm_le.rf
    | exact sm_Us.kk (by assumption)
    | exact sm_Us.kk sm_le.rf
    | exact sm_Us.kk sm_le.n
    | exact sm_Us.kk sm_le.mn
    | refine sm_Us.pI fun _ _ => ?_
    | refine sm_Us.pJ fun _ _ => ?_
    | refine sm_Us.pR fun _ _ => ?_
    | refine sm_Us.pT fun _ _ => ?_
    | refine sm_Us.pV fun _ _ => ?_
    | refine sm_Us.pN fun _ _ => ?_
    | refine sm_Us.gI fun _ => ?_
    | refine sm_Us.gJ fun _ => ?_
    | refine sm_Us.gR fun _ => ?_
    | refine sm_Us.gA fun _ => ?_
    | refine sm_Us.ld fun _ => ?_
    | refine sm_Us.al fun _ => ?_
    | refine sm_Us.sw fun _ => ?_
    | refine sm_Us.vc ?_
    | refine sm_Us.ldR fun _ => ?_
    | refine sm_Us.ldJ fun _ => ?_
    | refine sm_Us.stJ sm_le.rf fun _ _ => ?_
    | refine sm_Us.fP sm_le.rf fun _ _ => ?_
    | refine sm_Us.sst sm_le.rf fun _ _ => ?_
    | refine sm_Us.stR sm_le.rf fun _ _ => ?_
    | refine sm_Us.ite ?_ ?_
    | refine sm_Us.bif ?_ ?_
    | exact sm_Us.s5 P X _ x y z pc ls st h
    | split
set_option maxHeartbeats 4000000 in
theorem sm_Us.s3 (P : smP) (X : smX) (i : Instr) (x y z pc : Nat) (ls : smL) (st : List Value) (h : smH) : sm_Us h (fun C K => sm_s3 P X C K i x y z pc ls st h) := by
  unfold sm_s3
  repeat' first
    | exact sm_Us.non
    | exact sm_Us.som (by assumption)
    | exact sm_Us.som sm_le.rf
    | exact sm_Us.call (by assumption)
    | exact sm_Us.call sm_le.rf
    | exact sm_Us.kk (by assumption)
    | exact sm_Us.kk sm_le.rf
    | exact sm_Us.kk sm_le.n
    | exact sm_Us.kk sm_le.mn
    | refine sm_Us.pI fun _ _ => ?_
    | refine sm_Us.pJ fun _ _ => ?_
    | refine sm_Us.pR fun _ _ => ?_
    | refine sm_Us.pT fun _ _ => ?_
    | refine sm_Us.pV fun _ _ => ?_
    | refine sm_Us.pN fun _ _ => ?_
    | refine sm_Us.gI fun _ => ?_
    | refine sm_Us.gJ fun _ => ?_
    | refine sm_Us.gR fun _ => ?_
    | refine sm_Us.gA fun _ => ?_
    | refine sm_Us.ld fun _ => ?_
    | refine sm_Us.al fun _ => ?_
    | refine sm_Us.sw fun _ => ?_
    | refine sm_Us.vc ?_
    | refine sm_Us.ldR fun _ => ?_
    | refine sm_Us.ldJ fun _ => ?_
    | refine sm_Us.stJ sm_le.rf fun _ _ => ?_
    | refine sm_Us.fP sm_le.rf fun _ _ => ?_
    | refine sm_Us.sst sm_le.rf fun _ _ => ?_
    | refine sm_Us.stR sm_le.rf fun _ _ => ?_
    | refine sm_Us.ite ?_ ?_
    | refine sm_Us.bif ?_ ?_
    | exact sm_Us.s4 P X _ x y z pc ls st h
    | split
set_option maxHeartbeats 4000000 in
theorem sm_Us.s2 (P : smP) (X : smX) (i : Instr) (x y z pc : Nat) (ls : smL) (st : List Value) (h : smH) : sm_Us h (fun C K => sm_s2 P X C K i x y z pc ls st h) := by
  unfold sm_s2
  repeat' first
    | exact sm_Us.non
    | exact sm_Us.som (by assumption)
    | exact sm_Us.som sm_le.rf
    | exact sm_Us.call (by assumption)
    | exact sm_Us.call sm_le.rf
    | exact sm_Us.kk (by assumption)
    | exact sm_Us.kk sm_le.rf
    | exact sm_Us.kk sm_le.n
    | exact sm_Us.kk sm_le.mn
    | refine sm_Us.pI fun _ _ => ?_
    | refine sm_Us.pJ fun _ _ => ?_
    | refine sm_Us.pR fun _ _ => ?_
    | refine sm_Us.pT fun _ _ => ?_
    | refine sm_Us.pV fun _ _ => ?_
    | refine sm_Us.pN fun _ _ => ?_
    | refine sm_Us.gI fun _ => ?_
    | refine sm_Us.gJ fun _ => ?_
    | refine sm_Us.gR fun _ => ?_
    | refine sm_Us.gA fun _ => ?_
    | refine sm_Us.ld fun _ => ?_
    | refine sm_Us.al fun _ => ?_
    | refine sm_Us.sw fun _ => ?_
    | refine sm_Us.vc ?_
    | refine sm_Us.ldR fun _ => ?_
    | refine sm_Us.ldJ fun _ => ?_
    | refine sm_Us.stJ sm_le.rf fun _ _ => ?_
    | refine sm_Us.fP sm_le.rf fun _ _ => ?_
    | refine sm_Us.sst sm_le.rf fun _ _ => ?_
    | refine sm_Us.stR sm_le.rf fun _ _ => ?_
    | refine sm_Us.ite ?_ ?_
    | refine sm_Us.bif ?_ ?_
    | exact sm_Us.s3 P X _ x y z pc ls st h
    | split
set_option maxHeartbeats 4000000 in
theorem sm_Us.s1 (P : smP) (X : smX) (i : Instr) (x y z pc : Nat) (ls : smL) (st : List Value) (h : smH) : sm_Us h (fun C K => sm_s1 P X C K i x y z pc ls st h) := by
  unfold sm_s1
  repeat' first
    | exact sm_Us.non
    | exact sm_Us.som (by assumption)
    | exact sm_Us.som sm_le.rf
    | exact sm_Us.call (by assumption)
    | exact sm_Us.call sm_le.rf
    | exact sm_Us.kk (by assumption)
    | exact sm_Us.kk sm_le.rf
    | exact sm_Us.kk sm_le.n
    | exact sm_Us.kk sm_le.mn
    | refine sm_Us.pI fun _ _ => ?_
    | refine sm_Us.pJ fun _ _ => ?_
    | refine sm_Us.pR fun _ _ => ?_
    | refine sm_Us.pT fun _ _ => ?_
    | refine sm_Us.pV fun _ _ => ?_
    | refine sm_Us.pN fun _ _ => ?_
    | refine sm_Us.gI fun _ => ?_
    | refine sm_Us.gJ fun _ => ?_
    | refine sm_Us.gR fun _ => ?_
    | refine sm_Us.gA fun _ => ?_
    | refine sm_Us.ld fun _ => ?_
    | refine sm_Us.al fun _ => ?_
    | refine sm_Us.sw fun _ => ?_
    | refine sm_Us.vc ?_
    | refine sm_Us.ldR fun _ => ?_
    | refine sm_Us.ldJ fun _ => ?_
    | refine sm_Us.stJ sm_le.rf fun _ _ => ?_
    | refine sm_Us.fP sm_le.rf fun _ _ => ?_
    | refine sm_Us.sst sm_le.rf fun _ _ => ?_
    | refine sm_Us.stR sm_le.rf fun _ _ => ?_
    | refine sm_Us.ite ?_ ?_
    | refine sm_Us.bif ?_ ?_
    | exact sm_Us.s2 P X _ x y z pc ls st h
    | split

theorem sm_Us.step (P : smP) (X : smX) (m pc : Nat) (ls : smL) (st : List Value) (h : smH) : sm_Us h (fun C K => sm_step P X C K m pc ls st h) := by
  unfold sm_step
  split
  · exact sm_Us.comp (sm_tr P m) (sm_Us.s1 P X _ _ _ _ _ _ _ _)
  · exact sm_Us.non
end
section
/-! runs: more fuel changes no answer; the answer of all fuels together -/
theorem sm_X_up (P : smP) (X : smX) : ∀ (n m pc : Nat) (ls : smL) (st : List Value) (h : smH) (r : Option Value × smH), sm_X P X n m pc ls st h = some r → sm_X P X (n + 1) m pc ls st h = some r
  | 0, _, _, _, _, _, _, e => by cases e
  | n + 1, m, pc, ls, st, h, r, e => by
    have ih := sm_X_up P X n
    show sm_step P X (fun m' as h => sm_X P X (n + 1) m' 0 (lv_args 0 as) [] h) (sm_X P X (n + 1) m) m pc ls st h = some r
    have e' : sm_step P X (fun m' as h => sm_X P X n m' 0 (lv_args 0 as) [] h) (sm_X P X n m) m pc ls st h = some r := e
    rcases sm_Us.step P X m pc ls st h _ _ r e' with ⟨-, u⟩ | ⟨pc', ls', st', h', -, k, u⟩ | ⟨m', as, h1, v, h2, pc', ls', st', -, c, k, u⟩
    · exact u _ _
    · exact u _ _ (ih m pc' ls' st' h' r k)
    · exact u _ _ (ih m' 0 (lv_args 0 as) [] h1 (v, h2) c) (ih m pc' ls' st' h2 r k)
theorem sm_X_le (P : smP) (X : smX) {n k m pc : Nat} {ls : smL} {st : List Value} {h : smH} {r : Option Value × smH} (hk : n ≤ k) (e : sm_X P X n m pc ls st h = some r) : sm_X P X k m pc ls st h = some r := by
  induction hk with
  | refl => exact e
  | step _ ih => exact sm_X_up P X _ _ _ _ _ _ _ ih
theorem sm_X_grow (P : smP) (X : smX) : ∀ (n m pc : Nat) (ls : smL) (st : List Value) (h : smH) (r : Option Value × smH), sm_X P X n m pc ls st h = some r → sm_le h r.2
  | 0, _, _, _, _, _, _, e => by cases e
  | n + 1, m, pc, ls, st, h, r, e => by
    have ih := sm_X_grow P X n
    have e' : sm_step P X (fun m' as h => sm_X P X n m' 0 (lv_args 0 as) [] h) (sm_X P X n m) m pc ls st h = some r := e
    rcases sm_Us.step P X m pc ls st h _ _ r e' with ⟨l1, -⟩ | ⟨pc', ls', st', h', l1, k, -⟩ | ⟨m', as, h1, v, h2, pc', ls', st', l1, c, k, -⟩
    · exact l1
    · exact l1.tr (ih m pc' ls' st' h' r k)
    · exact l1.tr ((ih m' 0 (lv_args 0 as) [] h1 (v, h2) c).tr (ih m pc' ls' st' h2 r k))
noncomputable def sm_E (P : smP) (X : smX) (m : Nat) : smK := fun pc ls st h =>
  @dite smR (∃ r n, sm_X P X n m pc ls st h = some r) (Classical.propDecidable _) (fun hx => some (Classical.choose hx)) (fun _ => none)
theorem sm_E_iff (P : smP) (X : smX) (m pc : Nat) (ls : smL) (st : List Value) (h : smH) (r : Option Value × smH) : sm_E P X m pc ls st h = some r ↔ ∃ n, sm_X P X n m pc ls st h = some r := by
  unfold sm_E
  by_cases hx : ∃ r n, sm_X P X n m pc ls st h = some r
  · rw [dif_pos hx]
    obtain ⟨n1, h1⟩ := Classical.choose_spec hx
    constructor
    · intro e
      cases e
      exact ⟨n1, h1⟩
    · rintro ⟨n2, h2⟩
      have a1 := sm_X_le P X (Nat.le_max_left n1 n2) h1
      have a2 := sm_X_le P X (Nat.le_max_right n1 n2) h2
      rw [← a1, a2]
  · rw [dif_neg hx]
    exact ⟨fun e => (by cases e), fun ⟨n, e⟩ => absurd ⟨r, n, e⟩ hx⟩
noncomputable def sm_C (P : smP) (X : smX) : smCT := fun m' as h => sm_E P X m' 0 (lv_args 0 as) [] h
theorem sm_E_eq (P : smP) (X : smX) (m : Nat) : sm_E P X m = sm_step P X (sm_C P X) (sm_E P X m) m := by
  funext pc ls st h
  apply Option.ext
  intro r
  constructor
  · intro e
    obtain ⟨n, e⟩ := (sm_E_iff P X m pc ls st h r).mp e
    cases n with
    | zero => cases e
    | succ n =>
      have e' : sm_step P X (fun m' as h => sm_X P X n m' 0 (lv_args 0 as) [] h) (sm_X P X n m) m pc ls st h = some r := e
      rcases sm_Us.step P X m pc ls st h _ _ r e' with ⟨-, u⟩ | ⟨pc', ls', st', h', -, k, u⟩ | ⟨m', as, h1, v, h2, pc', ls', st', -, c, k, u⟩
      · exact u _ _
      · exact u _ _ ((sm_E_iff P X m pc' ls' st' h' r).mpr ⟨n, k⟩)
      · exact u _ _ ((sm_E_iff P X m' 0 (lv_args 0 as) [] h1 (v, h2)).mpr ⟨n, c⟩) ((sm_E_iff P X m pc' ls' st' h2 r).mpr ⟨n, k⟩)
  · intro e
    rcases sm_Us.step P X m pc ls st h _ _ r e with ⟨-, u⟩ | ⟨pc', ls', st', h', -, k, u⟩ | ⟨m', as, h1, v, h2, pc', ls', st', -, c, k, u⟩
    · exact (sm_E_iff P X m pc ls st h r).mpr ⟨1, u _ _⟩
    · obtain ⟨n, k⟩ := (sm_E_iff P X m pc' ls' st' h' r).mp k
      exact (sm_E_iff P X m pc ls st h r).mpr ⟨n + 1, u _ _ k⟩
    · obtain ⟨n1, c⟩ := (sm_E_iff P X m' 0 (lv_args 0 as) [] h1 (v, h2)).mp c
      obtain ⟨n2, k⟩ := (sm_E_iff P X m pc' ls' st' h2 r).mp k
      exact (sm_E_iff P X m pc ls st h r).mpr ⟨max n1 n2 + 1, u _ _ (sm_X_le P X (Nat.le_max_left n1 n2) c) (sm_X_le P X (Nat.le_max_right n1 n2) k)⟩
/-- j instructions at most, up to the places of the list -/
def sm_it (P : smP) (X : smX) (C : smCT) (m : Nat) (cut : List Nat) (K : smK) : Nat → smK
  | 0 => K
  | j + 1 => fun pc ls st h => bif cut.contains pc then K pc ls st h else sm_step P X C (sm_it P X C m cut K j) m pc ls st h
theorem sm_it_E (P : smP) (X : smX) (m : Nat) (cut : List Nat) : ∀ j, sm_it P X (sm_C P X) m cut (sm_E P X m) j = sm_E P X m
  | 0 => rfl
  | j + 1 => by
    funext pc ls st h
    show (bif cut.contains pc then sm_E P X m pc ls st h else sm_step P X (sm_C P X) (sm_it P X (sm_C P X) m cut (sm_E P X m) j) m pc ls st h) = _
    rw [sm_it_E P X m cut j, ← sm_E_eq]
    cases cut.contains pc <;> rfl
theorem sm_blk (P : smP) (X : smX) (m : Nat) (cut : List Nat) (j : Nat) (pc : Nat) (ls : smL) (st : List Value) (h : smH) : sm_E P X m pc ls st h = sm_step P X (sm_C P X) (sm_it P X (sm_C P X) m cut (sm_E P X m) j) m pc ls st h := by
  rw [sm_it_E, ← sm_E_eq]
end
section
/-! THE SMALL MACHINE AND THE MACHINE: what the tables must say of each instruction; what the heap of one is in the other -/
/-- the program's tables: words; words of nest mates and arrays; classes; per method: name, bytes, locals, answer's type, class, room of frames and locals; statics; string constants; how many methods -/
abbrev smZ : Type := List Cond × List Cond × List vw_C × (Nat → MethodName) × (Nat → ByteArray) × (Nat → Nat) × (Nat → Option FieldType) × (Nat → String) × (Nat → Nat) × (Nat → Nat) × List (String × String × String × Value) × List (String × Nat × String × Nat) × Nat
def zTB (Z : smZ) : List Cond := Z.1
def zNW (Z : smZ) : List Cond := Z.2.1
def zcl (Z : smZ) : List vw_C := Z.2.2.1
def znm (Z : smZ) : Nat → MethodName := Z.2.2.2.1
def zby (Z : smZ) : Nat → ByteArray := Z.2.2.2.2.1
def zmL (Z : smZ) : Nat → Nat := Z.2.2.2.2.2.1
def zrt (Z : smZ) : Nat → Option FieldType := Z.2.2.2.2.2.2.1
def zow (Z : smZ) : Nat → String := Z.2.2.2.2.2.2.2.1
def zfr (Z : smZ) : Nat → Nat := Z.2.2.2.2.2.2.2.2.1
def zlo (Z : smZ) : Nat → Nat := Z.2.2.2.2.2.2.2.2.2.1
def zST (Z : smZ) : List (String × String × String × Value) := Z.2.2.2.2.2.2.2.2.2.2.1
def zSC (Z : smZ) : List (String × Nat × String × Nat) := Z.2.2.2.2.2.2.2.2.2.2.2.1
def znM (Z : smZ) : Nat := Z.2.2.2.2.2.2.2.2.2.2.2.2
/-- numbers of classes and slots; which cells are the program's; what the tags stand for -/
abbrev smY : Type := va_G × (Nat → Prop) × (Nat → Value)
def sm_v (Y : smY) (v : Value) : Value := match v with
  | .retAddr t => Y.2.2 t
  | v => v
def sm_ml (Y : smY) (ls : smL) : smL := ls.map (fun q => (q.1, sm_v Y q.2))
def sm_cell (Z : smZ) (Y : smY) (U : State) (a : Nat) (e : smC) (H : Heap) : Prop := match e with
  | .inl x => ∃ cA : ClassId, (ArrOfT U cA x.1 ∧ va_RA U cA x.1) ∧ H[a]? = some (vp_cell cA x.2)
  | .inr o => va_at Y.1 (zcl Z) (a, .inr o) H
def sm_Rel (Z : smZ) (Y : smY) (U : State) (h : smH) (H : Heap) : Prop := h.2.1 = H.size ∧ ∀ (a : Nat) (e : smC), h.1 a = some e → Y.2.1 a ∧ sm_cell Z Y U a e H
/-- what the tables of a state say -/
def sm_VC (Z : smZ) (Y : smY) (U : State) : Prop :=
  (∀ (k : Nat) (q : vw_C), (zcl Z)[k]? = some q → u_Kn U q.1 q.2.1 q.2.2 (Y.1.1 k) (Y.1.2 k)) ∧ (∀ w ∈ zNW Z, va_Nw w U) ∧ (∀ q ∈ zSC Z, ∃ a, Y.2.2 q.2.2.2 = .ref a ∧ vk_R q.1 q.2.1 q.2.2.1 a U)
/-- what its old cells hold -/
def sm_HC (Z : smZ) (P : smP) (X : smX) (Y : smY) (U : State) (H : Heap) : Prop :=
  (∀ q ∈ zST Z, va_Z q.1 q.2.1 q.2.2.1 (sm_v Y q.2.2.2) Y.2.1 U H) ∧
  (∀ t, t < P.2.2.2.2.1.length → ∃ a b : Nat, Y.2.2 t = .ref a ∧ Y.2.2 (t + 16) = .ref b ∧ va_O "java/lang/String" a Y.2.1 U H ∧ va_OF "java/lang/String" "coder" "B" (.int 0) a Y.2.1 U H ∧ va_OF "java/lang/String" "value" "[B" (.ref b) a Y.2.1 U H) ∧
  (∀ t ty n f, sm_oA P X t = some (ty, n, .inl f) → ∃ b : Nat, Y.2.2 t = .ref b ∧ va_T ty b n (fun j => .int (f j)) Y.2.1 U H) ∧
  (∀ t, Y.2.2 t = .null ∨ ∃ a, Y.2.2 t = .ref a)
def sm_okA (mL pc len : Nat) (i : Instr) (x y : Nat) : Bool := match i with
  | .iload_n _ => len == 1 | .aload_n _ => len == 1 | .lload_n _ => len == 1 | .iconst n => len == 1 && decide (Int32.ofInt n = sm_k x y) | .aconst_null => len == 1
  | .iadd => len == 1 | .isub => len == 1 | .imul => len == 1 | .iand => len == 1 | .ishr => len == 1 | .ixor => len == 1 | .idiv => len == 1 | .irem => len == 1
  | .dup => len == 1 | .pop => len == 1 | .dup2 => len == 1
  | .iaload => len == 1 | .caload => len == 1 | .baload => len == 1 | .aaload => len == 1 | .iastore => len == 1 | .castore => len == 1 | .bastore => len == 1 | .aastore => len == 1 | .arraylength => len == 1
  | .i2c => len == 1 | .l2i => len == 1 | .lconst _ => len == 1 | .ldiv => len == 1 | .lrem => len == 1 | .lcmp => len == 1 | .ladd => len == 1 | .lmul => len == 1 | .i2l => len == 1 | .laload => len == 1 | .lastore => len == 1 | .ior => len == 1 | .lload _ => len == 2 | .lstore k => len == 2 && decide (k + 1 < mL)
  | .ireturn => len == 1 | .lreturn => len == 1 | .areturn => len == 1 | .return_ => len == 1
  | .istore_n k => len == 1 && decide (k.val < mL) | .astore_n k => len == 1 && decide (k.val < mL) | .lstore_n k => len == 1 && decide (k.val + 1 < mL)
  | .iload _ => len == 2 | .aload _ => len == 2 | .bipush n => len == 2 && decide ((Int8.ofInt n).toInt32 = sm_k x y) | .newarray _ => len == 2 | .ldc _ => len == 2
  | .istore k => len == 2 && decide (k < mL) | .astore k => len == 2 && decide (k < mL)
  | .sipush n => len == 3 && decide ((Int16.ofInt n).toInt32 = sm_k x y) | .getfield _ => len == 3 | .putfield _ => len == 3 | .invokestatic _ => len == 3 | .invokevirtual _ => len == 3 | .invokespecial _ => len == 3 | .getstatic _ => len == 3 | .new _ => len == 3 | .anewarray _ => len == 3 | .ldc2_w _ => len == 3
  | .iinc k n => len == 3 && decide (k < mL) && decide (Int32.ofInt n = sm_k x y)
  | .goto o => len == 3 && decide (0 ≤ (pc : Int) + o) | .ifCond _ o => len == 3 && decide (0 ≤ (pc : Int) + o) | .if_icmp _ o => len == 3 && decide (0 ≤ (pc : Int) + o) | .ifnull o => len == 3 && decide (0 ≤ (pc : Int) + o) | .ifnonnull o => len == 3 && decide (0 ≤ (pc : Int) + o)
  | .multianewarray _ d => len == 4 && d == 2
  | .tableswitch d _ _ offs => decide (0 ≤ (pc : Int) + d) && offs.toList.all (fun o => decide (0 ≤ (pc : Int) + o))
  | _ => false
def sm_okG (Z : smZ) (own : String) (idx x y : Nat) : Prop := ∃ q : vw_C, (zcl Z)[x]? = some q ∧ y < q.2.2 ∧ (Cond.fieldLink own idx (q.2.1 y).1 (q.2.1 y).2.1 (q.2.1 y).2.2.1 ∈ zTB Z ∨ ∃ host, Cond.fieldLinkNest own idx (q.2.1 y).1 (q.2.1 y).2.1 (q.2.1 y).2.2.1 host ∈ zNW Z)
def sm_okF (Z : smZ) (own : String) (idx x y z : Nat) : Prop := match z with
  | 0 => sm_okG Z own idx x y
  | 1 => sm_okG Z own idx x y
  | 2 => Cond.fieldLink own idx "java/lang/String" "value" "[B" ∈ zTB Z
  | _ => Cond.fieldLink own idx "java/lang/String" "coder" "B" ∈ zTB Z
def sm_pTy (P : smP) (x y z : Nat) (ty : FieldType) : Prop := match z with
  | 0 => ty = .int
  | 1 => (∃ n, ty = .object n) ∨ ∃ t, ty = .array t
  | _ => ty = P.2.1 x y
theorem sm_okF3 {Z : smZ} {own : String} {idx x y z : Nat} (h0 : ¬ z = 0) (h1 : ¬ z = 1) (h2 : ¬ z = 2) (h : sm_okF Z own idx x y z) : Cond.fieldLink own idx "java/lang/String" "coder" "B" ∈ zTB Z := by
  match z, h0, h1, h2, h with
  | 0, h0, _, _, _ => exact absurd rfl h0
  | 1, _, h1, _, _ => exact absurd rfl h1
  | 2, _, _, h2, _ => exact absurd rfl h2
  | _ + 3, _, _, _, h => exact h
theorem sm_pTy2 {P : smP} {x y z : Nat} {ty : FieldType} (h0 : ¬ z = 0) (h1 : ¬ z = 1) (h : sm_pTy P x y z ty) : ty = P.2.1 x y := by
  match z, h0, h1, h with
  | 0, h0, _, _ => exact absurd rfl h0
  | 1, _, h1, _ => exact absurd rfl h1
  | _ + 2, _, _, h => exact h
def sm_okP (Z : smZ) (P : smP) (own nm : String) (idx x y z : Nat) : Prop := ∃ q : vw_C, (zcl Z)[x]? = some q ∧ y < q.2.2 ∧ (∃ ty, parseFieldDescriptor (q.2.1 y).2.2.1 = some ty ∧ sm_pTy P x y z ty) ∧
  (((q.2.1 y).2.2.2 = false ∧ (Cond.fieldLink own idx (q.2.1 y).1 (q.2.1 y).2.1 (q.2.1 y).2.2.1 ∈ zTB Z ∨ ∃ host, Cond.fieldLinkNest own idx (q.2.1 y).1 (q.2.1 y).2.1 (q.2.1 y).2.2.1 host ∈ zNW Z)) ∨
   ((q.2.1 y).2.2.2 = true ∧ nm = "<init>" ∧ (q.2.1 y).1 = own ∧ Cond.fieldLink own idx (q.2.1 y).1 (q.2.1 y).2.1 (q.2.1 y).2.2.1 ∈ zTB Z))
/-- a call of method x with y arguments -/
def sm_okM (Z : smZ) (m idx x y : Nat) : Prop := x < znM Z ∧ ((znm Z x).cls ≠ "java/lang/invoke/MethodHandle" ∧ (znm Z x).cls ≠ "java/lang/invoke/VarHandle" ∧ (parseMethodDescriptor (znm Z x).desc).map (fun d => d.parameters.length) = some y) ∧ Cond.code (znm Z x) (zby Z x) (zmL Z x) (zrt Z x) ∈ zTB Z ∧ Cond.initialized (znm Z x).cls ∈ zTB Z ∧ zfr Z x + 1 ≤ zfr Z m ∧ 8 + (zmL Z x + 11) + zlo Z x ≤ zlo Z m ∧ (Cond.methodLink (zow Z m) idx (znm Z x) ∈ zTB Z ∨ ∃ host, Cond.methodLinkNest (zow Z m) idx (znm Z x) host ∈ zNW Z)
def sm_okB (Z : smZ) (m idx : Nat) (y : MethodName) (b : ByteArray) : Prop := Cond.methodLink (zow Z m) idx y ∈ zTB Z ∧ Cond.static y ∈ zTB Z ∧ Cond.initialized "java/lang/Math" ∈ zTB Z ∧ Cond.code y b 2 (some .int) ∈ zTB Z ∧ 1 ≤ zfr Z m ∧ 21 ≤ zlo Z m
def sm_okS (Z : smZ) (m idx x y z : Nat) : Prop := match z with
  | 0 => sm_okM Z m idx x y ∧ y ≤ zmL Z x ∧ Cond.static (znm Z x) ∈ zTB Z
  | 1 => sm_okB Z m idx Lib.Math.max.name Lib.Math.max.code
  | _ => sm_okB Z m idx Lib.Math.min.name Lib.Math.min.code
theorem sm_okS2 {Z : smZ} {m idx x y z : Nat} (h0 : ¬ z = 0) (h1 : ¬ z = 1) (h : sm_okS Z m idx x y z) : sm_okB Z m idx Lib.Math.min.name Lib.Math.min.code := by
  match z, h0, h1, h with
  | 0, h0, _, _ => exact absurd rfl h0
  | 1, _, h1, _ => exact absurd rfl h1
  | _ + 2, _, _, h => exact h
def sm_okL (Z : smZ) (P : smP) (m : Nat) (i : Instr) (x y z : Nat) : Prop := match i with
  | .getfield idx => sm_okF Z (zow Z m) idx x y z
  | .putfield idx => sm_okP Z P (zow Z m) (znm Z m).name idx x y z
  | .invokestatic idx => sm_okS Z m idx x y z
  | .invokevirtual idx => sm_okM Z m idx x y ∧ y + 1 ≤ zmL Z x ∧ Cond.instanceMethod (znm Z x) ∈ zTB Z ∧ Cond.selects (znm Z x).cls (znm Z x) (znm Z x) ∈ zTB Z ∧ (match z with
    | 0 => (znm Z x).cls = "java/lang/String"
    | z + 1 => ∃ q : vw_C, (zcl Z)[z]? = some q ∧ q.1 = (znm Z x).cls)
  | .invokespecial idx => (match z with
    | 0 => Cond.methodLink (zow Z m) idx objectInit ∈ zTB Z ∧ Cond.instanceMethod objectInit ∈ zTB Z ∧ Cond.code objectInit ⟨#[0xb1]⟩ 1 none ∈ zTB Z ∧ 1 ≤ zfr Z m ∧ 20 ≤ zlo Z m
    | _ + 1 => sm_okM Z m idx x y ∧ y + 1 ≤ zmL Z x ∧ Cond.instanceMethod (znm Z x) ∈ zTB Z ∧ (znm Z x).name = "<init>" ∧ zrt Z x = none)
  | .getstatic idx => ∃ C n d : String, Cond.fieldLink (zow Z m) idx C n d ∈ zTB Z ∧ (match z with
    | 0 => (C, n, d, Value.int (Int32.ofNat x)) ∈ zST Z
    | _ + 1 => (C, n, d, Value.retAddr x) ∈ zST Z)
  | .new idx => ∃ q : vw_C, (zcl Z)[x]? = some q ∧ Cond.classLink (zow Z m) idx q.1 ∈ zTB Z ∧ Cond.instantiable q.1 q.2.2 ∈ zTB Z ∧ Cond.initialized q.1 ∈ zTB Z
  | .newarray t => Cond.arrayClass (newarray.typeOf t) ∈ zTB Z
  | .anewarray idx => ∃ C : String, P.2.2.2.1 x = .object C ∧ Cond.classLink (zow Z m) idx C ∈ zTB Z ∧ Cond.arrayOver (.object C) ∈ zNW Z
  | .multianewarray idx _ => Cond.classLink (zow Z m) idx "[[I" ∈ zTB Z ∧ Cond.arrayOver (.array .int) ∈ zNW Z ∧ Cond.arrayClass .int ∈ zTB Z
  | .ldc idx => (match z with
    | 0 => Cond.constant (zow Z m) idx (Int32.ofNat x) ∈ zTB Z
    | _ + 1 => ∃ tx, (zow Z m, idx, tx, x) ∈ zSC Z)
  | .ldc2_w idx => Cond.constantLong (zow Z m) idx (Int64.ofNat x) ∈ zTB Z
  | .ireturn => (match z with
    | 0 => zrt Z m = some .int
    | z + 1 => zrt Z m = some (sm_nk (z + 1)))
  | .lreturn => zrt Z m = some .long
  | .areturn => ∃ rt, zrt Z m = some rt ∧ ((∃ n, rt = .object n) ∨ ∃ t, rt = .array t)
  | .return_ => zrt Z m = none
  | _ => True
def sm_okI (Z : smZ) (P : smP) (m pc : Nat) (i : Instr) (len x y z : Nat) : Prop := decode (zby Z m) pc = .ok (i, len) ∧ sm_okA (zmL Z m) pc len i x y = true ∧ sm_okL Z P m i x y z
/-- of the classes and of the words themselves -/
def sm_okC (Z : smZ) (P : smP) : Prop := (∀ (k : Nat) (q : vw_C), (zcl Z)[k]? = some q → (∀ w ∈ u_ws q.1 q.2.1 q.2.2, w ∈ zTB Z) ∧ (∃ ty : Nat → FieldType, (∀ j, j < q.2.2 → parseFieldDescriptor (q.2.1 j).2.2.1 = some (ty j)) ∧ ∀ j, j < q.2.2 → defaultValue (ty j) = vp_V (P.2.2.1 k) j) ∧ (P.2.2.1 k).length = q.2.2 ∧ (∀ a, a < q.2.2 → ∀ b, b < q.2.2 → a ≠ b → (q.2.1 a).2.1 ≠ (q.2.1 b).2.1) ∧ P.2.2.2.1 k = .object q.1) ∧
  (∀ w ∈ zTB Z, goodWord w = true) ∧
  (∀ w ∈ zNW Z, (∀ s U : State, s.WarmedH U.vm → va_Nw w s → va_Nw w U) ∧ (∀ u U : State, u.vm = U.vm → va_Nw w u → va_Nw w U) ∧ ∀ (A : Array Value) (U : State), va_Nw w U → w.before A U = true)
/-- a frame of method m: what a walk of it may use -/
def sm_Fx (Z : smZ) (P : smP) (X : smX) (Y : smY) (p : Program) (R : Room) (s : State) (mid : MethodId) (args : Array Value) (meth : Method) (c : Code) (m : Nat) : Prop :=
  p.tables.exec = Jvm.exec ∧ c.code = zby Z m ∧ c.maxLocals = zmL Z m ∧ s.vm.findClass (zow Z m) = some mid.cls ∧ (∀ w ∈ zTB Z, w.before args s = true) ∧ sm_VC Z Y s ∧ sm_HC Z P X Y s s.heap ∧ meth.name = (znm Z m).name ∧ (∀ a, s.heap.size ≤ a → Y.2.1 a) ∧ sm_okC Z P ∧ R.frames = zfr Z m ∧ R.locals = zlo Z m
def sm_G (Z : smZ) (Y : smY) (p : Program) (l : Launch) (e : Env) (R : Room) (s : State) (mid : MethodId) (args : Array Value) (below : List Frame) (meth : Method) (c : Code) (Q : State → Prop) (m : Nat) (hf : smH) (Cf Sf : Nat) (pc : Nat) (ls : smL) (st : List Value) (h : smH) : Prop :=
  ∀ (H : Heap) (locs : List Loc) (cells slots : Nat) (la : Array Slot), sm_Rel Z Y s h H → va_S Y.2.1 s.heap H locs → lv_has la (zmL Z m) (sm_ml Y ls) → cells + hf.2.1 = Cf + h.2.1 → slots + hf.2.2 = Sf + h.2.2 → W p l e R s mid args below meth c H locs cells slots Q (F0 mid pc la (st.map (sm_v Y)))
/-! what a helper's answer says -/
theorem sm_pI_e {st : List Value} {κ : Int32 → List Value → smR} {r : Option Value × smH} (h : sm_pI st κ = some r) : ∃ x t, st = .int x :: t ∧ κ x t = some r := by
  unfold sm_pI at h; split at h
  · exact ⟨_, _, rfl, h⟩
  · cases h
theorem sm_pJ_e {st : List Value} {κ : Int64 → List Value → smR} {r : Option Value × smH} (h : sm_pJ st κ = some r) : ∃ x t, st = .long x :: t ∧ κ x t = some r := by
  unfold sm_pJ at h; split at h
  · exact ⟨_, _, rfl, h⟩
  · cases h
theorem sm_pR_e {st : List Value} {κ : Nat → List Value → smR} {r : Option Value × smH} (h : sm_pR st κ = some r) : ∃ x t, st = .ref x :: t ∧ κ x t = some r := by
  unfold sm_pR at h; split at h
  · exact ⟨_, _, rfl, h⟩
  · cases h
theorem sm_pT_e {st : List Value} {κ : Nat → List Value → smR} {r : Option Value × smH} (h : sm_pT st κ = some r) : ∃ x t, st = .retAddr x :: t ∧ κ x t = some r := by
  unfold sm_pT at h; split at h
  · exact ⟨_, _, rfl, h⟩
  · cases h
theorem sm_pV_e {st : List Value} {κ : Value → List Value → smR} {r : Option Value × smH} (h : sm_pV st κ = some r) : ∃ x t, st = x :: t ∧ κ x t = some r := by
  unfold sm_pV at h; split at h
  · exact ⟨_, _, rfl, h⟩
  · cases h
theorem sm_gI_e {o : Option Value} {κ : Int32 → smR} {r : Option Value × smH} (h : sm_gI o κ = some r) : ∃ x, o = some (.int x) ∧ κ x = some r := by
  unfold sm_gI at h; split at h
  · exact ⟨_, rfl, h⟩
  · cases h
theorem sm_gJ_e {o : Option Value} {κ : Int64 → smR} {r : Option Value × smH} (h : sm_gJ o κ = some r) : ∃ x, o = some (.long x) ∧ κ x = some r := by
  unfold sm_gJ at h; split at h
  · exact ⟨_, rfl, h⟩
  · cases h
theorem sm_gR_e {o : Option Value} {κ : Nat → smR} {r : Option Value × smH} (h : sm_gR o κ = some r) : ∃ x, o = some (.ref x) ∧ κ x = some r := by
  unfold sm_gR at h; split at h
  · exact ⟨_, rfl, h⟩
  · cases h
theorem sm_gA_e {o : Option Value} {κ : Value → smR} {r : Option Value × smH} (h : sm_gA o κ = some r) : ∃ v, o = some v ∧ sm_isA v = true ∧ κ v = some r := by
  unfold sm_gA at h; split at h
  · exact ⟨_, rfl, rfl, h⟩
  · exact ⟨_, rfl, rfl, h⟩
  · exact ⟨_, rfl, rfl, h⟩
  · cases h
theorem sm_ite_e {c : Prop} [Decidable c] {a b : smR} {r : Option Value × smH} (h : (if c then a else b) = some r) : (c ∧ a = some r) ∨ (¬ c ∧ b = some r) := by
  by_cases hc : c
  · rw [if_pos hc] at h; exact Or.inl ⟨hc, h⟩
  · rw [if_neg hc] at h; exact Or.inr ⟨hc, h⟩
theorem sm_bif_e {c : Bool} {a : smR} {r : Option Value × smH} (h : (bif c then a else none) = some r) : c = true ∧ a = some r := by
  cases c
  · cases h
  · exact ⟨rfl, h⟩
theorem sm_cR_e {o : smR} {κ : Option Value → smH → smR} {r : Option Value × smH} (h : sm_cR o κ = some r) : ∃ v h', o = some (v, h') ∧ κ v h' = some r := by
  unfold sm_cR at h; split at h
  · exact ⟨_, _, rfl, h⟩
  · cases h
theorem sm_lg_mem {k : Nat} {v : Value} : ∀ {ls : smL}, sm_lg k ls = some v → (k, v) ∈ ls
  | [], h => by cases h
  | (j, w) :: l, h => by
    unfold sm_lg at h
    cases hb : Nat.beq j k with
    | true =>
      simp only [hb, cond_true] at h
      cases h
      rw [Nat.eq_of_beq_eq_true hb]
      exact List.mem_cons_self
    | false =>
      simp only [hb, cond_false] at h
      exact List.mem_cons_of_mem _ (sm_lg_mem h)
theorem sm_at_la {Y : smY} {la : Array Slot} {nL k : Nat} {v : Value} {ls : smL} (hL : lv_has la nL (sm_ml Y ls)) (h : sm_lg k ls = some v) : la[k]? = some (.val (sm_v Y v)) :=
  hL.2.2 (k, sm_v Y v) (List.mem_map.mpr ⟨(k, v), sm_lg_mem h, rfl⟩)
theorem sm_in_mem {i : Nat} {v : Value} {q : Nat × Value} : ∀ {l : smL}, q ∈ sm_in i v l → q = (i, v) ∨ q ∈ l
  | [], h => by
    rcases List.mem_cons.mp h with h | h
    · exact Or.inl h
    · cases h
  | p :: l, h => by
    unfold sm_in at h
    cases hb : Nat.blt p.1 i with
    | true =>
      simp only [hb, cond_true] at h
      rcases List.mem_cons.mp h with h | h
      · exact Or.inr (by rw [h]; exact List.mem_cons_self)
      · rcases sm_in_mem h with h | h
        · exact Or.inl h
        · exact Or.inr (List.mem_cons_of_mem _ h)
    | false =>
      simp only [hb, cond_false] at h
      rcases List.mem_cons.mp h with h | h
      · exact Or.inl h
      · exact Or.inr h
theorem sm_v_cat {Y : smY} (hY : ∀ t, Y.2.2 t = .null ∨ ∃ a, Y.2.2 t = .ref a) (v : Value) : (sm_v Y v).category = v.category := by
  cases v <;> try rfl
  rename_i t
  show (Y.2.2 t).category = 1
  rcases hY t with h | ⟨a, h⟩ <;> rw [h] <;> rfl
theorem sm_l1_has {Y : smY} (hY : ∀ t, Y.2.2 t = .null ∨ ∃ a, Y.2.2 t = .ref a) {la : Array Slot} {nL i : Nat} {v w : Value} {ls : smL} (hw : sm_v Y v = w) (h : lv_has la nL ((i, w) :: (sm_ml Y ls).filter (fun q => !(q.1 == i) && !(q.1 + 1 == i && q.2.category == 2)))) : lv_has la nL (sm_ml Y (sm_l1 i v ls)) := by
  refine ⟨h.1, h.2.1, fun q hq => ?_⟩
  obtain ⟨q0, h0, rfl⟩ := List.mem_map.mp hq
  rcases sm_in_mem h0 with rfl | h1
  · exact h.2.2 (i, sm_v Y v) (by rw [hw]; exact List.mem_cons_self)
  · obtain ⟨a, b⟩ := List.mem_filter.mp h1
    refine h.2.2 _ (List.mem_cons_of_mem _ (List.mem_filter.mpr ⟨List.mem_map.mpr ⟨q0, a, rfl⟩, ?_⟩))
    rw [← b]
    simp only [sm_v_cat hY]
theorem sm_l2_has {Y : smY} (hY : ∀ t, Y.2.2 t = .null ∨ ∃ a, Y.2.2 t = .ref a) {la : Array Slot} {nL i : Nat} {v w : Value} {ls : smL} (hw : sm_v Y v = w) (h : lv_has la nL ((i, w) :: (sm_ml Y ls).filter (fun q => !(q.1 == i) && (!(q.1 == i + 1) && !(q.1 + 1 == i && q.2.category == 2))))) : lv_has la nL (sm_ml Y (sm_l2 i v ls)) := by
  refine ⟨h.1, h.2.1, fun q hq => ?_⟩
  obtain ⟨q0, h0, rfl⟩ := List.mem_map.mp hq
  rcases sm_in_mem h0 with rfl | h1
  · exact h.2.2 (i, sm_v Y v) (by rw [hw]; exact List.mem_cons_self)
  · obtain ⟨a, b⟩ := List.mem_filter.mp h1
    refine h.2.2 _ (List.mem_cons_of_mem _ (List.mem_filter.mpr ⟨List.mem_map.mpr ⟨q0, a, rfl⟩, ?_⟩))
    rw [← b]
    simp only [sm_v_cat hY]
theorem sm_tg_e {pc : Nat} {o : Int} (h : 0 ≤ (pc : Int) + o) : (pc : Int) + o = (sm_tg pc o : Int) := by
  unfold sm_tg
  rw [Int.toNat_of_nonneg h]
end
section
theorem sm_cat1_v {Y : smY} (hY : ∀ t, Y.2.2 t = .null ∨ ∃ a, Y.2.2 t = .ref a) {v : Value} (h : sm_cat1 v = true) : (sm_v Y v).category = 1 := by
  rw [sm_v_cat hY]
  cases v <;> first | rfl | cases h
theorem sm_isA_v {Y : smY} (hY : ∀ t, Y.2.2 t = .null ∨ ∃ a, Y.2.2 t = .ref a) {v : Value} (h : sm_isA v = true) : sm_v Y v = .null ∨ ∃ a, sm_v Y v = .ref a := by
  cases v with
  | ref a => exact Or.inr ⟨a, rfl⟩
  | null => exact Or.inl rfl
  | retAddr t => exact hY t
  | _ => cases h
/-! the two heaps -/
theorem sm_cell.kept {Z : smZ} {Y : smY} {U : State} {a : Nat} {e : smC} {H H1 : Heap} (h : sm_cell Z Y U a e H) (hq : H1[a]? = H[a]?) : sm_cell Z Y U a e H1 := by
  cases e with
  | inl x =>
    obtain ⟨cA, h1, h2⟩ := h
    exact ⟨cA, h1, hq.trans h2⟩
  | inr o => exact va_at.kept (q := (a, .inr o)) h hq
theorem sm_cell.lt {Z : smZ} {Y : smY} {U : State} {a : Nat} {e : smC} {H : Heap} (h : sm_cell Z Y U a e H) : a < H.size := by
  cases e with
  | inl x =>
    obtain ⟨cA, h1, h2⟩ := h
    exact (Array.getElem?_eq_some_iff.mp h2).1
  | inr o => exact va_at.lt (q := (a, .inr o)) h
theorem sm_cell.moved {Z : smZ} {Y : smY} {u U : State} {a : Nat} {e : smC} {H : Heap} (hvm : u.vm.Alike U.vm) (h : sm_cell Z Y u a e H) : sm_cell Z Y U a e H := by
  cases e with
  | inl x =>
    obtain ⟨cA, ⟨h1, h2⟩, h3⟩ := h
    exact ⟨cA, ⟨arrOfT_moved hvm h1, h2.moved hvm⟩, h3⟩
  | inr o => exact h
theorem sm_Rel.moved {Z : smZ} {Y : smY} {u U : State} {h : smH} {H : Heap} (hvm : u.vm.Alike U.vm) (hR : sm_Rel Z Y u h H) : sm_Rel Z Y U h H := ⟨hR.1, fun a e he => ⟨(hR.2 a e he).1, (hR.2 a e he).2.moved hvm⟩⟩
theorem sm_Rel.w {Z : smZ} {Y : smY} {U : State} {h : smH} {H H1 : Heap} {a : Nat} {e : smC} (hR : sm_Rel Z Y U h H) (z : H1.size = H.size) (oq : ∀ q : Nat, q ≠ a → H1[q]? = H[q]?) (ha : Y.2.1 a) (hc : sm_cell Z Y U a e H1) : sm_Rel Z Y U (sm_w h a e) H1 := by
  refine ⟨by rw [z]; exact hR.1, fun b e' he => ?_⟩
  have he' : (if b = a then some e else h.1 b) = some e' := he
  by_cases hb : b = a
  · rw [if_pos hb] at he'
    cases he'
    rw [hb]
    exact ⟨ha, hc⟩
  · rw [if_neg hb] at he'
    exact ⟨(hR.2 b e' he').1, (hR.2 b e' he').2.kept (oq b hb)⟩
theorem sm_Rel.n {Z : smZ} {Y : smY} {U : State} {h : smH} {H H1 : Heap} {e : smC} {k : Nat} (hR : sm_Rel Z Y U h H) (z : H1.size = h.2.1 + 1) (oq : ∀ q : Nat, q < h.2.1 → H1[q]? = H[q]?) (ha : Y.2.1 h.2.1) (hc : sm_cell Z Y U h.2.1 e H1) : sm_Rel Z Y U (sm_n h e k) H1 := by
  refine ⟨z.symm, fun b e' he => ?_⟩
  have he' : (if b = h.2.1 then some e else h.1 b) = some e' := he
  by_cases hb : b = h.2.1
  · rw [if_pos hb] at he'
    cases he'
    rw [hb]
    exact ⟨ha, hc⟩
  · rw [if_neg hb] at he'
    have h2 := hR.2 b e' he'
    exact ⟨h2.1, h2.2.kept (oq b (by rw [hR.1]; exact h2.2.lt))⟩
theorem sm_one {D : va_G} {cl : List vw_C} {q : Nat × va_E} {H : Heap} (h : va_at D cl q H) : va_P D cl [q] H := by
  intro k x hk
  have h0 : k < 1 := (List.getElem?_eq_some_iff.mp hk).1
  rw [show k = 0 by omega] at hk
  cases hk
  exact h
theorem sm_K0 {Z : smZ} {Y : smY} {s : State} (h : sm_VC Z Y s) : va_K Y.1 (zcl Z) [] s := ⟨h.1, fun k q h => by simp at h⟩
theorem sm_K1 {Z : smZ} {Y : smY} {s : State} (h : sm_VC Z Y s) {cA : ClassId} {ty : FieldType} (h1 : ArrOfT s cA ty ∧ va_RA s cA ty) : va_K Y.1 (zcl Z) [(cA, ty)] s := ⟨h.1, fun k q hk => by
  have h0 : k < 1 := (List.getElem?_eq_some_iff.mp hk).1
  rw [show k = 0 by omega] at hk
  cases hk
  exact h1⟩
theorem sm_f_e {h : smH} {a ci k : Nat} {v : Value} (e : sm_f h a ci k = some v) : ∃ fs, h.1 a = some (.inr (ci, fs)) ∧ fs[k]? = some v := by
  unfold sm_f at e; split at e
  · rename_i c fs hh
    cases hb : Nat.beq c ci with
    | true =>
      simp only [hb, cond_true] at e
      exact ⟨fs, by rw [hh, Nat.eq_of_beq_eq_true hb], e⟩
    | false => simp only [hb, cond_false] at e; cases e
  · cases e
theorem sm_fP_e {h : smH} {a ci k : Nat} {v : Value} {κ : smH → smR} {r : Option Value × smH} (e : sm_fP h a ci k v κ = some r) : ∃ fs, h.1 a = some (.inr (ci, fs)) ∧ k < fs.length ∧ κ (sm_w h a (.inr (ci, fs.set k v))) = some r := by
  unfold sm_fP at e; split at e
  · rename_i c fs hh
    obtain ⟨h1, h2⟩ := sm_bif_e e
    rw [Bool.and_eq_true] at h1
    obtain rfl : c = ci := Nat.eq_of_beq_eq_true h1.1
    exact ⟨fs, hh, by have h3 := h1.2; unfold Nat.blt at h3; exact Nat.le_of_ble_eq_true h3, h2⟩
  · cases e
theorem sm_ld_e {o : Option (FieldType × vp_A)} {ty : FieldType} {i : Int32} {κ : Int32 → smR} {r : Option Value × smH} (e : sm_ld o ty i κ = some r) : ∃ n f, o = some (ty, n, .inl f) ∧ vp_in i n ∧ κ (f i.toNatClampNeg) = some r := by
  unfold sm_ld at e; split at e
  · rename_i t n f
    rcases sm_ite_e e with ⟨h1, e1⟩ | ⟨-, e1⟩
    · rcases sm_ite_e e1 with ⟨-, e2⟩ | ⟨h2, e2⟩
      · cases e2
      · exact ⟨n, f, by rw [h1], h2, e2⟩
    · cases e1
  · cases e
theorem sm_ldR_e {o : Option (FieldType × vp_A)} {i : Int32} {κ : Nat → smR} {r : Option Value × smH} (e : sm_ldR o i κ = some r) : ∃ t n f b, o = some (t, n, .inr (.inr (.inr (.inr f)))) ∧ t.isReference = true ∧ vp_in i n ∧ f i.toNatClampNeg = some b ∧ κ b = some r := by
  unfold sm_ldR at e; split at e
  · rename_i t n f
    obtain ⟨h1, e1⟩ := sm_bif_e e
    rcases sm_ite_e e1 with ⟨-, e2⟩ | ⟨h2, e2⟩
    · cases e2
    · split at e2
      · rename_i b hb
        exact ⟨t, n, f, b, rfl, h1, h2, hb, e2⟩
      · cases e2
  · cases e
theorem sm_st_e {h : smH} {a : Nat} {ty : FieldType} {i x : Int32} {κ : smH → smR} {r : Option Value × smH} (e : sm_st h a ty i x κ = some r) : ∃ n f, h.1 a = some (.inl (ty, n, .inl f)) ∧ vp_in i n ∧ κ (sm_w h a (.inl (ty, n, .inl (upd f i.toNatClampNeg x)))) = some r := by
  unfold sm_st at e; split at e
  · rename_i t n f hh
    rcases sm_ite_e e with ⟨h1, e1⟩ | ⟨-, e1⟩
    · rcases sm_ite_e e1 with ⟨-, e2⟩ | ⟨h2, e2⟩
      · cases e2
      · exact ⟨n, f, by rw [hh, h1], h2, e2⟩
    · cases e1
  · cases e
theorem sm_stR_e {P : smP} {h : smH} {a : Nat} {i : Int32} {v : Nat} {κ : smH → smR} {r : Option Value × smH} (e : sm_stR P h a i v κ = some r) : ∃ t n f ci vs, h.1 a = some (.inl (t, n, .inr (.inr (.inr (.inr f))))) ∧ h.1 v = some (.inr (ci, vs)) ∧ t = P.2.2.2.1 ci ∧ vp_in i n ∧ κ (sm_w h a (.inl (t, n, .inr (.inr (.inr (.inr (va_up f i.toNatClampNeg (some v)))))))) = some r := by
  unfold sm_stR at e; split at e
  · rename_i t n f hh
    split at e
    · rename_i ci vs hv
      rcases sm_ite_e e with ⟨h1, e1⟩ | ⟨-, e1⟩
      · rcases sm_ite_e e1 with ⟨-, e2⟩ | ⟨h2, e2⟩
        · cases e2
        · exact ⟨t, n, f, ci, vs, hh, hv, h1, h2, e2⟩
      · cases e1
    · cases e
  · cases e
theorem sm_ar_ref {P : smP} {X : smX} {h : smH} {a : Nat} {x : FieldType × vp_A} (e : sm_ar P X h (.ref a) = some x) : h.1 a = some (.inl x) := by
  have e' : (match h.1 a with | some (.inl x) => some x | _ => none) = some x := e
  split at e'
  · rename_i y hh
    cases e'
    exact hh
  · cases e'
theorem sm_ar_e {P : smP} {X : smX} {h : smH} {v : Value} {x : FieldType × vp_A} (e : sm_ar P X h v = some x) : (∃ a, v = .ref a ∧ h.1 a = some (.inl x)) ∨ (∃ t, v = .retAddr t ∧ sm_oA P X t = some x) := by
  cases v with
  | ref a => exact Or.inl ⟨a, rfl, sm_ar_ref e⟩
  | retAddr t => exact Or.inr ⟨t, rfl, e⟩
  | _ => cases e
theorem sm_oA_i {P : smP} {X : smX} {t : Nat} {x : FieldType × vp_A} (e : sm_oA P X t = some x) : ∃ ty n f, x = (ty, n, .inl f) := by
  unfold sm_oA at e
  cases h1 : Nat.beq t 40 with
  | true => simp only [h1, cond_true] at e; cases e; exact ⟨_, _, _, rfl⟩
  | false =>
    simp only [h1, cond_false] at e
    obtain ⟨-, e⟩ : _ ∧ _ = some x := by
      cases h2 : (Nat.blt t 40 && Nat.blt 15 t) with
      | true => simp only [h2, cond_true] at e; exact ⟨trivial, e⟩
      | false => simp only [h2, cond_false] at e; cases e
    split at e
    · cases e; exact ⟨_, _, _, rfl⟩
    · cases e
end
section
/-! calls: a method's contract in the small machine's words; what its caller gets -/
def sm_Pc (Z : smZ) (P : smP) (X : smX) (Y : smY) (as : List Value) (h : smH) : Array Value → State → Prop := fun a U => a = (as.map (sm_v Y)).toArray ∧ sm_VC Z Y U ∧ sm_HC Z P X Y U U.heap ∧ sm_Rel Z Y U h U.heap ∧ ∀ a, U.heap.size ≤ a → Y.2.1 a
def sm_Qc (Z : smZ) (Y : smY) (v : Option Value) (h : smH) : Array Value → State → Outcome → State → Prop := fun _ st o t => (o = .returned (v.map (sm_v Y)) ∧ sm_Rel Z Y t h t.heap) ∧ va_F Y.2.1 st t
def sm_ws (Z : smZ) (m : Nat) : List Cond := Cond.code (znm Z m) (zby Z m) (zmL Z m) (zrt Z m) :: zTB Z
def sm_rm (Z : smZ) (m : Nat) (h h' : smH) : Room := { frames := zfr Z m, cells := h'.2.1 - h.2.1, slots := h'.2.2 - h.2.2, locals := zlo Z m }
def sm_CC (Z : smZ) (P : smP) (X : smX) (Y : smY) (l : Launch) (C : smCT) : Prop := ∀ (m : Nat) (as : List Value) (h : smH) (v : Option Value) (h' : smH), m < znM Z → as.length ≤ zmL Z m → as.all sm_cat1 = true → C m as h = some (v, h') →
  sm_le h h' ∧ Met l (znm Z m) (sm_ws Z m) (sm_rm Z m h h') (sm_Pc Z P X Y as h) (sm_Qc Z Y v h') (h'.2.1 - h.2.1) (h'.2.2 - h.2.2) Y.2.1
theorem sm_VC.warm {Z : smZ} {P : smP} {Y : smY} {s U : State} (hZ : sm_okC Z P) (hW : s.WarmedH U.vm) (h : sm_VC Z Y s) : sm_VC Z Y U :=
  ⟨fun k q hq => u_Kn_moved hW.alike (h.1 k q hq), fun w hw => (hZ.2.2 w hw).1 s U hW (h.2.1 w hw), fun q hq => by
    obtain ⟨a, h1, h2⟩ := h.2.2 q hq
    exact ⟨a, h1, h2.warm hW⟩⟩
theorem sm_VC.same {Z : smZ} {P : smP} {Y : smY} {s U : State} (hZ : sm_okC Z P) (hv : U.vm = s.vm) (h : sm_VC Z Y s) : sm_VC Z Y U :=
  ⟨fun k q hq => u_Kn_moved (by rw [hv]; exact Vm.Alike.refl s.vm) (h.1 k q hq), fun w hw => (hZ.2.2 w hw).2.1 s U hv.symm (h.2.1 w hw), fun q hq => by
    obtain ⟨a, h1, h2⟩ := h.2.2 q hq
    exact ⟨a, h1, h2.same hv⟩⟩
theorem sm_HC.to {Z : smZ} {P : smP} {X : smX} {Y : smY} {s U : State} {H H1 : Heap} (hvm : s.vm.Alike U.vm) (hq : ∀ a : Nat, a < H.size → ¬ Y.2.1 a → H1[a]? = H[a]?) (h : sm_HC Z P X Y s H) : sm_HC Z P X Y U H1 := by
  refine ⟨fun q hq' => va_Z.moved hvm ((h.1 q hq').kept hq), fun t ht => ?_, fun t ty n f e => ?_, h.2.2.2⟩
  · obtain ⟨a, b, h1, h2, h3, h4, h5⟩ := h.2.1 t ht
    exact ⟨a, b, h1, h2, va_O.moved hvm (h3.kept hq), va_OF.moved hvm (h4.kept hq), va_OF.moved hvm (h5.kept hq)⟩
  · obtain ⟨b, h1, h2⟩ := h.2.2.1 t ty n f e
    exact ⟨b, h1, va_T.moved hvm (h2.kept hq)⟩
theorem sm_Pc.blind {Z : smZ} {P : smP} {X : smX} {Y : smY} {as : List Value} {h : smH} (hZ : sm_okC Z P) : FrameBlind (sm_Pc Z P X Y as h) := by
  intro a U g mk q
  obtain ⟨q0, q1, q2, q3, q4⟩ := q
  exact ⟨q0, sm_VC.same (s := U) (U := U.calling g mk a) hZ rfl q1, sm_HC.to (U := U.calling g mk a) (Vm.Alike.refl U.vm) (fun _ _ _ => rfl) q2, sm_Rel.moved (U := U.calling g mk a) (Vm.Alike.refl U.vm) q3, q4⟩
section SMCALL
variable {Z : smZ} {P : smP} {X : smX} {Y : smY} {p : Program} {l : Launch} {e : Env} {R : Room} {s : State} {mid : MethodId} {args : Array Value} {below : List Frame} {meth : Method} {c : Code} {Q : State → Prop} {m : Nat}
theorem sm_PcU {H : Heap} {as : List Value} {h : smH} {locs : List Loc} (hZ : sm_okC Z P) (hVC : sm_VC Z Y s) (hHC : sm_HC Z P X Y s s.heap) (hA : ∀ a, s.heap.size ≤ a → Y.2.1 a) (hRel : sm_Rel Z Y s h H) (hS : va_S Y.2.1 s.heap H locs) {U : State} (hU : U.heap = H) (hW : s.WarmedH U.vm) : sm_Pc Z P X Y as h (as.map (sm_v Y)).toArray U := by
  subst hU
  exact ⟨rfl, hVC.warm hZ hW, hHC.to hW.alike (fun a h1 h2 => hS.2.1 a h1 h2), hRel.moved hW.alike, fun a ha => hA a (Nat.le_trans hS.1 ha)⟩
theorem sm_call {pc : Nat} {la : Array Slot} {st0 rest : List Value} {H : Heap} {locs : List Loc} {cells slots mc ms : Nat} {v : Option Value} {h' : smH} {a : Array Value} (hr : va_Run p l e R s mid args below meth c H locs cells slots mc ms (F0 mid pc la st0) rest (sm_Qc Z Y v h' a) Y.2.1) (hS : va_S Y.2.1 s.heap H locs)
    (kk : ∀ (H1 : Heap) (locs1 : List Loc), sm_Rel Z Y s h' H1 → va_S Y.2.1 s.heap H1 locs1 → W p l e R s mid args below meth c H1 locs1 (cells + mc) (slots + ms) Q (F0 mid (pc + 3) la ((v.map (sm_v Y)).toList ++ rest))) : W p l e R s mid args below meth c H locs cells slots Q (F0 mid pc la st0) := by
  intro T hT Xs
  obtain ⟨v0, st₀, t, T', L, h0, X', hL, e1, e2, ⟨⟨hv, hrel⟩, hz, hk⟩, st⟩ := hr T hT Xs
  cases hv
  rw [h0] at hz hk
  have hrel1 : sm_Rel Z Y s h' T'.heap := by
    rw [e1]
    refine hrel.moved ?_
    rw [← e2]
    exact X'.warmed.alike.symm
  have hS1 : va_S Y.2.1 s.heap T'.heap (locs ++ L) := ⟨Nat.le_trans hS.1 (by rw [e1]; exact hz), fun q h1 h2 => by rw [e1, hk q (Nat.lt_of_lt_of_le h1 hS.1) h2]; exact hS.2.1 q h1 h2, fun q hq => by
    rcases List.mem_append.mp hq with h | h
    · exact hS.2.2 q h
    · exact hL q h⟩
  obtain ⟨t2, a1, b1⟩ := kk T'.heap (locs ++ L) hrel1 hS1 T' rfl X'
  exact ⟨t2, st t2 a1, b1⟩
end SMCALL
theorem sm_pN_e {n : Nat} {st : List Value} {κ : List Value → List Value → smR} {r : Option Value × smH} (h : sm_pN n st κ = some r) : ∃ as t, st = as.reverse ++ t ∧ as.length = n ∧ as.all sm_cat1 = true ∧ (t.map (fun v => v.category)).sum ≤ 8 ∧ κ as t = some r := by
  unfold sm_pN at h
  obtain ⟨h1, h2⟩ := sm_bif_e h
  rw [Bool.and_eq_true, Bool.and_eq_true] at h1
  obtain ⟨⟨h3, h4⟩, h5⟩ := h1
  have h3 := Nat.le_of_ble_eq_true h3
  refine ⟨(st.take n).reverse, st.drop n, ?_, ?_, ?_, Nat.le_of_ble_eq_true h5, h2⟩
  · rw [List.reverse_reverse, List.take_append_drop]
  · rw [List.length_reverse, List.length_take]; omega
  · rw [List.all_reverse]; exact h4
theorem sm_cats {Y : smY} (hY : ∀ t, Y.2.2 t = .null ∨ ∃ a, Y.2.2 t = .ref a) (t : List Value) : ((t.map (sm_v Y)).map (fun v => v.category)) = t.map (fun v => v.category) := by
  rw [List.map_map]
  apply List.map_congr_left
  intro v _
  exact sm_v_cat hY v
theorem sm_vc_e {h : smH} {a c : Nat} {o : smR} {r : Option Value × smH} (e : sm_vc h a c o = some r) : ∃ fs, h.1 a = some (.inr (c, fs)) ∧ o = some r := by
  unfold sm_vc at e; split at e
  · rename_i d fs hh
    obtain ⟨h1, h2⟩ := sm_bif_e e
    exact ⟨fs, by rw [hh, Nat.eq_of_beq_eq_true h1], h2⟩
  · cases e
theorem sm_al_e {o : Option (FieldType × vp_A)} {κ : Nat → smR} {r : Option Value × smH} (e : sm_al o κ = some r) : ∃ t n g, o = some (t, n, g) ∧ κ n = some r := by
  unfold sm_al at e; split at e
  · exact ⟨_, _, _, rfl, e⟩
  · cases e
theorem sm_sw_e {o : Option Int} {κ : Int → smR} {r : Option Value × smH} (e : sm_sw o κ = some r) : ∃ i, o = some i ∧ κ i = some r := by
  unfold sm_sw at e; split at e
  · exact ⟨_, rfl, e⟩
  · cases e
def sm_isR (i : Instr) : Bool := match i with
  | .ireturn => true
  | .lreturn => true
  | .areturn => true
  | .return_ => true
  | _ => false
theorem sm_good {Z : smZ} {P : smP} (hZ : sm_okC Z P) {ws : List Cond} (h : ∀ w ∈ ws, w ∈ zTB Z) : GoodIn (zTB Z) ws := fun w hw => ⟨h w hw, good_of_word (hZ.2.1 w (h w hw))⟩
section SM6
variable {Z : smZ} {P : smP} {X : smX} {Y : smY} {p : Program} {l : Launch} {e : Env} {R : Room} {s : State} {mid : MethodId} {args : Array Value} {below : List Frame} {meth : Method} {c : Code} {Q : State → Prop} {m : Nat} {r : Option Value × smH} {Cf Sf : Nat} {C : smCT} {K : smK}
/-- what a walk is given: the frame, the rest's walks, the callees' contracts, its own end, room enough -/
def sm_Gv (Z : smZ) (P : smP) (X : smX) (Y : smY) (p : Program) (l : Launch) (e : Env) (R : Room) (s : State) (mid : MethodId) (args : Array Value) (below : List Frame) (meth : Method) (c : Code) (Q : State → Prop) (m : Nat) (r : Option Value × smH) (Cf Sf : Nat) (C : smCT) (K : smK) : Prop :=
  sm_Fx Z P X Y p R s mid args meth c m ∧ (∀ pc ls st h, K pc ls st h = some r → sm_le h r.2 ∧ sm_G Z Y p l e R s mid args below meth c Q m r.2 Cf Sf pc ls st h) ∧ sm_CC Z P X Y l C ∧
  (∀ (i : Instr) (len x y z pc : Nat) (ls : smL) (st : List Value) (h : smH), sm_okI Z P m pc i len x y z → sm_isR i = true → sm_s6 P C K i x y z pc ls st h = some r → sm_G Z Y p l e R s mid args below meth c Q m r.2 Cf Sf pc ls st h) ∧ Cf ≤ R.cells ∧ Sf ≤ R.slots
theorem sm_room {h h1 hf : smH} {cells slots : Nat} (hl1 : sm_le h h1) (hl2 : sm_le h1 hf) (h1c : cells + hf.2.1 = Cf + h.2.1) (h2c : slots + hf.2.2 = Sf + h.2.2) (hC : Cf ≤ R.cells) (hS : Sf ≤ R.slots) : (cells + (h1.2.1 - h.2.1) ≤ R.cells ∧ slots + (h1.2.2 - h.2.2) ≤ R.slots) ∧ cells + (h1.2.1 - h.2.1) + hf.2.1 = Cf + h1.2.1 ∧ slots + (h1.2.2 - h.2.2) + hf.2.2 = Sf + h1.2.2 := by
  obtain ⟨a1, a2⟩ := hl1
  obtain ⟨b1, b2⟩ := hl2
  omega
theorem sm_kk {h1 : smH} {cells slots pc : Nat} {la : Array Slot} {ls : smL} {t : List Value} {v : Option Value} (hg : sm_G Z Y p l e R s mid args below meth c Q m r.2 Cf Sf (pc + 3) ls (v.toList ++ t) h1) (hL : lv_has la (zmL Z m) (sm_ml Y ls)) (g3 : cells + r.2.2.1 = Cf + h1.2.1) (g4 : slots + r.2.2.2 = Sf + h1.2.2) : ∀ (H1 : Heap) (locs1 : List Loc), sm_Rel Z Y s h1 H1 → va_S Y.2.1 s.heap H1 locs1 → W p l e R s mid args below meth c H1 locs1 cells slots Q (F0 mid (pc + 3) la ((v.map (sm_v Y)).toList ++ t.map (sm_v Y))) := fun H1 locs1 hR1 hS1 => by
  have hg1 := hg H1 locs1 _ _ la hR1 hS1 hL g3 g4
  rw [List.map_append] at hg1
  cases v <;> exact hg1
theorem sm_wsin {x : Nat} (hcode : Cond.code (znm Z x) (zby Z x) (zmL Z x) (zrt Z x) ∈ zTB Z) : ∀ w ∈ sm_ws Z x, w ∈ zTB Z := fun w hw => by
  rcases List.mem_cons.mp hw with h | h
  · rw [h]; exact hcode
  · exact h
set_option maxHeartbeats 4000000 in
/-- a virtual call, of the method of the receiver's class -/
theorem sm_gV (V : sm_Gv Z P X Y p l e R s mid args below meth c Q m r Cf Sf C K) {idx x y pc : Nat} {ls : smL} {as t : List Value} {h h1 : smH} {rv : Value} {v : Option Value} {b : Nat} (hb0 : sm_v Y rv = .ref b) (hc1 : sm_cat1 rv = true) (hd : decode (zby Z m) pc = .ok (.invokevirtual idx, 3)) (hok : sm_okM Z m idx x y) (hmL : y + 1 ≤ zmL Z x) (hin : Cond.instanceMethod (znm Z x) ∈ zTB Z) (hsel : Cond.selects (znm Z x).cls (znm Z x) (znm Z x) ∈ zTB Z)
    (hn : as.length = y) (hall : as.all sm_cat1 = true) (hcat : (t.map (fun v => v.category)).sum ≤ 8) (hc : C x (rv :: as) h = some (v, h1)) (hs2 : K (pc + 3) ls (v.toList ++ t) h1 = some r)
    {H : Heap} {locs : List Loc} {cells slots : Nat} {la : Array Slot} (hcell : ∃ cell : Cell, H[b]? = some cell ∧ cell.vm.isStatics = false ∧ s.vm.findClass (znm Z x).cls = some cell.cls) (hRel : sm_Rel Z Y s h H) (hS : va_S Y.2.1 s.heap H locs) (hL : lv_has la (zmL Z m) (sm_ml Y ls)) (g1 : cells + r.2.2.1 = Cf + h.2.1) (g2 : slots + r.2.2.2 = Sf + h.2.2) :
    W p l e R s mid args below meth c H locs cells slots Q (F0 mid pc la ((as.reverse ++ rv :: t).map (sm_v Y))) := by
  obtain ⟨F, hK, hC, hret, hCc, hCs⟩ := id V
  obtain ⟨hx, hb, hml, hown, hts, hVC, hHC, hnm, hA, hZ, hRf, hRl⟩ := id F
  obtain ⟨hxM, hdd, hcode, hini, hfr, hlo, hlink⟩ := hok
  obtain ⟨hle1, hM⟩ := hC x (rv :: as) h v h1 hxM (by rw [List.length_cons]; omega) (by rw [List.all_cons, hall, hc1]; rfl) hc
  obtain ⟨hle2, hg⟩ := hK _ _ _ _ hs2
  obtain ⟨hf, g3, g4⟩ := sm_room (R := R) hle1 hle2 g1 g2 hCc hCs
  have hstk : ((as.reverse ++ rv :: t).map (sm_v Y)) = (as.map (sm_v Y)).reverse ++ .ref b :: t.map (sm_v Y) := by rw [List.map_append, List.map_reverse, List.map_cons, hb0]
  have hroom : 2 * (F0 mid pc la ((as.reverse ++ rv :: t).map (sm_v Y))).monitorRoom + ((t.map (sm_v Y)).map fun v => v.category).sum ≤ 8 := lv_room (by rw [sm_cats hHC.2.2.2]; exact hcat)
  have hR2 : (sm_rm Z x h h1).frames + 1 ≤ R.frames ∧ 8 + (zmL Z x + 11) + (sm_rm Z x h h1).locals ≤ R.locals := by rw [hRf, hRl]; exact ⟨hfr, hlo⟩
  have hargs : Value.ref b :: as.map (sm_v Y) = (rv :: as).map (sm_v Y) := by rw [List.map_cons, hb0]
  have hpre : PreV s H (znm Z x).cls b (sm_Pc Z P X Y (rv :: as) h) (as.map (sm_v Y)) := ⟨sm_Pc.blind hZ, hcell, fun U hU hW => by rw [hargs]; exact sm_PcU hZ hVC hHC hA hRel hS hU hW⟩
  have hwsin := sm_wsin hcode
  rcases hlink with hlink | ⟨host, hlink⟩
  · exact sm_call (va_runV (C := (znm Z x).cls) (As := as.map (sm_v Y)) (rest := t.map (sm_v Y)) ⟨hx, hb, hml, hown, hts⟩ hM (cwV y hts (sm_good hZ (fun w hw => by
      rcases List.mem_append.mp hw with h | h
      · simp only [List.mem_cons, List.not_mem_nil, or_false] at h
        rcases h with rfl | rfl | rfl | rfl
        · exact hlink
        · exact hin
        · exact hsel
        · exact hini
      · exact hwsin w h)) rfl rfl rfl ⟨rfl, hdd⟩ hR2) hpre rfl (by rw [List.length_map]; exact hn) hL.1 hstk hroom hd hf) hS (sm_kk hg hL g3 g4)
  · exact sm_call (va_runVN (C := (znm Z x).cls) (As := as.map (sm_v Y)) (rest := t.map (sm_v Y)) ⟨hx, hb, hml, hown, hts⟩ hM ⟨va_cnB y hts (sm_good hZ hwsin) rfl rfl rfl (hVC.2.1 _ hlink) (hts _ hini) hdd hR2, hts _ hin, hts _ hsel⟩ hpre rfl (by rw [List.length_map]; exact hn) hL.1 hstk hroom hd hf) hS (sm_kk hg hL g3 g4)
set_option maxHeartbeats 4000000 in
theorem sm_g6 (V : sm_Gv Z P X Y p l e R s mid args below meth c Q m r Cf Sf C K) {i : Instr} {len x y z pc : Nat} {ls : smL} {st : List Value} {h : smH} (hok : sm_okI Z P m pc i len x y z) (hs : sm_s6 P C K i x y z pc ls st h = some r) : sm_G Z Y p l e R s mid args below meth c Q m r.2 Cf Sf pc ls st h := by
  obtain ⟨F, hK, hC, hret, hCc, hCs⟩ := id V
  obtain ⟨hx, hb, hml, hown, hts, hVC, hHC, hnm, hA, hZ, hRf, hRl⟩ := id F
  obtain ⟨hd, ha, hl⟩ := id hok
  have hs0 := hs
  unfold sm_s6 at hs
  split at hs
  · -- invokestatic
    rename_i idx
    split at hs
    · obtain ⟨as, t, rfl, hn, hall, hcat, hs1⟩ := sm_pN_e hs
      obtain ⟨v, h1, hc, hs2⟩ := sm_cR_e hs1
      obtain rfl : len = 3 := by simpa [sm_okA] using ha
      obtain ⟨⟨hxM, hdd, hcode, hini, hfr, hlo, hlink⟩, hmL, hst⟩ := hl
      obtain ⟨hle1, hM⟩ := hC x as h v h1 hxM (by omega) hall hc
      obtain ⟨hle2, hg⟩ := hK _ _ _ _ hs2
      intro H locs cells slots la hRel hS hL g1 g2
      obtain ⟨hf, g3, g4⟩ := sm_room (R := R) hle1 hle2 g1 g2 hCc hCs
      have hstk : ((as.reverse ++ t).map (sm_v Y)) = (as.map (sm_v Y)).reverse ++ t.map (sm_v Y) := by rw [List.map_append, List.map_reverse]
      have hroom : 2 * (F0 mid pc la ((as.reverse ++ t).map (sm_v Y))).monitorRoom + ((t.map (sm_v Y)).map fun v => v.category).sum ≤ 8 := lv_room (by rw [sm_cats hHC.2.2.2]; exact hcat)
      have hR2 : (sm_rm Z x h h1).frames + 1 ≤ R.frames ∧ 8 + (zmL Z x + 11) + (sm_rm Z x h h1).locals ≤ R.locals := by rw [hRf, hRl]; exact ⟨hfr, hlo⟩
      have hwsin := sm_wsin hcode
      have hpre : PreS s H (sm_Pc Z P X Y as h) (as.map (sm_v Y)) := ⟨sm_Pc.blind hZ, fun U hU hW => sm_PcU hZ hVC hHC hA hRel hS hU hW⟩
      rcases hlink with hlink | ⟨host, hlink⟩
      · exact sm_call (va_runS (As := as.map (sm_v Y)) (rest := t.map (sm_v Y)) ⟨hx, hb, hml, hown, hts⟩ hM (va_cwS y hts (sm_good hZ (fun w hw => by
          rcases List.mem_append.mp hw with h | h
          · simp only [List.mem_cons, List.not_mem_nil, or_false] at h
            rcases h with rfl | rfl | rfl
            · exact hlink
            · exact hst
            · exact hini
          · exact hwsin w h)) rfl rfl rfl hdd hR2) hpre rfl (by rw [List.length_map]; exact hn) hL.1 hstk hroom hd hf) hS (sm_kk hg hL g3 g4)
      · exact sm_call (va_runSN (As := as.map (sm_v Y)) (rest := t.map (sm_v Y)) ⟨hx, hb, hml, hown, hts⟩ hM ⟨va_cnB y hts (sm_good hZ hwsin) rfl rfl rfl (hVC.2.1 _ hlink) (hts _ hini) hdd hR2, hts _ hst, trivial⟩ hpre rfl (by rw [List.length_map]; exact hn) hL.1 hstk hroom hd hf) hS (sm_kk hg hL g3 g4)
    · obtain ⟨b, t1, rfl, hs1⟩ := sm_pI_e hs
      obtain ⟨a, t, rfl, hs2⟩ := sm_pI_e hs1
      obtain ⟨hcat, hs3⟩ := sm_bif_e hs2
      obtain rfl : len = 3 := by simpa [sm_okA] using ha
      obtain ⟨q1, q2, q3, q4, q5, q6⟩ := hl
      obtain ⟨hle2, hg⟩ := hK _ _ _ _ hs3
      intro H locs cells slots la hRel hS hL g1 g2
      have hc : cells ≤ R.cells ∧ slots ≤ R.slots := by
        obtain ⟨b1, b2⟩ := hle2
        omega
      refine va_mmax hx hb (hml.trans hL.1.symm) hown (hts _ q1) (hts _ q2) (hts _ q3) (hts _ q4) (by rw [hRf]; exact q5) ?_ hc.1 hc.2 (rest := t.map (sm_v Y)) hd (hg H locs cells slots la hRel hS hL g1 g2)
      have h8 : (t.map (fun v => v.category)).sum ≤ 8 := Nat.le_of_ble_eq_true hcat
      rw [sm_cats hHC.2.2.2, hRl]
      omega
    · rename_i hz0 hz1
      obtain ⟨b, t1, rfl, hs1⟩ := sm_pI_e hs
      obtain ⟨a, t, rfl, hs2⟩ := sm_pI_e hs1
      obtain ⟨hcat, hs3⟩ := sm_bif_e hs2
      obtain rfl : len = 3 := by simpa [sm_okA] using ha
      obtain ⟨q1, q2, q3, q4, q5, q6⟩ := (sm_okS2 hz0 hz1 hl)
      obtain ⟨hle2, hg⟩ := hK _ _ _ _ hs3
      intro H locs cells slots la hRel hS hL g1 g2
      have hc : cells ≤ R.cells ∧ slots ≤ R.slots := by
        obtain ⟨b1, b2⟩ := hle2
        omega
      refine va_mmin hx hb (hml.trans hL.1.symm) hown (hts _ q1) (hts _ q2) (hts _ q3) (hts _ q4) (by rw [hRf]; exact q5) ?_ hc.1 hc.2 (rest := t.map (sm_v Y)) hd (hg H locs cells slots la hRel hS hL g1 g2)
      have h8 : (t.map (fun v => v.category)).sum ≤ 8 := Nat.le_of_ble_eq_true hcat
      rw [sm_cats hHC.2.2.2, hRl]
      omega
  · -- invokevirtual
    rename_i idx
    split at hs
    · -- on a tag
      obtain ⟨as, t0, rfl, hn, hall, hcat, hs1⟩ := sm_pN_e hs
      obtain ⟨tg, t, rfl, hs3⟩ := sm_pT_e hs1
      obtain ⟨hlt, hs4⟩ := sm_bif_e hs3
      obtain ⟨v, h1, hc, hs2⟩ := sm_cR_e hs4
      obtain rfl : len = 3 := by simpa [sm_okA] using ha
      obtain ⟨hM, hmL, hin, hsel, hcls⟩ := hl
      obtain ⟨a0, b0, q1, q2, q3, -⟩ := hHC.2.1 tg (by unfold Nat.blt at hlt; exact Nat.le_of_ble_eq_true hlt)
      intro H locs cells slots la hRel hS hL g1 g2
      refine sm_gV V (rv := .retAddr tg) (b := a0) (show sm_v Y (.retAddr tg) = .ref a0 from q1) rfl hd hM hmL hin hsel hn hall (by rw [List.map_cons, List.sum_cons] at hcat; omega) hc hs2 ?_ hRel hS hL g1 g2
      rw [show (znm Z x).cls = "java/lang/String" from hcls]
      exact va_Orecv q3 hS
    · -- on an object
      rename_i z'
      obtain ⟨as, t0, rfl, hn, hall, hcat, hs1⟩ := sm_pN_e hs
      obtain ⟨a, t, rfl, hs3⟩ := sm_pR_e hs1
      obtain ⟨fs, hh, hs4⟩ := sm_vc_e hs3
      obtain ⟨v, h1, hc, hs2⟩ := sm_cR_e hs4
      obtain rfl : len = 3 := by simpa [sm_okA] using ha
      obtain ⟨hM, hmL, hin, hsel, q, hq, hqc⟩ := hl
      intro H locs cells slots la hRel hS hL g1 g2
      refine sm_gV V (b := a) rfl rfl hd hM hmL hin hsel hn hall (by rw [List.map_cons, List.sum_cons] at hcat; omega) hc hs2 ?_ hRel hS hL g1 g2
      rw [← hqc]
      exact va_recv (tys := []) (ws := [(a, .inr (z', fs))]) (q0 := 0) (sm_K0 hVC) (sm_one (hRel.2 a _ hh).2) hq rfl
  · -- invokespecial
    rename_i idx
    split at hs
    · obtain ⟨a, t, rfl, hs1⟩ := sm_pR_e hs
      obtain ⟨hcat, hs2⟩ := sm_bif_e hs1
      obtain rfl : len = 3 := by simpa [sm_okA] using ha
      obtain ⟨q1, q2, q3, q4, q5⟩ := hl
      obtain ⟨-, hg⟩ := hK _ _ _ _ hs2
      intro H locs cells slots la hRel hS hL g1 g2
      refine W.objInit hx hb hown (hts _ q1) (hts _ q2) (hts _ q3) rfl (by rw [hml]; exact hL.1) (rest := t.map (sm_v Y)) rfl hd (by rw [hRf]; exact q4) ?_ (hg H locs cells slots la hRel hS hL g1 g2)
      have h8 : 2 * (F0 mid pc la ((.ref a :: t).map (sm_v Y))).monitorRoom + ((t.map (sm_v Y)).map fun v => v.category).sum ≤ 8 := lv_room (by rw [sm_cats hHC.2.2.2]; exact Nat.le_of_ble_eq_true hcat)
      rw [hRl]
      omega
    · obtain ⟨as, t0, rfl, hn, hall, hcat, hs1⟩ := sm_pN_e hs
      obtain ⟨a, t, rfl, hs3⟩ := sm_pR_e hs1
      obtain ⟨v, h1, hc, hs2⟩ := sm_cR_e hs3
      obtain rfl : len = 3 := by simpa [sm_okA] using ha
      obtain ⟨⟨hxM, hdd, hcode, hini, hfr, hlo, hlink⟩, hmL, hin, hname, hrt⟩ := hl
      obtain ⟨hle1, hM⟩ := hC x (.ref a :: as) h v h1 hxM (by rw [List.length_cons]; omega) (by rw [List.all_cons, hall]; rfl) hc
      obtain ⟨hle2, hg⟩ := hK _ _ _ _ hs2
      intro H locs cells slots la hRel hS hL g1 g2
      obtain ⟨hf, g3, g4⟩ := sm_room (R := R) hle1 hle2 g1 g2 hCc hCs
      have hcat2 : (t.map (fun v => v.category)).sum ≤ 8 := by rw [List.map_cons, List.sum_cons] at hcat; omega
      have hstk : ((as.reverse ++ .ref a :: t).map (sm_v Y)) = (as.map (sm_v Y)).reverse ++ .ref a :: t.map (sm_v Y) := by rw [List.map_append, List.map_reverse, List.map_cons]; rfl
      have hroom : 2 * (F0 mid pc la ((as.reverse ++ .ref a :: t).map (sm_v Y))).monitorRoom + ((t.map (sm_v Y)).map fun v => v.category).sum ≤ 8 := lv_room (by rw [sm_cats hHC.2.2.2]; exact hcat2)
      have hR2 : (sm_rm Z x h h1).frames + 1 ≤ R.frames ∧ 8 + (zmL Z x + 11) + (sm_rm Z x h h1).locals ≤ R.locals := by rw [hRf, hRl]; exact ⟨hfr, hlo⟩
      have hwsin := sm_wsin hcode
      have hpre : PreS s H (sm_Pc Z P X Y (.ref a :: as) h) (.ref a :: as.map (sm_v Y)) := ⟨sm_Pc.blind hZ, fun U hU hW => sm_PcU (as := .ref a :: as) hZ hVC hHC hA hRel hS hU hW⟩
      have hw : sm_ws Z x = Cond.code (znm Z x) (zby Z x) (zmL Z x) none :: zTB Z := by unfold sm_ws; rw [hrt]
      rcases hlink with hlink | ⟨host, hlink⟩
      · exact sm_call (va_runI (As := as.map (sm_v Y)) (rest := t.map (sm_v Y)) ⟨hx, hb, hml, hown, hts⟩ hM (cwI y hts (sm_good hZ hwsin) hw rfl rfl (hts _ hini) (hts _ hlink) (hts _ hin) hname hdd hR2) hpre rfl (by rw [List.length_map]; exact hn) hL.1 hstk hroom hd hf) hS (sm_kk hg hL g3 g4)
      · exact sm_call (va_runIN (As := as.map (sm_v Y)) (rest := t.map (sm_v Y)) ⟨hx, hb, hml, hown, hts⟩ hM ⟨va_cnB y hts (sm_good hZ hwsin) hw rfl rfl (hVC.2.1 _ hlink) (hts _ hini) hdd hR2, hname, hts _ hin⟩ hpre rfl (by rw [List.length_map]; exact hn) hL.1 hstk hroom hd hf) hS (sm_kk hg hL g3 g4)
  · -- getstatic
    rename_i idx
    obtain rfl : len = 3 := by simpa [sm_okA] using ha
    obtain ⟨C0, n0, d0, hlink, hst⟩ := hl
    split at hs
    · intro H locs cells slots la hRel hS hL g1 g2
      exact va_gets hx hb (hHC.1 _ hst) hS hown (hts _ hlink) (fun _ h9 => h9) hd ((hK _ _ _ _ hs).2 H locs cells slots la hRel hS hL g1 g2)
    · intro H locs cells slots la hRel hS hL g1 g2
      exact va_gets hx hb (hHC.1 _ hst) hS hown (hts _ hlink) (fun _ h9 => h9) hd ((hK _ _ _ _ hs).2 H locs cells slots la hRel hS hL g1 g2)
  · exact hret _ len x y z _ _ _ _ hok rfl hs0
  · exact hret _ len x y z _ _ _ _ hok rfl hs0
  · exact hret _ len x y z _ _ _ _ hok rfl hs0
  · exact hret _ len x y z _ _ _ _ hok rfl hs0
  · cases hs
end SM6
end
section
theorem vr_outer (c : ClassId) (N h0 : Nat) : ∀ i : Nat, Jvm.Free.Multi.outerC c N h0 i = arrV c N (fun j => va_rf (if j < i then some (h0 + 1 + j) else none))
  | 0 => by
    show ({ cls := c, slots := Array.replicate N .null, vm := .none } : Cell) = _
    rw [arrV_new]
    refine congrArg (arrV c N) (funext fun j => ?_)
    simp [va_rf]
  | i + 1 => by
    show (Jvm.Free.Multi.outerC c N h0 i).setSlot i (.ref (h0 + 1 + i)) = _
    rw [vr_outer c N h0 i, arrV_store]
    refine congrArg (arrV c N) (funext fun j => ?_)
    by_cases e : j = i
    · subst e
      simp [updV, va_rf]
    · by_cases h : j < i
      · simp [updV, e, h, Nat.lt_succ_of_lt h]
      · simp [updV, e, h, show ¬ j < i + 1 by omega]
section SMG
variable {Z : smZ} {P : smP} {X : smX} {Y : smY} {p : Program} {l : Launch} {e : Env} {R : Room} {s : State} {mid : MethodId} {args : Array Value} {below : List Frame} {meth : Method} {c : Code} {Q : State → Prop} {m : Nat} {r : Option Value × smH} {Cf Sf : Nat} {C : smCT} {K : smK}
theorem sm_new_S {H0 H H1 : Heap} {A : Nat → Prop} {locs : List Loc} {n : Nat} (hS : va_S A H0 H locs) (hn : n = H.size) (z : n ≤ H1.size) (oq : ∀ q : Nat, q < n → H1[q]? = H[q]?) : va_S A H0 H1 locs :=
  ⟨Nat.le_trans hS.1 (by omega), fun q h1 h2 => (oq q (by have := hS.1; omega)).trans (hS.2.1 q h1 h2), hS.2.2⟩
theorem sm_bytes {t : ArrayType} {N : Nat} (h : ¬ 1000000 < N) : N * componentBytes (newarray.typeOf t) ≤ 536870912 := by
  have h8 : componentBytes (newarray.typeOf t) ≤ 8 := by cases t <;> decide
  have := Nat.mul_le_mul_left N h8
  omega
theorem sm_bif2_e {c : Bool} {a b : smR} {r : Option Value × smH} (h : (bif c then a else b) = some r) : (c = true ∧ a = some r) ∨ (c = false ∧ b = some r) := by
  cases c
  · exact Or.inr ⟨rfl, h⟩
  · exact Or.inl ⟨rfl, h⟩
set_option maxHeartbeats 4000000 in
theorem sm_g5 (V : sm_Gv Z P X Y p l e R s mid args below meth c Q m r Cf Sf C K) {i : Instr} {len x y z pc : Nat} {ls : smL} {st : List Value} {h : smH} (hok : sm_okI Z P m pc i len x y z) (hs : sm_s5 P C K i x y z pc ls st h = some r) : sm_G Z Y p l e R s mid args below meth c Q m r.2 Cf Sf pc ls st h := by
  obtain ⟨F, hK, hC, hret, hCc, hCs⟩ := id V
  obtain ⟨hx, hb, hml, hown, hts, hVC, hHC, hnm, hA, hZ, hRf, hRl⟩ := id F
  obtain ⟨hd, ha, hl⟩ := id hok
  unfold sm_s5 at hs
  split at hs
  · -- new
    obtain rfl : len = 3 := by simpa [sm_okA] using ha
    obtain ⟨q, hq, q1, q2, q3⟩ := hl
    obtain ⟨z1, ⟨ty, z2, z3⟩, z4, -⟩ := hZ.1 x q hq
    obtain ⟨hle, hg⟩ := hK _ _ _ _ hs
    have hle1 : sm_le h (sm_n h (.inr (x, P.2.2.1 x)) (P.2.2.1 x).length) := sm_le.n
    intro H locs cells slots la hRel hS hL g1 g2
    obtain ⟨hf, g3, g4⟩ := sm_room (R := R) hle1 hle g1 g2 hCc hCs
    have e1 : (sm_n h (.inr (x, P.2.2.1 x)) (P.2.2.1 x).length).2.1 - h.2.1 = 1 := by show h.2.1 + 1 - h.2.1 = 1; omega
    have e2 : (sm_n h (.inr (x, P.2.2.1 x)) (P.2.2.1 x).length).2.2 - h.2.2 = q.2.2 := by show h.2.2 + (P.2.2.1 x).length - h.2.2 = _; rw [z4]; omega
    rw [e1, e2] at hf
    rw [e1] at g3
    rw [e2] at g4
    have hKn := hVC.1 x q hq
    refine W.newcK hx hb hown (hts _ q1) (hts _ q2) (hts _ q3) rfl hd hf.1 hf.2 hKn.2.1 hRel.1.symm fun H1 kC hkC e1 z1' o1 => ?_
    exact hg H1 locs _ _ la (hRel.n z1' o1 (hA _ (by rw [hRel.1]; exact hS.1)) ⟨q, hq, (u_born ty hts z1 hKn hkC e1 z2).to z3⟩) (sm_new_S hS hRel.1 (by omega) o1) hL g3 g4
  · -- newarray
    rename_i t
    obtain ⟨n, t0, rfl, hs1⟩ := sm_pI_e hs
    rcases sm_ite_e hs1 with ⟨-, hs2⟩ | ⟨hn, hs2⟩
    · cases hs2
    obtain rfl : len = 2 := by simpa [sm_okA] using ha
    rcases sm_bif2_e hs2 with ⟨hdf, hs3⟩ | ⟨-, hs4⟩
    · have hn1 : ¬ n < 0 := fun q => hn (Or.inl q)
      have hn2 : ¬ 1000000 < n.toNatClampNeg := fun q => hn (Or.inr q)
      obtain ⟨hle, hg⟩ := hK _ _ _ _ hs3
      generalize hce : (Sum.inl (newarray.typeOf t, n.toNatClampNeg, Sum.inl (fun _ => 0)) : smC) = ce at hs3 hle hg
      have hle1 : sm_le h (sm_n h ce n.toNatClampNeg) := sm_le.n
      intro H locs cells slots la hRel hS hL g1 g2
      obtain ⟨hf, g3, g4⟩ := sm_room (R := R) hle1 hle g1 g2 hCc hCs
      have e1 : (sm_n h ce n.toNatClampNeg).2.1 - h.2.1 = 1 := by show h.2.1 + 1 - h.2.1 = 1; omega
      have e2 : (sm_n h ce n.toNatClampNeg).2.2 - h.2.2 = n.toNatClampNeg := by show h.2.2 + n.toNatClampNeg - h.2.2 = _; omega
      rw [e1, e2] at hf
      rw [e1] at g3
      rw [e2] at g4
      refine va_newaK hx hb (hts _ hl) rfl hd rfl hn1 rfl (sm_bytes hn2) hf.1 hf.2 hRel.1.symm fun H1 cA e1 z1 o1 hAr hNm => ?_
      refine hg H1 locs _ _ la (hRel.n z1 o1 (hA _ (by rw [hRel.1]; exact hS.1)) ?_) (sm_new_S hS hRel.1 (by omega) o1) hL g3 g4
      rw [← hce]
      refine ⟨cA, ⟨hAr, by cases t <;> exact hNm⟩, ?_⟩
      rw [e1, vp_cell_i]
      cases t <;> first | rfl | cases hdf
    · obtain ⟨hdf, hs3⟩ := sm_bif_e hs4
      have hn1 : ¬ n < 0 := fun q => hn (Or.inl q)
      have hn2 : ¬ 1000000 < n.toNatClampNeg := fun q => hn (Or.inr q)
      obtain ⟨hle, hg⟩ := hK _ _ _ _ hs3
      generalize hce : (Sum.inl (newarray.typeOf t, n.toNatClampNeg, Sum.inr (Sum.inl (fun _ => 0))) : smC) = ce at hs3 hle hg
      have hle1 : sm_le h (sm_n h ce n.toNatClampNeg) := sm_le.n
      intro H locs cells slots la hRel hS hL g1 g2
      obtain ⟨hf, g3, g4⟩ := sm_room (R := R) hle1 hle g1 g2 hCc hCs
      have e1 : (sm_n h ce n.toNatClampNeg).2.1 - h.2.1 = 1 := by show h.2.1 + 1 - h.2.1 = 1; omega
      have e2 : (sm_n h ce n.toNatClampNeg).2.2 - h.2.2 = n.toNatClampNeg := by show h.2.2 + n.toNatClampNeg - h.2.2 = _; omega
      rw [e1, e2] at hf
      rw [e1] at g3
      rw [e2] at g4
      refine va_newaK hx hb (hts _ hl) rfl hd rfl hn1 rfl (sm_bytes hn2) hf.1 hf.2 hRel.1.symm fun H1 cA e1 z1 o1 hAr hNm => ?_
      refine hg H1 locs _ _ la (hRel.n z1 o1 (hA _ (by rw [hRel.1]; exact hS.1)) ?_) (sm_new_S hS hRel.1 (by omega) o1) hL g3 g4
      rw [← hce]
      refine ⟨cA, ⟨hAr, by cases t <;> exact hNm⟩, ?_⟩
      rw [e1, vp_cell_l]
      cases t <;> first | rfl | cases hdf
  · -- anewarray
    rename_i idx
    obtain ⟨n, t0, rfl, hs1⟩ := sm_pI_e hs
    rcases sm_ite_e hs1 with ⟨-, hs3⟩ | ⟨hn, hs3⟩
    · cases hs3
    obtain rfl : len = 3 := by simpa [sm_okA] using ha
    obtain ⟨C0, q0, q1, q2⟩ := hl
    have hn1 : ¬ n < 0 := fun q => hn (Or.inl q)
    have hn2 : ¬ 1000000 < n.toNatClampNeg := fun q => hn (Or.inr q)
    obtain ⟨hle, hg⟩ := hK _ _ _ _ hs3
    rw [q0] at hg hle
    generalize hce : (Sum.inl (FieldType.object C0, n.toNatClampNeg, Sum.inr (Sum.inr (Sum.inr (Sum.inr (fun _ => none))))) : smC) = ce at hle hg
    have hle1 : sm_le h (sm_n h ce n.toNatClampNeg) := sm_le.n
    intro H locs cells slots la hRel hS hL g1 g2
    obtain ⟨hf, g3, g4⟩ := sm_room (R := R) hle1 hle g1 g2 hCc hCs
    have e1 : (sm_n h ce n.toNatClampNeg).2.1 - h.2.1 = 1 := by show h.2.1 + 1 - h.2.1 = 1; omega
    have e2 : (sm_n h ce n.toNatClampNeg).2.2 - h.2.2 = n.toNatClampNeg := by show h.2.2 + n.toNatClampNeg - h.2.2 = _; omega
    rw [e1, e2] at hf
    rw [e1] at g3
    rw [e2] at g4
    refine W.anew hx hb hown (hts _ q1) ((hZ.2.2 _ q2).2.2 args s (hVC.2.1 _ q2)) rfl hd rfl hn1 (by omega) hf.1 hf.2 fun cA kA comp f1 f2 f3 f4 => ?_
    generalize hH1 : H.push ({ cls := cA, slots := Array.replicate n.toNatClampNeg .null, vm := .none } : Cell) = H1
    have z1 : H1.size = h.2.1 + 1 := by rw [← hH1, Array.size_push, hRel.1]
    have e1 : H1[h.2.1]? = some (arrV cA n.toNatClampNeg (fun _ => .null)) := by rw [← hH1, hRel.1, Array.getElem?_push_size, ← arrV_new]
    have o1 : ∀ q : Nat, q < h.2.1 → H1[q]? = H[q]? := fun q hq => by rw [← hH1, Array.getElem?_push, if_neg (by rw [← hRel.1]; exact Nat.ne_of_lt hq)]
    have hfin := hg H1 locs _ _ la (hRel.n z1 o1 (hA _ (by rw [hRel.1]; exact hS.1)) (by
      rw [← hce]
      exact ⟨cA, ⟨fun N z => ⟨(fun k h => by cases h), kA, f2, comp, f3⟩, kA, comp, f2, f3, f4, f1⟩, e1⟩)) (sm_new_S hS hRel.1 (by omega) o1) hL g3 g4
    rw [List.map_cons, show sm_v Y (.ref h.2.1) = .ref H.size from by rw [← hRel.1]; rfl] at hfin
    exact hfin
  · -- multianewarray
    rename_i idx dd
    obtain ⟨k, t0, rfl, hs1⟩ := sm_pI_e hs
    obtain ⟨n, t1, rfl, hs2⟩ := sm_pI_e hs1
    rcases sm_ite_e hs2 with ⟨-, hs3⟩ | ⟨hn, hs3⟩
    · cases hs3
    have ha' : len = 4 ∧ dd = 2 := by simpa [sm_okA] using ha
    obtain ⟨rfl, rfl⟩ := ha'
    obtain ⟨q0, q1, q2⟩ := hl
    obtain ⟨hle, hg⟩ := hK _ _ _ _ hs3
    have hn1 : ¬ n < 0 := fun q => hn (Or.inl (Or.inl q))
    have hn2 : ¬ 1000000 < n.toNatClampNeg := fun q => hn (Or.inl (Or.inr q))
    have hk1 : ¬ k < 0 := fun q => hn (Or.inr (Or.inl q))
    have hk2 : ¬ 1000000 < k.toNatClampNeg := fun q => hn (Or.inr (Or.inr q))
    have hle1 : sm_le h (sm_mn h n.toNatClampNeg k.toNatClampNeg) := sm_le.mn
    intro H locs cells slots la hRel hS hL g1 g2
    obtain ⟨hf, g3, g4⟩ := sm_room (R := R) hle1 hle g1 g2 hCc hCs
    have e1 : (sm_mn h n.toNatClampNeg k.toNatClampNeg).2.1 - h.2.1 = 1 + n.toNatClampNeg := by show h.2.1 + 1 + n.toNatClampNeg - h.2.1 = _; omega
    have e2 : (sm_mn h n.toNatClampNeg k.toNatClampNeg).2.2 - h.2.2 = n.toNatClampNeg + n.toNatClampNeg * k.toNatClampNeg := by show h.2.2 + (n.toNatClampNeg + n.toNatClampNeg * k.toNatClampNeg) - h.2.2 = _; omega
    rw [e1, e2] at hf
    rw [e1] at g3
    rw [e2] at g4
    have hnm : "[" ++ (FieldType.array .int).toString = "[[I" := by decide
    intro T hT Xs
    obtain ⟨vm₁, cA, comp, -, fA, fC, hO, hI, X', step⟩ := Stand.multianewarray2F Xs hx hown (ty := .int) (by rw [hnm]; exact hts _ q0) ((hZ.2.2 _ q1).2.2 args s (hVC.2.1 _ q1)) (hts _ q2) (g := F0 mid pc la (.int k :: .int n :: t1.map (sm_v Y))) rfl (by rw [hb]; exact hd) rfl hn1 hk1 (by omega) (by show k.toNatClampNeg * 4 ≤ _; omega) (by omega) rfl rfl hf.1 hf.2
    generalize hF : Jvm.Free.Multi.fill (T.setVm vm₁) cA comp n.toNatClampNeg k.toNatClampNeg (defaultValue .int) n.toNatClampNeg = F1 at X' step
    have hTh : (T.setVm vm₁).heap = H := hT
    obtain ⟨f1, f2, -, -⟩ := Jvm.Free.Multi.fill_facts (T.setVm vm₁) cA comp n.toNatClampNeg k.toNatClampNeg (defaultValue .int) n.toNatClampNeg
    rw [hF, hTh] at f1 f2
    have hold : ∀ q : Nat, q < H.size → F1.heap[q]? = H[q]? := fun q hq => by
      have h9 := Jvm.Free.Multi.fill_old (T.setVm vm₁) cA comp n.toNatClampNeg k.toNatClampNeg (defaultValue .int) (a := q) (by rw [hTh]; exact hq) n.toNatClampNeg
      rw [hF, hTh] at h9
      exact h9
    have hrow : ∀ j : Nat, j < n.toNatClampNeg → F1.heap[H.size + 1 + j]? = some (vp_cell comp (k.toNatClampNeg, .inl (fun _ => 0))) := fun j hj => by
      have h9 := Jvm.Free.Multi.fill_inner (T.setVm vm₁) cA comp n.toNatClampNeg k.toNatClampNeg (defaultValue .int) n.toNatClampNeg j hj
      rw [hF, hTh] at h9
      rw [h9, vp_cell_i, ← arrV_new]
      rfl
    rw [vr_outer] at f2
    have hrel1 : sm_Rel Z Y s (sm_mn h n.toNatClampNeg k.toNatClampNeg) F1.heap := by
      refine ⟨by rw [f1, ← hRel.1]; rfl, fun b e' he => ?_⟩
      have he' : (if b = h.2.1 then some (Sum.inl (FieldType.array .int, n.toNatClampNeg, Sum.inr (Sum.inr (Sum.inr (Sum.inr (fun i => if i < n.toNatClampNeg then some (h.2.1 + 1 + i) else none)))))) else if h.2.1 < b ∧ b ≤ h.2.1 + n.toNatClampNeg then some (Sum.inl (FieldType.int, k.toNatClampNeg, Sum.inl (fun _ => 0))) else h.1 b : Option smC) = some e' := he
      by_cases hb1 : b = h.2.1
      · rw [if_pos hb1] at he'
        cases he'
        rw [hb1]
        refine ⟨hA _ (by rw [hRel.1]; exact hS.1), cA, ⟨fun N9 z9 => ?_, fA⟩, ?_⟩
        · obtain ⟨-, k9, hk9, cm9, hkk9⟩ := (hO 0 0 0).1
          exact ⟨(fun q hq => by cases hq), k9, hk9, cm9, hkk9⟩
        · show F1.heap[h.2.1]? = some (vp_cell cA (n.toNatClampNeg, _))
          rw [vp_cell_q, hRel.1]
          exact f2
      · rw [if_neg hb1] at he'
        by_cases hb2 : h.2.1 < b ∧ b ≤ h.2.1 + n.toNatClampNeg
        · rw [if_pos hb2] at he'
          cases he'
          refine ⟨hA _ (by have := hS.1; have := hRel.1; omega), comp, ⟨fun N9 z9 => ?_, fC⟩, ?_⟩
          · obtain ⟨-, k9, hk9, cm9, hkk9⟩ := (hI 0 (.int 0)).1
            exact ⟨(fun q hq => by cases hq), k9, hk9, cm9, hkk9⟩
          · have h9 := hrow (b - h.2.1 - 1) (by omega)
            rw [← hRel.1, show h.2.1 + 1 + (b - h.2.1 - 1) = b by omega] at h9
            exact h9
        · rw [if_neg hb2] at he'
          have h2 := hRel.2 b e' he'
          exact ⟨h2.1, h2.2.kept (hold b h2.2.lt)⟩
    have hS1 : va_S Y.2.1 s.heap F1.heap locs := sm_new_S hS rfl (by rw [f1]; omega) hold
    have hfin := hg F1.heap locs _ _ la hrel1 hS1 hL g3 g4 F1 rfl (by rw [Nat.add_assoc] at X'; rw [Nat.add_assoc] at X'; exact X')
    rw [List.map_cons, show sm_v Y (.ref h.2.1) = .ref H.size from by rw [← hRel.1]; rfl] at hfin
    obtain ⟨t, a1, b1⟩ := hfin
    refine ⟨t, step t ?_, b1⟩
    rw [show T.heap.size = H.size by rw [hT]]
    exact a1
  · -- ldc
    rename_i idx
    obtain rfl : len = 2 := by simpa [sm_okA] using ha
    split at hs
    · intro H locs cells slots la hRel hS hL g1 g2
      exact lv_ldc hx hb hown (hts _ hl) hd ((hK _ _ _ _ hs).2 H locs cells slots la hRel hS hL g1 g2)
    · obtain ⟨tx, hl⟩ := hl
      obtain ⟨a, h1, h2⟩ := hVC.2.2 _ hl
      intro H locs cells slots la hRel hS hL g1 g2
      have hfin := (hK _ _ _ _ hs).2 H locs cells slots la hRel hS hL g1 g2
      rw [List.map_cons, show sm_v Y (.retAddr x) = .ref a from h1] at hfin
      exact va_ldcS hx hb hown h2 hd hfin
  · -- ldc2_w
    obtain rfl : len = 3 := by simpa [sm_okA] using ha
    intro H locs cells slots la hRel hS hL g1 g2
    exact lv_ldc2 hx hb hown (hts _ hl) hd ((hK _ _ _ _ hs).2 H locs cells slots la hRel hS hL g1 g2)
  · obtain ⟨a, r1, rfl, hs1⟩ := sm_pI_e hs
    obtain rfl : len = 1 := by simpa [sm_okA] using ha
    intro H locs cells slots la hRel hS hL g1 g2
    exact lv_i2c hx hb hd rfl ((hK _ _ _ _ hs1).2 H locs cells slots la hRel hS hL g1 g2)
  · obtain ⟨a, r1, rfl, hs1⟩ := sm_pJ_e hs
    obtain rfl : len = 1 := by simpa [sm_okA] using ha
    intro H locs cells slots la hRel hS hL g1 g2
    exact lv_l2i hx hb hd rfl ((hK _ _ _ _ hs1).2 H locs cells slots la hRel hS hL g1 g2)
  · obtain rfl : len = 1 := by simpa [sm_okA] using ha
    intro H locs cells slots la hRel hS hL g1 g2
    exact lv_lconst hx hb hd rfl ((hK _ _ _ _ hs).2 H locs cells slots la hRel hS hL g1 g2)
  · obtain ⟨b, r1, rfl, hs1⟩ := sm_pJ_e hs
    obtain ⟨a, r2, rfl, hs2⟩ := sm_pJ_e hs1
    rcases sm_ite_e hs2 with ⟨-, hs3⟩ | ⟨hne, hs3⟩
    · cases hs3
    obtain rfl : len = 1 := by simpa [sm_okA] using ha
    intro H locs cells slots la hRel hS hL g1 g2
    exact lv_ldiv hx hb hd hne ((hK _ _ _ _ hs3).2 H locs cells slots la hRel hS hL g1 g2)
  · obtain ⟨b, r1, rfl, hs1⟩ := sm_pJ_e hs
    obtain ⟨a, r2, rfl, hs2⟩ := sm_pJ_e hs1
    rcases sm_ite_e hs2 with ⟨-, hs3⟩ | ⟨hne, hs3⟩
    · cases hs3
    obtain rfl : len = 1 := by simpa [sm_okA] using ha
    intro H locs cells slots la hRel hS hL g1 g2
    exact lv_lrem hx hb hd hne ((hK _ _ _ _ hs3).2 H locs cells slots la hRel hS hL g1 g2)
  · obtain ⟨b, r1, rfl, hs1⟩ := sm_pJ_e hs
    obtain ⟨a, r2, rfl, hs2⟩ := sm_pJ_e hs1
    obtain rfl : len = 1 := by simpa [sm_okA] using ha
    intro H locs cells slots la hRel hS hL g1 g2
    exact lv_ladd hx hb hd ((hK _ _ _ _ hs2).2 H locs cells slots la hRel hS hL g1 g2)
  · obtain ⟨b, r1, rfl, hs1⟩ := sm_pJ_e hs
    obtain ⟨a, r2, rfl, hs2⟩ := sm_pJ_e hs1
    obtain rfl : len = 1 := by simpa [sm_okA] using ha
    intro H locs cells slots la hRel hS hL g1 g2
    exact lv_lmul hx hb hd ((hK _ _ _ _ hs2).2 H locs cells slots la hRel hS hL g1 g2)
  · obtain ⟨a, r1, rfl, hs1⟩ := sm_pI_e hs
    obtain rfl : len = 1 := by simpa [sm_okA] using ha
    intro H locs cells slots la hRel hS hL g1 g2
    exact lv_i2l hx hb hd rfl ((hK _ _ _ _ hs1).2 H locs cells slots la hRel hS hL g1 g2)
  · obtain ⟨b, r1, rfl, hs1⟩ := sm_pJ_e hs
    obtain ⟨a, r2, rfl, hs2⟩ := sm_pJ_e hs1
    obtain rfl : len = 1 := by simpa [sm_okA] using ha
    intro H locs cells slots la hRel hS hL g1 g2
    exact W.lcmp hx hb hd ((hK _ _ _ _ hs2).2 H locs cells slots la hRel hS hL g1 g2)
  · -- tableswitch
    rename_i d lo hi offs
    obtain ⟨a, r1, rfl, hs1⟩ := sm_pI_e hs
    have ha' : 0 ≤ (pc : Int) + d ∧ ∀ o ∈ offs.toList, 0 ≤ (pc : Int) + o := by
      unfold sm_okA at ha
      rw [Bool.and_eq_true, List.all_eq_true] at ha
      exact ⟨of_decide_eq_true ha.1, fun o ho => of_decide_eq_true (ha.2 o ho)⟩
    intro H locs cells slots la hRel hS hL g1 g2
    rcases sm_ite_e hs1 with ⟨hc, hs2⟩ | ⟨hc, hs2⟩
    · exact lv_tableOut hx hb hd hc (sm_tg_e ha'.1) ((hK _ _ _ _ hs2).2 H locs cells slots la hRel hS hL g1 g2)
    · obtain ⟨o, ho, hs3⟩ := sm_sw_e hs2
      exact lv_tableIn hx hb hd (fun q => hc (Or.inl q)) (fun q => hc (Or.inr q)) ho (sm_tg_e (ha'.2 o (Array.mem_toList_iff.mpr (Array.mem_of_getElem? ho)))) ((hK _ _ _ _ hs3).2 H locs cells slots la hRel hS hL g1 g2)
  · exact sm_g6 V hok hs
end SMG
end
section
section SMG
variable {Z : smZ} {P : smP} {X : smX} {Y : smY} {p : Program} {l : Launch} {e : Env} {R : Room} {s : State} {mid : MethodId} {args : Array Value} {below : List Frame} {meth : Method} {c : Code} {Q : State → Prop} {m : Nat} {r : Option Value × smH} {Cf Sf : Nat} {C : smCT} {K : smK}
set_option maxHeartbeats 4000000 in
theorem sm_g4 (V : sm_Gv Z P X Y p l e R s mid args below meth c Q m r Cf Sf C K) {i : Instr} {len x y z pc : Nat} {ls : smL} {st : List Value} {h : smH} (hok : sm_okI Z P m pc i len x y z) (hs : sm_s4 P C K i x y z pc ls st h = some r) : sm_G Z Y p l e R s mid args below meth c Q m r.2 Cf Sf pc ls st h := by
  obtain ⟨F, hK, hC, hret, hCc, hCs⟩ := id V
  obtain ⟨hx, hb, hml, hown, hts, hVC, hHC, hnm, hA, hZ, hRf, hRl⟩ := id F
  obtain ⟨hd, ha, hl⟩ := id hok
  unfold sm_s4 at hs
  split at hs
  · rename_i o
    have ha' : len = 3 ∧ 0 ≤ (pc : Int) + o := by simpa [sm_okA] using ha
    obtain ⟨rfl, ho⟩ := ha'
    intro H locs cells slots la hRel hS hL h1 h2
    exact lv_goto hx hb hd (sm_tg_e ho) ((hK _ _ _ _ hs).2 H locs cells slots la hRel hS hL h1 h2)
  · rename_i o
    have ha' : len = 3 ∧ 0 ≤ (pc : Int) + o := by simpa [sm_okA] using ha
    obtain ⟨rfl, ho⟩ := ha'
    obtain ⟨b, r1, rfl, hs1⟩ := sm_pI_e hs
    intro H locs cells slots la hRel hS hL h1 h2
    split at hs1
    · exact lv_if_eq hx hb hd (sm_tg_e ho) (fun hc => (hK _ _ _ _ ((if_pos hc).symm.trans hs1)).2 H locs cells slots la hRel hS hL h1 h2) (fun hc => (hK _ _ _ _ ((if_neg hc).symm.trans hs1)).2 H locs cells slots la hRel hS hL h1 h2)
    · exact lv_if_ne hx hb hd (sm_tg_e ho) (fun hc => (hK _ _ _ _ ((if_neg hc).symm.trans hs1)).2 H locs cells slots la hRel hS hL h1 h2) (fun hc => (hK _ _ _ _ ((if_pos hc).symm.trans hs1)).2 H locs cells slots la hRel hS hL h1 h2)
    · exact lv_if_lt hx hb hd (sm_tg_e ho) (fun hc => (hK _ _ _ _ ((if_pos hc).symm.trans hs1)).2 H locs cells slots la hRel hS hL h1 h2) (fun hc => (hK _ _ _ _ ((if_neg hc).symm.trans hs1)).2 H locs cells slots la hRel hS hL h1 h2)
    · exact lv_if_ge hx hb hd (sm_tg_e ho) (fun hc => (hK _ _ _ _ ((if_pos hc).symm.trans hs1)).2 H locs cells slots la hRel hS hL h1 h2) (fun hc => (hK _ _ _ _ ((if_neg hc).symm.trans hs1)).2 H locs cells slots la hRel hS hL h1 h2)
    · exact lv_if_gt hx hb hd (sm_tg_e ho) (fun hc => (hK _ _ _ _ ((if_pos hc).symm.trans hs1)).2 H locs cells slots la hRel hS hL h1 h2) (fun hc => (hK _ _ _ _ ((if_neg hc).symm.trans hs1)).2 H locs cells slots la hRel hS hL h1 h2)
    · exact lv_if_le hx hb hd (sm_tg_e ho) (fun hc => (hK _ _ _ _ ((if_pos hc).symm.trans hs1)).2 H locs cells slots la hRel hS hL h1 h2) (fun hc => (hK _ _ _ _ ((if_neg hc).symm.trans hs1)).2 H locs cells slots la hRel hS hL h1 h2)
  · rename_i o
    have ha' : len = 3 ∧ 0 ≤ (pc : Int) + o := by simpa [sm_okA] using ha
    obtain ⟨rfl, ho⟩ := ha'
    obtain ⟨b, r1, rfl, hs1⟩ := sm_pI_e hs
    obtain ⟨a, r2, rfl, hs2⟩ := sm_pI_e hs1
    intro H locs cells slots la hRel hS hL h1 h2
    split at hs2
    · exact lv_icmp_eq hx hb hd (sm_tg_e ho) (fun hc => (hK _ _ _ _ ((if_pos hc).symm.trans hs2)).2 H locs cells slots la hRel hS hL h1 h2) (fun hc => (hK _ _ _ _ ((if_neg hc).symm.trans hs2)).2 H locs cells slots la hRel hS hL h1 h2)
    · exact lv_icmp_ne hx hb hd (sm_tg_e ho) (fun hc => (hK _ _ _ _ ((if_neg hc).symm.trans hs2)).2 H locs cells slots la hRel hS hL h1 h2) (fun hc => (hK _ _ _ _ ((if_pos hc).symm.trans hs2)).2 H locs cells slots la hRel hS hL h1 h2)
    · exact lv_icmp_lt hx hb hd (sm_tg_e ho) (fun hc => (hK _ _ _ _ ((if_pos hc).symm.trans hs2)).2 H locs cells slots la hRel hS hL h1 h2) (fun hc => (hK _ _ _ _ ((if_neg hc).symm.trans hs2)).2 H locs cells slots la hRel hS hL h1 h2)
    · exact lv_icmp_ge hx hb hd (sm_tg_e ho) (fun hc => (hK _ _ _ _ ((if_pos hc).symm.trans hs2)).2 H locs cells slots la hRel hS hL h1 h2) (fun hc => (hK _ _ _ _ ((if_neg hc).symm.trans hs2)).2 H locs cells slots la hRel hS hL h1 h2)
    · exact lv_icmp_gt hx hb hd (sm_tg_e ho) (fun hc => (hK _ _ _ _ ((if_pos hc).symm.trans hs2)).2 H locs cells slots la hRel hS hL h1 h2) (fun hc => (hK _ _ _ _ ((if_neg hc).symm.trans hs2)).2 H locs cells slots la hRel hS hL h1 h2)
    · exact lv_icmp_le hx hb hd (sm_tg_e ho) (fun hc => (hK _ _ _ _ ((if_pos hc).symm.trans hs2)).2 H locs cells slots la hRel hS hL h1 h2) (fun hc => (hK _ _ _ _ ((if_neg hc).symm.trans hs2)).2 H locs cells slots la hRel hS hL h1 h2)
  · rename_i o
    have ha' : len = 3 ∧ 0 ≤ (pc : Int) + o := by simpa [sm_okA] using ha
    obtain ⟨rfl, ho⟩ := ha'
    intro H locs cells slots la hRel hS hL h1 h2
    split at hs
    · exact lv_ifnull hx hb hd ((hK _ _ _ _ hs).2 H locs cells slots la hRel hS hL h1 h2)
    · exact lv_ifnullN hx hb hd (sm_tg_e ho) ((hK _ _ _ _ hs).2 H locs cells slots la hRel hS hL h1 h2)
    · cases hs
  · rename_i o
    have ha' : len = 3 ∧ 0 ≤ (pc : Int) + o := by simpa [sm_okA] using ha
    obtain ⟨rfl, ho⟩ := ha'
    intro H locs cells slots la hRel hS hL h1 h2
    split at hs
    · exact lv_ifnonnull hx hb hd (sm_tg_e ho) ((hK _ _ _ _ hs).2 H locs cells slots la hRel hS hL h1 h2)
    · exact lv_ifnonnullN hx hb hd ((hK _ _ _ _ hs).2 H locs cells slots la hRel hS hL h1 h2)
    · cases hs
  · rename_i k n
    obtain ⟨v, hv, hs1⟩ := sm_gI_e hs
    have ha' : (len = 3 ∧ k < zmL Z m) ∧ Int32.ofInt n = sm_k x y := by simpa [sm_okA] using ha
    obtain ⟨⟨rfl, hk⟩, hn9⟩ := ha'
    intro H locs cells slots la hRel hS hL h1 h2
    obtain ⟨j, hj⟩ := List.getElem?_of_mem (List.mem_map.mpr ⟨(k, Value.int v), sm_lg_mem hv, rfl⟩ : (k, sm_v Y (.int v)) ∈ sm_ml Y ls)
    exact lv_iinc hx hb hd hL hj (by rw [hn9]) hk rfl (fun la hL => (hK _ _ _ _ hs1).2 H locs cells slots la hRel hS (sm_l1_has hHC.2.2.2 rfl hL) h1 h2)
  · exact sm_g5 V hok hs
end SMG
end
section
section SMG
variable {Z : smZ} {P : smP} {X : smX} {Y : smY} {p : Program} {l : Launch} {e : Env} {R : Room} {s : State} {mid : MethodId} {args : Array Value} {below : List Frame} {meth : Method} {c : Code} {Q : State → Prop} {m : Nat} {r : Option Value × smH} {Cf Sf : Nat} {C : smCT} {K : smK}
theorem sm_getL {q : vw_C} {idx y : Nat} {H : Heap} {locs : List Loc} {cells slots pc x a : Nat} {la : Array Slot} {rest : List Value} {v : Value} {fs : List Value} (F : sm_Fx Z P X Y p R s mid args meth c m) (hq : (zcl Z)[x]? = some q) (hy : y < q.2.2) (hlink : Cond.fieldLink (zow Z m) idx (q.2.1 y).1 (q.2.1 y).2.1 (q.2.1 y).2.2.1 ∈ zTB Z ∨ ∃ host, Cond.fieldLinkNest (zow Z m) idx (q.2.1 y).1 (q.2.1 y).2.1 (q.2.1 y).2.2.1 host ∈ zNW Z)
    (hcell : va_at Y.1 (zcl Z) (a, .inr (x, fs)) H) (hv : fs[y]? = some v) (hd : decode (zby Z m) pc = .ok (.getfield idx, 3)) (kk : W p l e R s mid args below meth c H locs cells slots Q (F0 mid (pc + 3) la (v :: rest))) : W p l e R s mid args below meth c H locs cells slots Q (F0 mid pc la (.ref a :: rest)) := by
  obtain ⟨hx, hb, hml, hown, hts, hVC, hHC, hnm, hA, hZ, hRf, hRl⟩ := id F
  obtain ⟨z1, -⟩ := hZ.1 x q hq
  rcases hlink with hlink | ⟨host, hlink⟩
  · exact va_get (D := Y.1) (C := q.1) (T := q.2.1) (N := q.2.2) (ci := x) hx hb hts z1 hown (sm_K0 hVC) (sm_one hcell) 0 rfl hq y hy (hts _ hlink) (fun _ h9 => h9) hv hd kk
  · exact va_getN (D := Y.1) (C := q.1) (T := q.2.1) (N := q.2.2) (ci := x) hx hb hts z1 hown (sm_K0 hVC) (sm_one hcell) 0 rfl hq y hy ((hZ.2.2 _ hlink).2.2 args s (hVC.2.1 _ hlink)) (fun _ h9 => h9) hv hd kk
/-- a field's store -/
theorem sm_putL {idx x y z : Nat} {H : Heap} {locs : List Loc} {cells slots pc a : Nat} {la : Array Slot} {rest : List Value} {v : Value} {fs : List Value} {h : smH} (F : sm_Fx Z P X Y p R s mid args meth c m) (hok : sm_okP Z P (zow Z m) (znm Z m).name idx x y z)
    (hv : ∀ ty, sm_pTy P x y z ty → narrow ty v = v ∧ fits ty v = true)
    (hRel : sm_Rel Z Y s h H) (hS : va_S Y.2.1 s.heap H locs) (hh : h.1 a = some (.inr (x, fs))) (hlen : y < fs.length) (hd : decode (zby Z m) pc = .ok (.putfield idx, 3))
    (kk : ∀ (H1 : Heap) (locs1 : List Loc), sm_Rel Z Y s (sm_w h a (.inr (x, fs.set y v))) H1 → va_S Y.2.1 s.heap H1 locs1 → W p l e R s mid args below meth c H1 locs1 cells slots Q (F0 mid (pc + 3) la rest)) : W p l e R s mid args below meth c H locs cells slots Q (F0 mid pc la (v :: .ref a :: rest)) := by
  obtain ⟨hx, hb, hml, hown, hts, hVC, hHC, hnm, hA, hZ, hRf, hRl⟩ := id F
  obtain ⟨q, hq, hy, ⟨ty, hty, htyz⟩, hlink⟩ := hok
  obtain ⟨hn, hfit⟩ := hv ty htyz
  obtain ⟨z1, ⟨ty0, z2, -⟩, -, z5, -⟩ := hZ.1 x q hq
  have hap := va_apart (own := zow Z m) (C := q.1) (T := q.2.1) (N := q.2.2) (ci := x) hts z1 ty0 z2 z5 (sm_K0 hVC) hq
  obtain ⟨ha, q', h1, cell, c1, c2, c3, c4⟩ := hRel.2 a _ hh
  obtain rfl : q' = q := Option.some.inj (h1.symm.trans hq)
  obtain ⟨hSl, hfc, kC, hkC, hkind⟩ := hVC.1 x _ hq
  obtain ⟨cf, kf, fi, f, hi, hsl⟩ := hSl y hy
  have hst := (u_facts hfc hkC (u_lays hts z1 hy) hi).1
  have fin : ∀ H1 : Heap, H1[a]? = some (cell.setSlot f.slot v) → H1.size = H.size → (∀ q : Nat, q ≠ a → H1[q]? = H[q]?) → W p l e R s mid args below meth c H1 (locs ++ [⟨a, f.slot⟩]) cells slots Q (F0 mid (pc + 3) la rest) := fun H1 e1 e2 e3 => by
    rw [hsl] at e1 ⊢
    exact kk H1 _ (hRel.w e2 e3 ha ⟨_, hq, t_OB.to (V := updV (vp_V fs) y v) ⟨_, e1, c2, c3, t_set c4 hap hy v⟩ (fun j _ => vp_updV_set hlen v j)⟩) (hS.put e2 e3 ha)
  rcases hlink with ⟨hf0, hlink⟩ | ⟨hf1, hnmI, hdecl, hlink⟩
  · have hlay := hts _ (z1 _ (u_in_lay hy))
    unfold u_lay at hlay
    rw [if_neg (by rw [hf0]; decide)] at hlay
    have h6 := u_store hfc hkC hkind hlay hi hty hn hfit
    rcases hlink with hlink | ⟨host, hlink⟩
    · exact W.putK hx hb (f := f) ⟨hown, hts _ hlink, ⟨_, _, _, hi⟩, hst⟩ (by rw [c2]; exact h6) c1 c3 (by rw [hsl]; exact k2_hasslot (c4 y hy)) rfl rfl hd fin
    · exact va_WputK hx hb (f := f) hown ((hZ.2.2 _ hlink).2.2 args s (hVC.2.1 _ hlink)) hi hst (by rw [c2]; exact h6) c1 c3 (by rw [hsl]; exact k2_hasslot (c4 y hy)) rfl rfl hd fin
  · have hcf : mid.cls = cf := by
      have hlay := hts _ (z1 _ (u_in_lay hy))
      unfold u_lay at hlay
      rw [if_pos hf1] at hlay
      obtain ⟨_, _, c', _, _, _, -, -, hf', -, -, -, hown2, -⟩ := Cond.laysFinal_spec hlay
      have e1 : cf = c' := congrArg (fun z => z.1) (Option.some.inj (hi.symm.trans hf'))
      rw [hdecl] at hown2
      rw [e1]
      exact Option.some.inj (hown.symm.trans hown2)
    exact W.putFinK hx hb hown (hts _ hlink) hi hst hcf (by rw [hnm]; exact hnmI) (by rw [c2]; exact u_fits hfc hkC hkind (u_lays hts z1 hy) hi hty hn hfit) c1 c3 (by rw [hsl]; exact k2_hasslot (c4 y hy)) rfl rfl hd fin
theorem sm_ldJ_e {o : Option (FieldType × vp_A)} {i : Int32} {κ : Int64 → smR} {r : Option Value × smH} (e : sm_ldJ o i κ = some r) : ∃ n f, o = some (.long, n, .inr (.inl f)) ∧ vp_in i n ∧ κ (f i.toNatClampNeg) = some r := by
  unfold sm_ldJ at e; split at e
  · rename_i t n f
    rcases sm_ite_e e with ⟨h1, e1⟩ | ⟨-, e1⟩
    · rcases sm_ite_e e1 with ⟨-, e2⟩ | ⟨h2, e2⟩
      · cases e2
      · exact ⟨n, f, by rw [h1], h2, e2⟩
    · cases e1
  · cases e
theorem sm_stJ_e {h : smH} {a : Nat} {i : Int32} {x : Int64} {κ : smH → smR} {r : Option Value × smH} (e : sm_stJ h a i x κ = some r) : ∃ n f, h.1 a = some (.inl (.long, n, .inr (.inl f))) ∧ vp_in i n ∧ κ (sm_w h a (.inl (.long, n, .inr (.inl (fun j => if j = i.toNatClampNeg then x else f j))))) = some r := by
  unfold sm_stJ at e; split at e
  · rename_i t n f hh
    rcases sm_ite_e e with ⟨h1, e1⟩ | ⟨-, e1⟩
    · rcases sm_ite_e e1 with ⟨-, e2⟩ | ⟨h2, e2⟩
      · cases e2
      · exact ⟨n, f, by rw [hh, h1], h2, e2⟩
    · cases e1
  · cases e
set_option maxHeartbeats 4000000 in
theorem sm_g3 (V : sm_Gv Z P X Y p l e R s mid args below meth c Q m r Cf Sf C K) {i : Instr} {len x y z pc : Nat} {ls : smL} {st : List Value} {h : smH} (hok : sm_okI Z P m pc i len x y z) (hs : sm_s3 P X C K i x y z pc ls st h = some r) : sm_G Z Y p l e R s mid args below meth c Q m r.2 Cf Sf pc ls st h := by
  obtain ⟨F, hK, hC, hret, hCc, hCs⟩ := id V
  obtain ⟨hx, hb, hml, hown, hts, hVC, hHC, hnm, hA, hZ, hRf, hRl⟩ := id F
  obtain ⟨hd, ha, hl⟩ := id hok
  unfold sm_s3 at hs
  split at hs
  · -- getfield
    rename_i idx
    obtain rfl : len = 3 := by simpa [sm_okA] using ha
    split at hs
    · obtain ⟨a, t, rfl, hs1⟩ := sm_pR_e hs
      obtain ⟨v, hv, hs2⟩ := sm_gI_e hs1
      obtain ⟨fs, hh, hf⟩ := sm_f_e hv
      obtain ⟨q, hq, hy, hlink⟩ := hl
      intro H locs cells slots la hRel hS hL g1 g2
      exact sm_getL F hq hy hlink (hRel.2 a _ hh).2 hf hd ((hK _ _ _ _ hs2).2 H locs cells slots la hRel hS hL g1 g2)
    · obtain ⟨a, t, rfl, hs1⟩ := sm_pR_e hs
      obtain ⟨v, hv, hs2⟩ := sm_gR_e hs1
      obtain ⟨fs, hh, hf⟩ := sm_f_e hv
      obtain ⟨q, hq, hy, hlink⟩ := hl
      intro H locs cells slots la hRel hS hL g1 g2
      exact sm_getL F hq hy hlink (hRel.2 a _ hh).2 hf hd ((hK _ _ _ _ hs2).2 H locs cells slots la hRel hS hL g1 g2)
    · obtain ⟨tg, t, rfl, hs1⟩ := sm_pT_e hs
      obtain ⟨hlt, hs2⟩ := sm_bif_e hs1
      obtain ⟨a0, b0, q1, q2, q3, q4, q5⟩ := hHC.2.1 tg (by unfold Nat.blt at hlt; exact Nat.le_of_ble_eq_true hlt)
      intro H locs cells slots la hRel hS hL g1 g2
      have hfin := (hK _ _ _ _ hs2).2 H locs cells slots la hRel hS hL g1 g2
      rw [List.map_cons, show sm_v Y (.retAddr (tg + 16)) = .ref b0 from q2] at hfin
      rw [List.map_cons, show sm_v Y (.retAddr tg) = .ref a0 from q1]
      exact vk_getf hx hb q5 hS hown (hts _ hl) (fun _ h9 => h9) hd hfin
    · rename_i hz0 hz1 hz2
      obtain ⟨tg, t, rfl, hs1⟩ := sm_pT_e hs
      obtain ⟨hlt, hs2⟩ := sm_bif_e hs1
      obtain ⟨a0, b0, q1, q2, q3, q4, q5⟩ := hHC.2.1 tg (by unfold Nat.blt at hlt; exact Nat.le_of_ble_eq_true hlt)
      intro H locs cells slots la hRel hS hL g1 g2
      have hfin := (hK _ _ _ _ hs2).2 H locs cells slots la hRel hS hL g1 g2
      rw [List.map_cons, show sm_v Y (.retAddr tg) = .ref a0 from q1]
      have hl' := sm_okF3 hz0 hz1 hz2 hl
      exact vk_getf hx hb q4 hS hown (hts _ hl') (fun _ h9 => h9) hd hfin
  · -- putfield
    rename_i idx
    obtain rfl : len = 3 := by simpa [sm_okA] using ha
    split at hs
    · obtain ⟨v, t1, rfl, hs1⟩ := sm_pI_e hs
      obtain ⟨a, t, rfl, hs2⟩ := sm_pR_e hs1
      obtain ⟨fs, hh, hlen, hs3⟩ := sm_fP_e hs2
      intro H locs cells slots la hRel hS hL g1 g2
      exact sm_putL (z := 0) F hl (fun ty h9 => by rw [show ty = .int from h9]; exact ⟨rfl, rfl⟩) hRel hS hh hlen hd (fun H1 locs1 hR1 hS1 => (hK _ _ _ _ hs3).2 H1 locs1 cells slots la hR1 hS1 hL g1 g2)
    · obtain ⟨v, t1, rfl, hs1⟩ := sm_pR_e hs
      obtain ⟨a, t, rfl, hs2⟩ := sm_pR_e hs1
      obtain ⟨fs, hh, hlen, hs3⟩ := sm_fP_e hs2
      intro H locs cells slots la hRel hS hL g1 g2
      exact sm_putL (z := 1) F hl (fun ty h9 => by rcases h9 with ⟨n, rfl⟩ | ⟨t, rfl⟩ <;> exact ⟨rfl, rfl⟩) hRel hS hh hlen hd (fun H1 locs1 hR1 hS1 => (hK _ _ _ _ hs3).2 H1 locs1 cells slots la hR1 hS1 hL g1 g2)
    · rename_i hz0 hz1
      obtain ⟨v, t1, rfl, hs1⟩ := sm_pI_e hs
      obtain ⟨a, t, rfl, hs2⟩ := sm_pR_e hs1
      rcases sm_ite_e hs2 with ⟨hc, hs4⟩ | ⟨-, hs4⟩
      · obtain ⟨fs, hh, hlen, hs3⟩ := sm_fP_e hs4
        intro H locs cells slots la hRel hS hL g1 g2
        exact sm_putL F hl (fun ty h9 => by rw [sm_pTy2 hz0 hz1 h9]; exact hc) hRel hS hh hlen hd (fun H1 locs1 hR1 hS1 => (hK _ _ _ _ hs3).2 H1 locs1 cells slots la hR1 hS1 hL g1 g2)
      · cases hs4
  · -- iaload
    obtain rfl : len = 1 := by simpa [sm_okA] using ha
    obtain ⟨i, t1, rfl, hs1⟩ := sm_pI_e hs
    obtain ⟨a, t, rfl, hs2⟩ := sm_pV_e hs1
    obtain ⟨n, f, hh, hin, hs3⟩ := sm_ld_e hs2
    intro H locs cells slots la hRel hS hL g1 g2
    have hfin := (hK _ _ _ _ hs3).2 H locs cells slots la hRel hS hL g1 g2
    rcases sm_ar_e hh with ⟨b, rfl, hh2⟩ | ⟨tg, rfl, hh2⟩
    · obtain ⟨-, cA, hcA, hcell⟩ := hRel.2 b _ hh2
      exact va_iald (D := Y.1) (cl := zcl Z) (tys := [(cA, .int)]) (ws := [(b, .inl (cA, n, .inl f))]) hx hb (sm_K1 hVC hcA) (sm_one hcell) 0 0 rfl rfl hin hd hfin
    · obtain ⟨b, q1, q2⟩ := hHC.2.2.1 tg _ _ _ hh2
      rw [List.map_cons, List.map_cons, show sm_v Y (.retAddr tg) = .ref b from q1]
      exact va_ti hx hb q2 hS hin rfl hd hfin
  · -- caload
    obtain rfl : len = 1 := by simpa [sm_okA] using ha
    obtain ⟨i, t1, rfl, hs1⟩ := sm_pI_e hs
    obtain ⟨a, t, rfl, hs2⟩ := sm_pV_e hs1
    obtain ⟨n, f, hh, hin, hs3⟩ := sm_ld_e hs2
    intro H locs cells slots la hRel hS hL g1 g2
    have hfin := (hK _ _ _ _ hs3).2 H locs cells slots la hRel hS hL g1 g2
    rcases sm_ar_e hh with ⟨b, rfl, hh2⟩ | ⟨tg, rfl, hh2⟩
    · obtain ⟨-, cA, hcA, hcell⟩ := hRel.2 b _ hh2
      exact va_cald (D := Y.1) (cl := zcl Z) (tys := [(cA, .char)]) (ws := [(b, .inl (cA, n, .inl f))]) hx hb (sm_K1 hVC hcA) (sm_one hcell) 0 0 rfl rfl hin hd hfin
    · obtain ⟨b, q1, q2⟩ := hHC.2.2.1 tg _ _ _ hh2
      rw [List.map_cons, List.map_cons, show sm_v Y (.retAddr tg) = .ref b from q1]
      exact va_tc hx hb q2 hS hin rfl hd hfin
  · -- baload
    obtain rfl : len = 1 := by simpa [sm_okA] using ha
    split at hs
    · obtain ⟨i, t1, rfl, hs1⟩ := sm_pI_e hs
      obtain ⟨a, t, rfl, hs2⟩ := sm_pV_e hs1
      obtain ⟨n, f, hh, hin, hs3⟩ := sm_ld_e hs2
      intro H locs cells slots la hRel hS hL g1 g2
      have hfin := (hK _ _ _ _ hs3).2 H locs cells slots la hRel hS hL g1 g2
      rcases sm_ar_e hh with ⟨b, rfl, hh2⟩ | ⟨tg, rfl, hh2⟩
      · obtain ⟨-, cA, hcA, hcell⟩ := hRel.2 b _ hh2
        exact va_zald (D := Y.1) (cl := zcl Z) (tys := [(cA, .boolean)]) (ws := [(b, .inl (cA, n, .inl f))]) hx hb (sm_K1 hVC hcA) (sm_one hcell) 0 0 rfl rfl hin hd hfin
      · obtain ⟨b, q1, q2⟩ := hHC.2.2.1 tg _ _ _ hh2
        rw [List.map_cons, List.map_cons, show sm_v Y (.retAddr tg) = .ref b from q1]
        exact va_tz hx hb q2 hS hin rfl hd hfin
    · obtain ⟨i, t1, rfl, hs1⟩ := sm_pI_e hs
      obtain ⟨a, t, rfl, hs2⟩ := sm_pV_e hs1
      obtain ⟨n, f, hh, hin, hs3⟩ := sm_ld_e hs2
      intro H locs cells slots la hRel hS hL g1 g2
      have hfin := (hK _ _ _ _ hs3).2 H locs cells slots la hRel hS hL g1 g2
      rcases sm_ar_e hh with ⟨b, rfl, hh2⟩ | ⟨tg, rfl, hh2⟩
      · obtain ⟨-, cA, hcA, hcell⟩ := hRel.2 b _ hh2
        exact va_bald (D := Y.1) (cl := zcl Z) (tys := [(cA, .byte)]) (ws := [(b, .inl (cA, n, .inl f))]) hx hb (sm_K1 hVC hcA) (sm_one hcell) 0 0 rfl rfl hin hd hfin
      · obtain ⟨b, q1, q2⟩ := hHC.2.2.1 tg _ _ _ hh2
        rw [List.map_cons, List.map_cons, show sm_v Y (.retAddr tg) = .ref b from q1]
        exact va_tb hx hb q2 hS hin rfl hd hfin
  · -- aaload
    obtain rfl : len = 1 := by simpa [sm_okA] using ha
    obtain ⟨i, t1, rfl, hs1⟩ := sm_pI_e hs
    obtain ⟨a, t, rfl, hs2⟩ := sm_pR_e hs1
    obtain ⟨ty, n, f, b, hh, hty, hin, hf, hs3⟩ := sm_ldR_e hs2
    intro H locs cells slots la hRel hS hL g1 g2
    have hfin := (hK _ _ _ _ hs3).2 H locs cells slots la hRel hS hL g1 g2
    obtain ⟨-, cA, hcA, hcell⟩ := hRel.2 a _ (sm_ar_ref hh)
    have hlt : i.toNatClampNeg < n := Nat.not_le.mp fun q => hin (Or.inr q)
    exact W.aald (v := .ref b) (ty := ty) hx hb hcell (hcA.1 n (fun j => va_rf (f j))) hty (fun q => by cases q) (by show ¬ (i < 0 ∨ (arrV _ _ _).slots.size ≤ _); rw [arrV_size]; exact hin) (by show (arrV _ _ _).slots[_]? = _; rw [arrV_read _ _ hlt, hf]; rfl) rfl rfl hd hfin
  · -- iastore
    obtain rfl : len = 1 := by simpa [sm_okA] using ha
    obtain ⟨v, t2, rfl, hs0⟩ := sm_pI_e hs
    obtain ⟨i, t1, rfl, hs1⟩ := sm_pI_e hs0
    obtain ⟨a, t, rfl, hs2⟩ := sm_pR_e hs1
    obtain ⟨n, f, hh, hin, hs3⟩ := sm_st_e hs2
    intro H locs cells slots la hRel hS hL g1 g2
    obtain ⟨hAa, cA, hcA, hcell⟩ := hRel.2 a _ hh
    refine W.iast hx hb hcell (hcA.1 n (fun j => .int (f j))) (fun q => by cases q) (by show ¬ (i < 0 ∨ (arrV _ _ _).slots.size ≤ _); rw [arrV_size]; exact hin) rfl rfl hd fun H1 e1 z1 o1 => ?_
    refine (hK _ _ _ _ hs3).2 H1 _ cells slots la (hRel.w z1 o1 hAa ⟨cA, hcA, ?_⟩) (hS.put z1 o1 hAa) hL g1 g2
    rw [e1]
    rw [vp_cell_i, vp_cell_i, arrV_store]
    congr 2
    funext q
    by_cases hq : q = i.toNatClampNeg
    · subst hq
      simp [updV, upd]
      try rfl
    · simp [updV, upd, hq]
  · -- castore
    obtain rfl : len = 1 := by simpa [sm_okA] using ha
    obtain ⟨v, t2, rfl, hs0⟩ := sm_pI_e hs
    obtain ⟨i, t1, rfl, hs1⟩ := sm_pI_e hs0
    obtain ⟨a, t, rfl, hs2⟩ := sm_pR_e hs1
    obtain ⟨n, f, hh, hin, hs3⟩ := sm_st_e hs2
    intro H locs cells slots la hRel hS hL g1 g2
    obtain ⟨hAa, cA, hcA, hcell⟩ := hRel.2 a _ hh
    refine W.cast hx hb hcell (hcA.1 n (fun j => .int (f j))) (fun q => by cases q) (by show ¬ (i < 0 ∨ (arrV _ _ _).slots.size ≤ _); rw [arrV_size]; exact hin) rfl rfl hd fun H1 e1 z1 o1 => ?_
    refine (hK _ _ _ _ hs3).2 H1 _ cells slots la (hRel.w z1 o1 hAa ⟨cA, hcA, ?_⟩) (hS.put z1 o1 hAa) hL g1 g2
    rw [e1]
    rw [vp_cell_i, vp_cell_i, arrV_store]
    congr 2
    funext q
    by_cases hq : q = i.toNatClampNeg
    · subst hq
      simp [updV, upd, vp_nar]
      try rfl
    · simp [updV, upd, hq]
  · -- bastore
    obtain rfl : len = 1 := by simpa [sm_okA] using ha
    obtain ⟨v, t2, rfl, hs0⟩ := sm_pI_e hs
    obtain ⟨i, t1, rfl, hs1⟩ := sm_pI_e hs0
    obtain ⟨a, t, rfl, hs2⟩ := sm_pR_e hs1
    obtain ⟨n, f, hh, hin, hs3⟩ := sm_st_e hs2
    intro H locs cells slots la hRel hS hL g1 g2
    obtain ⟨hAa, cA, hcA, hcell⟩ := hRel.2 a _ hh
    refine W.zast hx hb hcell (hcA.1 n (fun j => .int (f j))) (fun q => by cases q) (by show ¬ (i < 0 ∨ (arrV _ _ _).slots.size ≤ _); rw [arrV_size]; exact hin) rfl rfl hd fun H1 e1 z1 o1 => ?_
    refine (hK _ _ _ _ hs3).2 H1 _ cells slots la (hRel.w z1 o1 hAa ⟨cA, hcA, ?_⟩) (hS.put z1 o1 hAa) hL g1 g2
    rw [e1]
    rw [vp_cell_i, vp_cell_i, arrV_store]
    congr 2
    funext q
    by_cases hq : q = i.toNatClampNeg
    · subst hq
      simp [updV, upd, vp_nar]
      try rfl
    · simp [updV, upd, hq]
  · -- laload
    obtain rfl : len = 1 := by simpa [sm_okA] using ha
    obtain ⟨i, t1, rfl, hs1⟩ := sm_pI_e hs
    obtain ⟨a, t, rfl, hs2⟩ := sm_pR_e hs1
    obtain ⟨n, f, hh, hin, hs3⟩ := sm_ldJ_e hs2
    intro H locs cells slots la hRel hS hL g1 g2
    have hfin := (hK _ _ _ _ hs3).2 H locs cells slots la hRel hS hL g1 g2
    obtain ⟨-, cA, hcA, hcell⟩ := hRel.2 a _ (sm_ar_ref hh)
    exact va_lald (D := Y.1) (cl := zcl Z) (tys := [(cA, .long)]) (ws := [(a, .inl (cA, n, .inr (.inl f)))]) hx hb (sm_K1 hVC hcA) (sm_one hcell) 0 0 rfl rfl hin hd hfin
  · -- lastore
    obtain rfl : len = 1 := by simpa [sm_okA] using ha
    obtain ⟨v, t2, rfl, hs0⟩ := sm_pJ_e hs
    obtain ⟨i, t1, rfl, hs1⟩ := sm_pI_e hs0
    obtain ⟨a, t, rfl, hs2⟩ := sm_pR_e hs1
    obtain ⟨n, f, hh, hin, hs3⟩ := sm_stJ_e hs2
    intro H locs cells slots la hRel hS hL g1 g2
    obtain ⟨hAa, cA, hcA, hcell⟩ := hRel.2 a _ hh
    refine W.last hx hb hcell (hcA.1 n (fun j => .long (f j))) (fun q => by cases q) (by show ¬ (i < 0 ∨ (arrV _ _ _).slots.size ≤ _); rw [arrV_size]; exact hin) rfl rfl hd fun H1 e1 z1 o1 => ?_
    refine (hK _ _ _ _ hs3).2 H1 _ cells slots la (hRel.w z1 o1 hAa ⟨cA, hcA, ?_⟩) (hS.put z1 o1 hAa) hL g1 g2
    rw [e1]
    rw [vp_cell_l, vp_cell_l, arrV_store]
    congr 2
    funext q
    by_cases hq : q = i.toNatClampNeg
    · subst hq
      simp [updV]
      try rfl
    · simp [updV, hq]
  · -- aastore
    obtain rfl : len = 1 := by simpa [sm_okA] using ha
    obtain ⟨v, t2, rfl, hs0⟩ := sm_pR_e hs
    obtain ⟨i, t1, rfl, hs1⟩ := sm_pI_e hs0
    obtain ⟨a, t, rfl, hs2⟩ := sm_pR_e hs1
    obtain ⟨ty, n, f, ci, vs, hh, hhv, hty, hin, hs3⟩ := sm_stR_e hs2
    intro H locs cells slots la hRel hS hL g1 g2
    obtain ⟨hAa, cA, hcA, hcell⟩ := hRel.2 a _ hh
    obtain ⟨hAv, q, hq, cellV, c1, c2, c3, -⟩ := hRel.2 v _ hhv
    have hlt : i.toNatClampNeg < n := Nat.not_le.mp fun q => hin (Or.inr q)
    have h0 : ¬ i < 0 := fun q => hin (Or.inl q)
    have hcls := (hVC.1 ci q hq).2
    obtain ⟨-, -, -, -, hro⟩ := hZ.1 ci q hq
    rw [hro] at hty
    subst hty
    obtain ⟨hAr, kA, comp, k1, k2, k3, k4⟩ := hcA
    have hcomp : comp = Y.1.1 ci := Option.some.inj (k3.symm.trans hcls.1)
    subst hcomp
    obtain ⟨kC, hkC, hkk⟩ := id hcls.2
    refine W.aast hx hb hcell (fun q h => by cases h) (fun h => by cases h) k1 k2 rfl hkC ⟨h0, by show _ < (arrV _ _ _).slots.size; rw [arrV_size]; exact hlt⟩ c1 (fun q h => by rw [c3] at h; cases h) (by rw [c2]; exact hkC) (by rw [c2]; exact va_assign hcls) rfl rfl hd fun H1 e1 z1 o1 => ?_
    refine (hK _ _ _ _ hs3).2 H1 _ cells slots la (hRel.w z1 o1 hAa ⟨cA, ⟨hAr, kA, _, k1, k2, k3, k4⟩, ?_⟩) (hS.put z1 o1 hAa) hL g1 g2
    rw [e1]
    rw [vp_cell_q, vp_cell_q, arrV_store]
    congr 2
    funext q
    by_cases hq : q = i.toNatClampNeg
    · subst hq
      simp [updV, va_up, va_rf]
    · simp [updV, va_up, hq]
  · -- arraylength
    obtain rfl : len = 1 := by simpa [sm_okA] using ha
    obtain ⟨a, t, rfl, hs1⟩ := sm_pV_e hs
    obtain ⟨ty, n, g0, hh, hs2⟩ := sm_al_e hs1
    intro H locs cells slots la hRel hS hL g1 g2
    have hfin := (hK _ _ _ _ hs2).2 H locs cells slots la hRel hS hL g1 g2
    rcases sm_ar_e hh with ⟨b, rfl, hh2⟩ | ⟨tg, rfl, hh2⟩
    · obtain ⟨-, cA, hcA, hcell⟩ := hRel.2 b _ hh2
      exact va_alen (D := Y.1) (cl := zcl Z) (tys := [(cA, ty)]) (ws := [(b, .inl (cA, n, g0))]) hx hb (sm_K1 hVC hcA) (sm_one hcell) 0 0 rfl (ty := ty) rfl rfl hd hfin
    · obtain ⟨ty', n', f', he⟩ := sm_oA_i hh2
      cases he
      obtain ⟨b, q1, q2⟩ := hHC.2.2.1 tg _ _ _ hh2
      rw [List.map_cons, show sm_v Y (.retAddr tg) = .ref b from q1]
      exact va_tlen hx hb q2 hS rfl hd hfin
  · exact sm_g4 V hok hs
end SMG
end
section
section SMG
variable {Z : smZ} {P : smP} {X : smX} {Y : smY} {p : Program} {l : Launch} {e : Env} {R : Room} {s : State} {mid : MethodId} {args : Array Value} {below : List Frame} {meth : Method} {c : Code} {Q : State → Prop} {m : Nat} {r : Option Value × smH} {Cf Sf : Nat} {C : smCT} {K : smK}
set_option maxHeartbeats 4000000 in
theorem sm_g2 (V : sm_Gv Z P X Y p l e R s mid args below meth c Q m r Cf Sf C K) {i : Instr} {len x y z pc : Nat} {ls : smL} {st : List Value} {h : smH} (hok : sm_okI Z P m pc i len x y z) (hs : sm_s2 P X C K i x y z pc ls st h = some r) : sm_G Z Y p l e R s mid args below meth c Q m r.2 Cf Sf pc ls st h := by
  obtain ⟨F, hK, hC, hret, hCc, hCs⟩ := id V
  obtain ⟨hx, hb, hml, hown, hts, hVC, hHC, hnm, hA, hZ, hRf, hRl⟩ := id F
  obtain ⟨hd, ha, hl⟩ := id hok
  unfold sm_s2 at hs
  split at hs
  · obtain ⟨b, r1, rfl, hs1⟩ := sm_pI_e hs
    obtain ⟨a, r2, rfl, hs2⟩ := sm_pI_e hs1
    obtain rfl : len = 1 := by simpa [sm_okA] using ha
    intro H locs cells slots la hRel hS hL h1 h2
    exact lv_iadd hx hb hd ((hK _ _ _ _ hs2).2 H locs cells slots la hRel hS hL h1 h2)
  · obtain ⟨b, r1, rfl, hs1⟩ := sm_pI_e hs
    obtain ⟨a, r2, rfl, hs2⟩ := sm_pI_e hs1
    obtain rfl : len = 1 := by simpa [sm_okA] using ha
    intro H locs cells slots la hRel hS hL h1 h2
    exact lv_isub hx hb hd ((hK _ _ _ _ hs2).2 H locs cells slots la hRel hS hL h1 h2)
  · obtain ⟨b, r1, rfl, hs1⟩ := sm_pI_e hs
    obtain ⟨a, r2, rfl, hs2⟩ := sm_pI_e hs1
    obtain rfl : len = 1 := by simpa [sm_okA] using ha
    intro H locs cells slots la hRel hS hL h1 h2
    exact lv_imul hx hb hd ((hK _ _ _ _ hs2).2 H locs cells slots la hRel hS hL h1 h2)
  · obtain ⟨b, r1, rfl, hs1⟩ := sm_pI_e hs
    obtain ⟨a, r2, rfl, hs2⟩ := sm_pI_e hs1
    obtain rfl : len = 1 := by simpa [sm_okA] using ha
    intro H locs cells slots la hRel hS hL h1 h2
    exact lv_iand hx hb hd ((hK _ _ _ _ hs2).2 H locs cells slots la hRel hS hL h1 h2)
  · obtain ⟨b, r1, rfl, hs1⟩ := sm_pI_e hs
    obtain ⟨a, r2, rfl, hs2⟩ := sm_pI_e hs1
    obtain rfl : len = 1 := by simpa [sm_okA] using ha
    intro H locs cells slots la hRel hS hL h1 h2
    exact lv_ishr hx hb hd ((hK _ _ _ _ hs2).2 H locs cells slots la hRel hS hL h1 h2)
  · obtain ⟨b, r1, rfl, hs1⟩ := sm_pI_e hs
    obtain ⟨a, r2, rfl, hs2⟩ := sm_pI_e hs1
    obtain rfl : len = 1 := by simpa [sm_okA] using ha
    intro H locs cells slots la hRel hS hL h1 h2
    exact lv_ixor hx hb hd ((hK _ _ _ _ hs2).2 H locs cells slots la hRel hS hL h1 h2)
  · obtain ⟨b, r1, rfl, hs1⟩ := sm_pI_e hs
    obtain ⟨a, r2, rfl, hs2⟩ := sm_pI_e hs1
    obtain rfl : len = 1 := by simpa [sm_okA] using ha
    intro H locs cells slots la hRel hS hL h1 h2
    exact lv_ior hx hb hd ((hK _ _ _ _ hs2).2 H locs cells slots la hRel hS hL h1 h2)
  · obtain ⟨b, r1, rfl, hs1⟩ := sm_pI_e hs
    obtain ⟨a, r2, rfl, hs2⟩ := sm_pI_e hs1
    rcases sm_ite_e hs2 with ⟨-, hs3⟩ | ⟨hne, hs3⟩
    · cases hs3
    obtain rfl : len = 1 := by simpa [sm_okA] using ha
    intro H locs cells slots la hRel hS hL h1 h2
    exact lv_idiv hx hb hd hne ((hK _ _ _ _ hs3).2 H locs cells slots la hRel hS hL h1 h2)
  · obtain ⟨b, r1, rfl, hs1⟩ := sm_pI_e hs
    obtain ⟨a, r2, rfl, hs2⟩ := sm_pI_e hs1
    rcases sm_ite_e hs2 with ⟨-, hs3⟩ | ⟨hne, hs3⟩
    · cases hs3
    obtain rfl : len = 1 := by simpa [sm_okA] using ha
    intro H locs cells slots la hRel hS hL h1 h2
    exact lv_irem hx hb hd hne ((hK _ _ _ _ hs3).2 H locs cells slots la hRel hS hL h1 h2)
  · obtain ⟨a, r1, rfl, hs1⟩ := sm_pV_e hs
    obtain ⟨hc1, hs2⟩ := sm_bif_e hs1
    obtain rfl : len = 1 := by simpa [sm_okA] using ha
    intro H locs cells slots la hRel hS hL h1 h2
    exact lv_dup hx hb hd (sm_cat1_v hHC.2.2.2 hc1) ((hK _ _ _ _ hs2).2 H locs cells slots la hRel hS hL h1 h2)
  · obtain ⟨a, r1, rfl, hs1⟩ := sm_pV_e hs
    obtain ⟨hc1, hs2⟩ := sm_bif_e hs1
    obtain rfl : len = 1 := by simpa [sm_okA] using ha
    intro H locs cells slots la hRel hS hL h1 h2
    exact lv_pop hx hb hd (sm_cat1_v hHC.2.2.2 hc1) ((hK _ _ _ _ hs2).2 H locs cells slots la hRel hS hL h1 h2)
  · obtain ⟨a, r1, rfl, hs1⟩ := sm_pV_e hs
    obtain ⟨b, r2, rfl, hs2⟩ := sm_pV_e hs1
    obtain ⟨hc1, hs3⟩ := sm_bif_e hs2
    rw [Bool.and_eq_true] at hc1
    obtain rfl : len = 1 := by simpa [sm_okA] using ha
    intro H locs cells slots la hRel hS hL h1 h2
    exact lv_dup2_11 hx hb hd (sm_cat1_v hHC.2.2.2 hc1.1) (sm_cat1_v hHC.2.2.2 hc1.2) ((hK _ _ _ _ hs3).2 H locs cells slots la hRel hS hL h1 h2)
  · exact sm_g3 V hok hs
set_option maxHeartbeats 4000000 in
theorem sm_g1 (V : sm_Gv Z P X Y p l e R s mid args below meth c Q m r Cf Sf C K) {i : Instr} {len x y z pc : Nat} {ls : smL} {st : List Value} {h : smH} (hok : sm_okI Z P m pc i len x y z) (hs : sm_s1 P X C K i x y z pc ls st h = some r) : sm_G Z Y p l e R s mid args below meth c Q m r.2 Cf Sf pc ls st h := by
  obtain ⟨F, hK, hC, hret, hCc, hCs⟩ := id V
  obtain ⟨hx, hb, hml, hown, hts, hVC, hHC, hnm, hA, hZ, hRf, hRl⟩ := id F
  obtain ⟨hd, ha, hl⟩ := id hok
  unfold sm_s1 at hs
  split at hs
  · obtain ⟨v, hv, hs1⟩ := sm_gI_e hs
    obtain rfl : len = 1 := by simpa [sm_okA] using ha
    intro H locs cells slots la hRel hS hL h1 h2
    exact lv_iload_n hx hb hd rfl (sm_at_la hL hv) ((hK _ _ _ _ hs1).2 H locs cells slots la hRel hS hL h1 h2)
  · obtain ⟨v, hv, hs1⟩ := sm_gI_e hs
    obtain rfl : len = 2 := by simpa [sm_okA] using ha
    intro H locs cells slots la hRel hS hL h1 h2
    exact lv_iload hx hb hd (sm_at_la hL hv) ((hK _ _ _ _ hs1).2 H locs cells slots la hRel hS hL h1 h2)
  · obtain ⟨v, hv, hi, hs1⟩ := sm_gA_e hs
    obtain rfl : len = 1 := by simpa [sm_okA] using ha
    intro H locs cells slots la hRel hS hL h1 h2
    have hla := sm_at_la hL hv
    have hk := (hK _ _ _ _ hs1).2 H locs cells slots la hRel hS hL h1 h2
    change W p l e R s mid args below meth c H locs cells slots Q (F0 mid _ la (sm_v Y v :: _)) at hk
    rcases sm_isA_v hHC.2.2.2 hi with h0 | ⟨a, h0⟩
    · rw [h0] at hla hk
      exact lv_aload_nN hx hb hd rfl hla hk
    · rw [h0] at hla hk
      exact lv_aload_n hx hb hd rfl hla hk
  · obtain ⟨v, hv, hi, hs1⟩ := sm_gA_e hs
    obtain rfl : len = 2 := by simpa [sm_okA] using ha
    intro H locs cells slots la hRel hS hL h1 h2
    have hla := sm_at_la hL hv
    have hk := (hK _ _ _ _ hs1).2 H locs cells slots la hRel hS hL h1 h2
    change W p l e R s mid args below meth c H locs cells slots Q (F0 mid _ la (sm_v Y v :: _)) at hk
    rcases sm_isA_v hHC.2.2.2 hi with h0 | ⟨a, h0⟩
    · rw [h0] at hla hk
      exact lv_aloadN hx hb hd hla hk
    · rw [h0] at hla hk
      exact lv_aload hx hb hd hla hk
  · obtain ⟨v, hv, hs1⟩ := sm_gJ_e hs
    obtain rfl : len = 1 := by simpa [sm_okA] using ha
    intro H locs cells slots la hRel hS hL h1 h2
    exact lv_lload_n hx hb hd rfl (sm_at_la hL hv) ((hK _ _ _ _ hs1).2 H locs cells slots la hRel hS hL h1 h2)
  · obtain ⟨v, hv, hs1⟩ := sm_gJ_e hs
    obtain rfl : len = 2 := by simpa [sm_okA] using ha
    intro H locs cells slots la hRel hS hL h1 h2
    exact lv_lload hx hb hd (sm_at_la hL hv) ((hK _ _ _ _ hs1).2 H locs cells slots la hRel hS hL h1 h2)
  · rename_i k
    obtain ⟨v, r1, rfl, hs1⟩ := sm_pI_e hs
    have ha' : len = 1 ∧ k.val < zmL Z m := by simpa [sm_okA] using ha
    obtain ⟨rfl, hk⟩ := ha'
    intro H locs cells slots la hRel hS hL h1 h2
    exact lv_istore_n hx hb hd rfl hL hk rfl (fun la hL => (hK _ _ _ _ hs1).2 H locs cells slots la hRel hS (sm_l1_has hHC.2.2.2 rfl hL) h1 h2)
  · rename_i k
    obtain ⟨v, r1, rfl, hs1⟩ := sm_pI_e hs
    have ha' : len = 2 ∧ k < zmL Z m := by simpa [sm_okA] using ha
    obtain ⟨rfl, hk⟩ := ha'
    intro H locs cells slots la hRel hS hL h1 h2
    exact lv_istore hx hb hd hL hk rfl (fun la hL => (hK _ _ _ _ hs1).2 H locs cells slots la hRel hS (sm_l1_has hHC.2.2.2 rfl hL) h1 h2)
  · rename_i k
    obtain ⟨v, hv, hi, hs1⟩ := sm_gA_e hs
    have ha' : len = 1 ∧ k.val < zmL Z m := by simpa [sm_okA] using ha
    obtain ⟨rfl, hk⟩ := ha'
    cases st with
    | nil => cases hv
    | cons w r1 =>
      obtain rfl : w = v := Option.some.inj hv
      intro H locs cells slots la hRel hS hL h1 h2
      have hk2 := fun (la : Array Slot) (hL : lv_has la (zmL Z m) (sm_ml Y _)) => (hK _ _ _ _ hs1).2 H locs cells slots la hRel hS hL h1 h2
      show W p l e R s mid args below meth c H locs cells slots Q (F0 mid pc la (sm_v Y w :: r1.map (sm_v Y)))
      rcases sm_isA_v hHC.2.2.2 hi with h0 | ⟨a, h0⟩
      · rw [h0]
        exact lv_astore_nN hx hb hd rfl hL hk rfl (fun la hL => hk2 la (sm_l1_has hHC.2.2.2 h0 hL))
      · rw [h0]
        exact lv_astore_n hx hb hd rfl hL hk rfl (fun la hL => hk2 la (sm_l1_has hHC.2.2.2 h0 hL))
  · rename_i k
    obtain ⟨v, hv, hi, hs1⟩ := sm_gA_e hs
    have ha' : len = 2 ∧ k < zmL Z m := by simpa [sm_okA] using ha
    obtain ⟨rfl, hk⟩ := ha'
    cases st with
    | nil => cases hv
    | cons w r1 =>
      obtain rfl : w = v := Option.some.inj hv
      intro H locs cells slots la hRel hS hL h1 h2
      have hk2 := fun (la : Array Slot) (hL : lv_has la (zmL Z m) (sm_ml Y _)) => (hK _ _ _ _ hs1).2 H locs cells slots la hRel hS hL h1 h2
      show W p l e R s mid args below meth c H locs cells slots Q (F0 mid pc la (sm_v Y w :: r1.map (sm_v Y)))
      rcases sm_isA_v hHC.2.2.2 hi with h0 | ⟨a, h0⟩
      · rw [h0]
        exact lv_astoreN hx hb hd hL hk rfl (fun la hL => hk2 la (sm_l1_has hHC.2.2.2 h0 hL))
      · rw [h0]
        exact lv_astore hx hb hd hL hk rfl (fun la hL => hk2 la (sm_l1_has hHC.2.2.2 h0 hL))
  · rename_i k
    obtain ⟨v, r1, rfl, hs1⟩ := sm_pJ_e hs
    have ha' : len = 1 ∧ k.val + 1 < zmL Z m := by simpa [sm_okA] using ha
    obtain ⟨rfl, hk⟩ := ha'
    intro H locs cells slots la hRel hS hL h1 h2
    exact lv_lstore_n hx hb hd rfl hL hk rfl (fun la hL => (hK _ _ _ _ hs1).2 H locs cells slots la hRel hS (sm_l2_has hHC.2.2.2 rfl hL) h1 h2)
  · rename_i k
    obtain ⟨v, r1, rfl, hs1⟩ := sm_pJ_e hs
    have ha' : len = 2 ∧ k + 1 < zmL Z m := by simpa [sm_okA] using ha
    obtain ⟨rfl, hk⟩ := ha'
    intro H locs cells slots la hRel hS hL h1 h2
    exact lv_lstore hx hb hd hL hk rfl (fun la hL => (hK _ _ _ _ hs1).2 H locs cells slots la hRel hS (sm_l2_has hHC.2.2.2 rfl hL) h1 h2)
  · rename_i n
    have ha' : len = 1 ∧ Int32.ofInt n = sm_k x y := by simpa [sm_okA] using ha
    obtain ⟨rfl, hn9⟩ := ha'
    intro H locs cells slots la hRel hS hL h1 h2
    exact lv_iconst hx hb hd hn9 ((hK _ _ _ _ hs).2 H locs cells slots la hRel hS hL h1 h2)
  · rename_i n
    have ha' : len = 2 ∧ (Int8.ofInt n).toInt32 = sm_k x y := by simpa [sm_okA] using ha
    obtain ⟨rfl, hn9⟩ := ha'
    intro H locs cells slots la hRel hS hL h1 h2
    exact lv_bipush hx hb hd hn9 ((hK _ _ _ _ hs).2 H locs cells slots la hRel hS hL h1 h2)
  · rename_i n
    have ha' : len = 3 ∧ (Int16.ofInt n).toInt32 = sm_k x y := by simpa [sm_okA] using ha
    obtain ⟨rfl, hn9⟩ := ha'
    intro H locs cells slots la hRel hS hL h1 h2
    exact lv_sipush hx hb hd hn9 ((hK _ _ _ _ hs).2 H locs cells slots la hRel hS hL h1 h2)
  · obtain rfl : len = 1 := by simpa [sm_okA] using ha
    intro H locs cells slots la hRel hS hL h1 h2
    exact lv_null hx hb hd ((hK _ _ _ _ hs).2 H locs cells slots la hRel hS hL h1 h2)
  · exact sm_g2 V hok hs
end SMG
end
section
/-- a method whose bytecode is run as it stands, whatever the name of its class -/
theorem sm_ofW {l : Launch} {y : MethodName} {ws ws' : List Cond} {rm : Room} {Pc : Array Value → State → Prop} {Qc : Array Value → State → Outcome → State → Prop} {mc ms : Nat} {free : Addr → Prop} {cc : ByteArray} {maxL : Nat} {ret : Option FieldType} (hy : plainFor y = true) (hw : ws = Cond.code y cc maxL ret :: ws')
    (body : ∀ p e s m args below meth c s₁, BodyLoose p l y (headSpec ws rm) cc maxL ret e s m args below meth c s₁ → c.maxLocals = maxL → Pc args s →
      W p l e (headSpec ws rm).room s m args below meth c s.heap [] 0 0 (MQ below Qc args s mc ms free) (entryFrame m args maxL)) : Met l y ws rm Pc Qc mc ms free := by
  refine MetFree.of_bodySF (code := cc) (maxLocals := maxL) (ret := ret) hy (fun args s m h hn => ?_) (fun p e s m args below meth c s₁ B hml hP _ => ?_)
  · have hc := atoms_spec (ws := ws) h (Cond.code y cc maxL ret) (by rw [hw]; exact List.mem_cons_self)
    obtain ⟨meth, c, g1, g2, g3, g4, g5, g6, -, -⟩ := Cond.code_spec hn hc
    exact ⟨meth, c, g1, g2, g3, g4, g5, g6⟩
  · have hh : s₁.heap = s.heap := by rw [B.state]; rfl
    obtain ⟨t, ht, o, h1, h2, h3⟩ := body p e s m args below meth c s₁ B hml hP s₁ hh (Stand.of_body B)
    exact ⟨t, o, ht, h1, h2, h3⟩
section SMM
variable {Z : smZ} {P : smP} {X : smX} {Y : smY} {l : Launch}
/-- what the tables must say of every instruction of every method -/
def sm_okZ (Z : smZ) (P : smP) : Prop := sm_okC Z P ∧ (∀ (m pc : Nat) (i : Instr) (len x y z : Nat), m < znM Z → sm_code P m pc = some (i, len, x, y, z) → sm_okI Z P m pc i len x y z) ∧ ∀ m, m < znM Z → plainFor (znm Z m) = true ∧ zow Z m = (znm Z m).cls
theorem sm_tr_in {P : smP} {m pc : Nat} {ls : smL} {q : Nat × Value} (h : q ∈ sm_tr P m pc ls) : q ∈ ls := by
  unfold sm_tr at h; split at h
  · exact (List.mem_filter.mp h).1
  · exact h
theorem sm_G_tr {p : Program} {e : Env} {R : Room} {s : State} {mid : MethodId} {args : Array Value} {below : List Frame} {meth : Method} {c : Code} {Q : State → Prop} {m : Nat} {hf : smH} {Cf Sf pc : Nat} {ls : smL} {st : List Value} {h : smH} (g : sm_G Z Y p l e R s mid args below meth c Q m hf Cf Sf pc (sm_tr P m pc ls) st h) : sm_G Z Y p l e R s mid args below meth c Q m hf Cf Sf pc ls st h :=
  fun H locs cells slots la hRel hS hL g1 g2 => g H locs cells slots la hRel hS ⟨hL.1, hL.2.1, fun q hq => by
    obtain ⟨q0, h0, rfl⟩ := List.mem_map.mp hq
    exact hL.2.2 _ (List.mem_map.mpr ⟨q0, sm_tr_in h0, rfl⟩)⟩ g1 g2
theorem sm_walk {p : Program} {e : Env} {R : Room} {s : State} {mid : MethodId} {args : Array Value} {below : List Frame} {meth : Method} {c : Code} {Q : State → Prop} {m : Nat} {r : Option Value × smH} {Cf Sf : Nat} (hZ : sm_okZ Z P) (hm : m < znM Z) (F : sm_Fx Z P X Y p R s mid args meth c m) (hCS : Cf ≤ R.cells ∧ Sf ≤ R.slots) : ∀ (n : Nat), (∀ k, k < n → sm_CC Z P X Y l (fun m' as h => sm_X P X k m' 0 (lv_args 0 as) [] h)) →
    (∀ (C : smCT) (K : smK) (i : Instr) (len x y z pc : Nat) (ls : smL) (st : List Value) (h : smH), sm_okI Z P m pc i len x y z → sm_isR i = true → sm_s6 P C K i x y z pc ls st h = some r → sm_G Z Y p l e R s mid args below meth c Q m r.2 Cf Sf pc ls st h) →
    ∀ (pc : Nat) (ls : smL) (st : List Value) (h : smH), sm_X P X n m pc ls st h = some r → sm_G Z Y p l e R s mid args below meth c Q m r.2 Cf Sf pc ls st h
  | 0, _, _, _, _, _, _, hs => by cases hs
  | n + 1, hCC, hret, pc, ls, st, h, hs => by
    have hs' : sm_step P X (fun m' as h => sm_X P X n m' 0 (lv_args 0 as) [] h) (sm_X P X n m) m pc ls st h = some r := hs
    unfold sm_step at hs'
    split at hs'
    · rename_i i len x y z hcode
      exact sm_g1 ⟨F, fun pc' ls' st' h' hk => ⟨sm_X_grow P X n m pc' _ st' h' r hk, sm_G_tr (sm_walk hZ hm F hCS n (fun k hk => hCC k (Nat.lt_succ_of_lt hk)) hret pc' (sm_tr P m pc' ls') st' h' hk)⟩, hCC n (Nat.lt_succ_self n), hret _ _, hCS.1, hCS.2⟩ (hZ.2.1 m pc i len x y z hm hcode) hs'
    · cases hs'
theorem sm_lv_args (hY : ∀ t, Y.2.2 t = .null ∨ ∃ a, Y.2.2 t = .ref a) : ∀ (as : List Value) (i : Nat), sm_ml Y (lv_args i as) = lv_args i (as.map (sm_v Y))
  | [], _ => rfl
  | v :: vs, i => by
    show (i, sm_v Y v) :: sm_ml Y (lv_args _ vs) = (i, sm_v Y v) :: lv_args _ (vs.map (sm_v Y))
    rw [sm_lv_args hY vs, sm_v_cat hY v]
theorem sm_lgsl (hY : ∀ t, Y.2.2 t = .null ∨ ∃ a, Y.2.2 t = .ref a) : ∀ (as : List Value), as.all sm_cat1 = true → (lg_sl (as.map (sm_v Y))).length = as.length
  | [], _ => rfl
  | v :: vs, h => by
    rw [List.all_cons, Bool.and_eq_true] at h
    have h1 : (sm_v Y v).category = 1 := sm_cat1_v hY h.1
    have ih := sm_lgsl hY vs h.2
    unfold lg_sl at ih ⊢
    rw [List.map_cons, List.flatMap_cons, List.length_append, ih, h1]
    simp
    omega
/-- every method's contract, of every run of the small machine -/
theorem sm_met (hZ : sm_okZ Z P) : ∀ n, sm_CC Z P X Y l (fun m' as h => sm_X P X n m' 0 (lv_args 0 as) [] h) := by
  intro n
  induction n using Nat.strongRecOn with
  | ind n ih =>
    intro m as h v h' hm hlen hall hrun
    have hle := sm_X_grow P X n m 0 (lv_args 0 as) [] h (v, h') hrun
    refine ⟨hle, ?_⟩
    have hle1 : h.2.1 ≤ h'.2.1 := hle.1
    have hle2 : h.2.2 ≤ h'.2.2 := hle.2
    refine sm_ofW (cc := zby Z m) (maxL := zmL Z m) (ret := zrt Z m) (hZ.2.2 m hm).1 rfl ?_
    intro p e s mid args below meth c s₁ B hml hv
    obtain ⟨rfl, hVC, hHC, hRel, hA⟩ := hv
    have hts0 := atoms_spec (ws := sm_ws Z m) B.pre
    have hts : ∀ w ∈ zTB Z, w.before (as.map (sm_v Y)).toArray s = true := fun w hw => hts0 w (List.mem_cons_of_mem _ hw)
    have hown : s.vm.findClass (zow Z m) = some mid.cls := by rw [(hZ.2.2 m hm).2]; exact findClass_of_methodNamed B.named
    have hnm : meth.name = (znm Z m).name := (name_of_methodNamed B.named B.method).1
    have hlocks := B.notSynchronized
    have hx := B.exec
    have hb := B.bytes
    have hr := B.returns
    have F : sm_Fx Z P X Y p (headSpec (sm_ws Z m) (sm_rm Z m h h')).room s mid (as.map (sm_v Y)).toArray meth c m := ⟨hx, hb, hml, hown, hts, hVC, hHC, hnm, hA, hZ.1, rfl, rfl⟩
    have hl := lv_entry (as.map (sm_v Y)) (n := zmL Z m) (by rw [sm_lgsl hHC.2.2.2 as hall]; exact hlen)
    rw [lg_entry_eq]
    generalize (lg_sl (as.map (sm_v Y)) ++ List.replicate (zmL Z m - (lg_sl (as.map (sm_v Y))).length) Slot.unset).toArray = la at hl ⊢
    rw [← sm_lv_args hHC.2.2.2] at hl
    refine sm_walk (r := (v, h')) (Cf := h'.2.1 - h.2.1) (Sf := h'.2.2 - h.2.2) hZ hm F ⟨Nat.le_refl _, Nat.le_refl _⟩ n ih ?_ 0 (lv_args 0 as) [] h hrun s.heap [] 0 0 la hRel va_S.rf hl (by show 0 + h'.2.1 = _; omega) (by show 0 + h'.2.2 = _; omega)
    intro C K i len x y z pc ls st h1 hok hi hs H locs cells slots la1 hRel1 hS1 hL1 g1 g2
    obtain ⟨hd, ha, hlk⟩ := hok
    have hq : ∀ (w : Option Value), v = w → h1 = h' → ∀ t : State, t.heap = H → s.WarmedH t.vm → sm_Qc Z Y v h' (as.map (sm_v Y)).toArray s (.returned (w.map (sm_v Y))) t := by
      intro w hw hh t ht hW
      subst hw; subst hh
      exact ⟨⟨rfl, by rw [ht]; exact hRel1.moved hW.alike⟩, hS1.F ht⟩
    have hcs : ∀ hh : h1 = h', cells = h'.2.1 - h.2.1 ∧ slots = h'.2.2 - h.2.2 := by
      intro hh
      subst hh
      have g1' : cells + h1.2.1 = (h1.2.1 - h.2.1) + h1.2.1 := g1
      have g2' : slots + h1.2.2 = (h1.2.2 - h.2.2) + h1.2.2 := g2
      omega
    unfold sm_s6 at hs
    unfold sm_isR at hi
    split at hi
    · -- ireturn
      simp only at hs
      obtain rfl : len = 1 := by simpa [sm_okA] using ha
      obtain ⟨x0, t0, rfl, hs1⟩ := sm_pI_e hs
      split at hs1
      · split at hs1
        · cases hs1
          obtain ⟨rfl, rfl⟩ := hcs rfl
          exact W.iret (v := x0) hx hb (hr.trans hlk) (hq (some (.int x0)) rfl rfl) hS1.2.2 hd
        · rcases sm_ite_e hs1 with ⟨hn, hs2⟩ | ⟨-, hs2⟩
          · cases hs2
            obtain ⟨rfl, rfl⟩ := hcs rfl
            exact W.zret (v := x0) hx hb (hr.trans hlk) hn (hq (some (.int x0)) rfl rfl) hS1.2.2 hd
          · cases hs2
      · cases hs1
    · -- lreturn
      simp only at hs
      obtain rfl : len = 1 := by simpa [sm_okA] using ha
      obtain ⟨x0, t0, rfl, hs1⟩ := sm_pJ_e hs
      split at hs1
      · cases hs1
        obtain ⟨rfl, rfl⟩ := hcs rfl
        exact W.lret (v := x0) hx hb (hr.trans hlk) (hq (some (.long x0)) rfl rfl) hS1.2.2 hd
      · cases hs1
    · -- areturn
      simp only at hs
      obtain rfl : len = 1 := by simpa [sm_okA] using ha
      obtain ⟨rt, hrt, hrt2⟩ := hlk
      obtain ⟨v0, hv0, hiA, hs1⟩ := sm_gA_e hs
      split at hs1
      · rename_i w
        obtain rfl : w = v0 := Option.some.inj hv0
        cases hs1
        obtain ⟨rfl, rfl⟩ := hcs rfl
        exact W.aret (v := sm_v Y w) hx hb (hr.trans hrt) hrt2 (sm_isA_v hHC.2.2.2 hiA) (hq (some w) rfl rfl) hS1.2.2 hd
      · cases hs1
    · -- return
      simp only at hs
      obtain rfl : len = 1 := by simpa [sm_okA] using ha
      split at hs
      · cases hs
        obtain ⟨rfl, rfl⟩ := hcs rfl
        exact W.vret hx hb (hr.trans hlk) (hq none rfl rfl) hS1.2.2 hd
      · cases hs
    · cases hi
end SMM
end
