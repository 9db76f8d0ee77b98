/-! THE SMALL MACHINE: a pure interpreter of the bytecode over a typed heap. Everything about the class and the reference is proved of it (parts 10 and on); one theorem (part 02) carries an answer of the small machine over to the machine itself. -/
abbrev smC : Type := (FieldType × vp_A) ⊕ (Nat × List Value)
/-- the heap: the cells by address; the next address; the slots made so far -/
abbrev smH : Type := (Nat → Option smC) × Nat × Nat
abbrev smL : Type := List (Nat × Value)
abbrev smR : Type := Option (Option Value × smH)
abbrev smK : Type := Nat → smL → List Value → smH → smR
/-- an instruction, its length, what its entry of the pool comes to -/
abbrev smI : Type := Instr × Nat × Nat × Nat × Nat
/-- the script: its length, its ints -/
abbrev smX : Type := Nat × (Nat → Int32)
/-- a program: code in chunks of 16 bytes; types of fields; fields of a new object; types of classes; string constants; at which places which locals are still read -/
abbrev smP : Type := (Nat → List (List (Nat × smI))) × (Nat → Nat → FieldType) × (Nat → List Value) × (Nat → FieldType) × (List (List Int32)) × (Nat → List (Nat × List Nat))
def sm_at : List (Nat × smI) → Nat → Option smI
  | [], _ => none
  | q :: l, pc => bif Nat.beq q.1 pc then some q.2 else sm_at l pc
def sm_code (P : smP) (m pc : Nat) : Option smI := sm_at ((P.1 m).getD (pc / 16) []) pc
def sm_tl : List (Nat × List Nat) → Nat → Option (List Nat)
  | [], _ => none
  | q :: l, pc => bif Nat.beq q.1 pc then some q.2 else sm_tl l pc
/-- the locals with which a place is come to: those that are still read there -/
def sm_tr (P : smP) (m pc : Nat) (ls : smL) : smL := match sm_tl (P.2.2.2.2.2 m) pc with
  | some lv => ls.filter (fun q => lv.contains q.1)
  | none => ls
/-- a constant: x, or -x -/
def sm_k (x y : Nat) : Int32 := bif Nat.beq y 0 then Int32.ofNat x else -Int32.ofNat x
def sm_lg (k : Nat) : smL → Option Value
  | [] => none
  | q :: l => bif Nat.beq q.1 k then some q.2 else sm_lg k l
def sm_in (i : Nat) (v : Value) : smL → smL
  | [] => [(i, v)]
  | q :: l => bif Nat.blt q.1 i then q :: sm_in i v l else (i, v) :: q :: l
def sm_l1 (i : Nat) (v : Value) (l : smL) : smL := sm_in i v (l.filter (fun q => !(q.1 == i) && !(q.1 + 1 == i && q.2.category == 2)))
def sm_l2 (i : Nat) (v : Value) (l : smL) : smL := sm_in i v (l.filter (fun q => !(q.1 == i) && (!(q.1 == i + 1) && !(q.1 + 1 == i && q.2.category == 2))))
def sm_w (h : smH) (a : Nat) (e : smC) : smH := (fun b => if b = a then some e else h.1 b, h.2)
def sm_n (h : smH) (e : smC) (k : Nat) : smH := (fun b => if b = h.2.1 then some e else h.1 b, h.2.1 + 1, h.2.2 + k)
/-- new int[n][k] -/
def sm_mn (h : smH) (n k : Nat) : smH := (fun b => if b = h.2.1 then some (.inl (.array .int, n, .inr (.inr (.inr (.inr (fun i => if i < n then some (h.2.1 + 1 + i) else none)))))) else if h.2.1 < b ∧ b ≤ h.2.1 + n then some (.inl (.int, k, .inl (fun _ => 0))) else h.1 b, h.2.1 + 1 + n, h.2.2 + (n + n * k))
/-- arrays that are no cells of the heap: the script (tag 40), the bytes of string constant t (tag 16 + t) -/
def sm_oA (P : smP) (X : smX) (t : Nat) : Option (FieldType × vp_A) :=
  bif Nat.beq t 40 then some (.int, X.1, .inl X.2)
  else bif Nat.blt t 40 && Nat.blt 15 t then (match P.2.2.2.2.1[t - 16]? with
    | some l => some (.byte, l.length, .inl (fun j => l.getD j 0))
    | none => none)
  else none
def sm_ar (P : smP) (X : smX) (h : smH) (v : Value) : Option (FieldType × vp_A) := match v with
  | .ref a => (match h.1 a with
    | some (.inl x) => some x
    | _ => none)
  | .retAddr t => sm_oA P X t
  | _ => none
def sm_pI (st : List Value) (κ : Int32 → List Value → smR) : smR := match st with
  | .int x :: r => κ x r
  | _ => none
def sm_pJ (st : List Value) (κ : Int64 → List Value → smR) : smR := match st with
  | .long x :: r => κ x r
  | _ => none
def sm_pR (st : List Value) (κ : Nat → List Value → smR) : smR := match st with
  | .ref x :: r => κ x r
  | _ => none
def sm_pT (st : List Value) (κ : Nat → List Value → smR) : smR := match st with
  | .retAddr x :: r => κ x r
  | _ => none
def sm_pV (st : List Value) (κ : Value → List Value → smR) : smR := match st with
  | x :: r => κ x r
  | _ => none
def sm_gI (o : Option Value) (κ : Int32 → smR) : smR := match o with
  | some (.int x) => κ x
  | _ => none
def sm_gJ (o : Option Value) (κ : Int64 → smR) : smR := match o with
  | some (.long x) => κ x
  | _ => none
/-- a reference, null or a tag -/
def sm_isA (v : Value) : Bool := match v with
  | .ref _ => true
  | .null => true
  | .retAddr _ => true
  | _ => false
def sm_gA (o : Option Value) (κ : Value → smR) : smR := match o with
  | some (.ref a) => κ (.ref a)
  | some .null => κ .null
  | some (.retAddr t) => κ (.retAddr t)
  | _ => none
/-- field k of the object at a, of class number ci -/
def sm_f (h : smH) (a ci k : Nat) : Option Value := match h.1 a with
  | some (.inr (c, fs)) => bif Nat.beq c ci then fs[k]? else none
  | _ => none
def sm_gR (o : Option Value) (κ : Nat → smR) : smR := match o with
  | some (.ref a) => κ a
  | _ => none
def sm_fP (h : smH) (a ci k : Nat) (v : Value) (κ : smH → smR) : smR := match h.1 a with
  | some (.inr (c, fs)) => bif Nat.beq c ci && Nat.blt k fs.length then κ (sm_w h a (.inr (ci, fs.set k v))) else none
  | _ => none
def sm_ld (o : Option (FieldType × vp_A)) (ty : FieldType) (i : Int32) (κ : Int32 → smR) : smR := match o with
  | some (t, n, .inl f) => if t = ty then (if i < 0 ∨ n ≤ i.toNatClampNeg then none else κ (f i.toNatClampNeg)) else none
  | _ => none
def sm_ldR (o : Option (FieldType × vp_A)) (i : Int32) (κ : Nat → smR) : smR := match o with
  | some (t, n, .inr (.inr (.inr (.inr f)))) => bif t.isReference then (if i < 0 ∨ n ≤ i.toNatClampNeg then none else (match f i.toNatClampNeg with
    | some b => κ b
    | none => none)) else none
  | _ => none
def sm_st (h : smH) (a : Nat) (ty : FieldType) (i x : Int32) (κ : smH → smR) : smR := match h.1 a with
  | some (.inl (t, n, .inl f)) => if t = ty then (if i < 0 ∨ n ≤ i.toNatClampNeg then none else κ (sm_w h a (.inl (ty, n, .inl (upd f i.toNatClampNeg x))))) else none
  | _ => none
def sm_stR (P : smP) (h : smH) (a : Nat) (i : Int32) (v : Nat) (κ : smH → smR) : smR := match h.1 a with
  | some (.inl (t, n, .inr (.inr (.inr (.inr f))))) => (match h.1 v with
    | some (.inr (c, _)) => if t = P.2.2.2.1 c then (if i < 0 ∨ n ≤ i.toNatClampNeg then none else κ (sm_w h a (.inl (t, n, .inr (.inr (.inr (.inr (va_up f i.toNatClampNeg (some v))))))))) else none
    | _ => none)
  | _ => none
def sm_ldJ (o : Option (FieldType × vp_A)) (i : Int32) (κ : Int64 → smR) : smR := match o with
  | some (t, n, .inr (.inl f)) => if t = .long then (if i < 0 ∨ n ≤ i.toNatClampNeg then none else κ (f i.toNatClampNeg)) else none
  | _ => none
def sm_stJ (h : smH) (a : Nat) (i : Int32) (x : Int64) (κ : smH → smR) : smR := match h.1 a with
  | some (.inl (t, n, .inr (.inl f))) => if t = .long then (if i < 0 ∨ n ≤ i.toNatClampNeg then none else κ (sm_w h a (.inl (.long, n, .inr (.inl (fun j => if j = i.toNatClampNeg then x else f j)))))) else none
  | _ => none
def sm_dfJ (ty : FieldType) : Bool := match ty with
  | .long => true
  | _ => false
def sm_al (o : Option (FieldType × vp_A)) (κ : Nat → smR) : smR := match o with
  | some (_, n, _) => κ n
  | none => none
/-- the object at a is of class number c -/
def sm_vc (h : smH) (a c : Nat) (r : smR) : smR := match h.1 a with
  | some (.inr (d, _)) => bif Nat.beq d c then r else none
  | _ => none
def sm_sw (o : Option Int) (κ : Int → smR) : smR := match o with
  | some i => κ i
  | none => none
def sm_cR (o : smR) (κ : Option Value → smH → smR) : smR := match o with
  | some (v, h) => κ v h
  | none => none
def sm_cat1 (v : Value) : Bool := match v with
  | .long _ => false
  | .double _ => false
  | _ => true
/-- n arguments off the stack -/
def sm_pN (n : Nat) (st : List Value) (κ : List Value → List Value → smR) : smR := bif Nat.ble n st.length && (st.take n).all sm_cat1 && Nat.ble ((st.drop n).map (fun v => v.category)).sum 8 then κ (st.take n).reverse (st.drop n) else none
def sm_nk (z : Nat) : FieldType := match z with
  | 1 => .boolean
  | 2 => .char
  | 3 => .byte
  | _ => .short
def sm_dfI (ty : FieldType) : Bool := match ty with
  | .int => true
  | .boolean => true
  | .char => true
  | _ => false
def sm_tg (pc : Nat) (off : Int) : Nat := ((pc : Int) + off).toNat

section SMSTEP
variable (P : smP) (X : smX) (C : Nat → List Value → smH → smR) (K : smK)
def sm_s6 (i : Instr) (x y z pc : Nat) (ls : smL) (st : List Value) (h : smH) : smR := match i with
  | .invokestatic _ => (match z with
    | 0 => sm_pN y st fun as r => sm_cR (C x as h) fun v h => K (pc + 3) ls (v.toList ++ r) h
    | 1 => sm_pI st fun b r => sm_pI r fun a r => bif Nat.ble (r.map (fun v => v.category)).sum 8 then K (pc + 3) ls (.int (if a < b then b else a) :: r) h else none
    | _ => sm_pI st fun b r => sm_pI r fun a r => bif Nat.ble (r.map (fun v => v.category)).sum 8 then K (pc + 3) ls (.int (if b < a then b else a) :: r) h else none)
  | .invokevirtual _ => (match z with
    | 0 => sm_pN y st fun as r => sm_pT r fun t r => bif Nat.blt t P.2.2.2.2.1.length then sm_cR (C x (.retAddr t :: as) h) fun v h => K (pc + 3) ls (v.toList ++ r) h else none
    | z + 1 => sm_pN y st fun as r => sm_pR r fun a r => sm_vc h a z (sm_cR (C x (.ref a :: as) h) fun v h => K (pc + 3) ls (v.toList ++ r) h))
  | .invokespecial _ => (match z with
    | 0 => sm_pR st fun _ r => bif Nat.ble (r.map (fun v => v.category)).sum 8 then K (pc + 3) ls r h else none
    | _ + 1 => sm_pN y st fun as r => sm_pR r fun a r => sm_cR (C x (.ref a :: as) h) fun v h => K (pc + 3) ls (v.toList ++ r) h)
  | .getstatic _ => (match z with
    | 0 => K (pc + 3) ls (.int (Int32.ofNat x) :: st) h
    | _ + 1 => K (pc + 3) ls (.retAddr x :: st) h)
  | .ireturn => sm_pI st fun v r => (match r with
    | [] => (match z with
      | 0 => some (some (.int v), h)
      | z + 1 => if narrow (sm_nk (z + 1)) (.int v) = .int v then some (some (.int v), h) else none)
    | _ => none)
  | .lreturn => sm_pJ st fun v r => (match r with
    | [] => some (some (.long v), h)
    | _ => none)
  | .areturn => sm_gA st.head? fun v => (match st with
    | [_] => some (some v, h)
    | _ => none)
  | .return_ => (match st with
    | [] => some (none, h)
    | _ => none)
  | _ => none
def sm_s5 (i : Instr) (x y z pc : Nat) (ls : smL) (st : List Value) (h : smH) : smR := match i with
  | .new _ => K (pc + 3) ls (.ref h.2.1 :: st) (sm_n h (.inr (x, P.2.2.1 x)) (P.2.2.1 x).length)
  | .newarray t => sm_pI st fun n r => if n < 0 ∨ 1000000 < n.toNatClampNeg then none else (bif sm_dfI (newarray.typeOf t) then K (pc + 2) ls (.ref h.2.1 :: r) (sm_n h (.inl (newarray.typeOf t, n.toNatClampNeg, .inl (fun _ => 0))) n.toNatClampNeg) else (bif sm_dfJ (newarray.typeOf t) then K (pc + 2) ls (.ref h.2.1 :: r) (sm_n h (.inl (newarray.typeOf t, n.toNatClampNeg, .inr (.inl (fun _ => 0)))) n.toNatClampNeg) else none))
  | .anewarray _ => sm_pI st fun n r => if n < 0 ∨ 1000000 < n.toNatClampNeg then none else K (pc + 3) ls (.ref h.2.1 :: r) (sm_n h (.inl (P.2.2.2.1 x, n.toNatClampNeg, .inr (.inr (.inr (.inr (fun _ => none)))))) n.toNatClampNeg)
  | .multianewarray _ _ => sm_pI st fun k r => sm_pI r fun n r => if (n < 0 ∨ 1000000 < n.toNatClampNeg) ∨ (k < 0 ∨ 1000000 < k.toNatClampNeg) then none else K (pc + 4) ls (.ref h.2.1 :: r) (sm_mn h n.toNatClampNeg k.toNatClampNeg)
  | .ldc _ => (match z with
    | 0 => K (pc + 2) ls (.int (Int32.ofNat x) :: st) h
    | _ + 1 => K (pc + 2) ls (.retAddr x :: st) h)
  | .ldc2_w _ => K (pc + 3) ls (.long (Int64.ofNat x) :: st) h
  | .i2c => sm_pI st fun a r => K (pc + 1) ls (.int (a.toUInt32 % 65536).toInt32 :: r) h
  | .l2i => sm_pJ st fun a r => K (pc + 1) ls (.int a.toInt32 :: r) h
  | .lconst n => K (pc + 1) ls (.long (Int64.ofNat (n : Nat)) :: st) h
  | .ldiv => sm_pJ st fun b r => sm_pJ r fun a r => if b = 0 then none else K (pc + 1) ls (.long (a / b) :: r) h
  | .lrem => sm_pJ st fun b r => sm_pJ r fun a r => if b = 0 then none else K (pc + 1) ls (.long (a - a / b * b) :: r) h
  | .ladd => sm_pJ st fun b r => sm_pJ r fun a r => K (pc + 1) ls (.long (a + b) :: r) h
  | .lmul => sm_pJ st fun b r => sm_pJ r fun a r => K (pc + 1) ls (.long (a * b) :: r) h
  | .i2l => sm_pI st fun a r => K (pc + 1) ls (.long a.toInt64 :: r) h
  | .lcmp => sm_pJ st fun b r => sm_pJ r fun a r => K (pc + 1) ls (.int (lg_cmp a b) :: r) h
  | .tableswitch d lo hi offs => sm_pI st fun a r => if a.toInt < lo ∨ hi < a.toInt then K (sm_tg pc d) ls r h else sm_sw offs[(a.toInt - lo).toNat]? fun o => K (sm_tg pc o) ls r h
  | i => sm_s6 P C K i x y z pc ls st h
def sm_s4 (i : Instr) (x y z pc : Nat) (ls : smL) (st : List Value) (h : smH) : smR := match i with
  | .goto o => K (sm_tg pc o) ls st h
  | .ifCond c o => sm_pI st fun a r => (match c with
    | .eq => if a = 0 then K (sm_tg pc o) ls r h else K (pc + 3) ls r h
    | .ne => if a = 0 then K (pc + 3) ls r h else K (sm_tg pc o) ls r h
    | .lt => if a < 0 then K (sm_tg pc o) ls r h else K (pc + 3) ls r h
    | .ge => if 0 ≤ a then K (sm_tg pc o) ls r h else K (pc + 3) ls r h
    | .gt => if 0 < a then K (sm_tg pc o) ls r h else K (pc + 3) ls r h
    | .le => if a ≤ 0 then K (sm_tg pc o) ls r h else K (pc + 3) ls r h)
  | .if_icmp c o => sm_pI st fun b r => sm_pI r fun a r => (match c with
    | .eq => if a = b then K (sm_tg pc o) ls r h else K (pc + 3) ls r h
    | .ne => if a = b then K (pc + 3) ls r h else K (sm_tg pc o) ls r h
    | .lt => if a < b then K (sm_tg pc o) ls r h else K (pc + 3) ls r h
    | .ge => if b ≤ a then K (sm_tg pc o) ls r h else K (pc + 3) ls r h
    | .gt => if b < a then K (sm_tg pc o) ls r h else K (pc + 3) ls r h
    | .le => if a ≤ b then K (sm_tg pc o) ls r h else K (pc + 3) ls r h)
  | .ifnull o => (match st with
    | .ref _ :: r => K (pc + 3) ls r h
    | .null :: r => K (sm_tg pc o) ls r h
    | _ => none)
  | .ifnonnull o => (match st with
    | .ref _ :: r => K (sm_tg pc o) ls r h
    | .null :: r => K (pc + 3) ls r h
    | _ => none)
  | .iinc k _ => sm_gI (sm_lg k ls) fun v => K (pc + 3) (sm_l1 k (.int (v + sm_k x y)) ls) st h
  | i => sm_s5 P C K i x y z pc ls st h
def sm_s3 (i : Instr) (x y z pc : Nat) (ls : smL) (st : List Value) (h : smH) : smR := match i with
  | .getfield _ => (match z with
    | 0 => sm_pR st fun a r => sm_gI (sm_f h a x y) fun v => K (pc + 3) ls (.int v :: r) h
    | 1 => sm_pR st fun a r => sm_gR (sm_f h a x y) fun v => K (pc + 3) ls (.ref v :: r) h
    | 2 => sm_pT st fun t r => bif Nat.blt t P.2.2.2.2.1.length then K (pc + 3) ls (.retAddr (t + 16) :: r) h else none
    | _ => sm_pT st fun t r => bif Nat.blt t P.2.2.2.2.1.length then K (pc + 3) ls (.int 0 :: r) h else none)
  | .putfield _ => (match z with
    | 0 => sm_pI st fun v r => sm_pR r fun a r => sm_fP h a x y (.int v) fun h => K (pc + 3) ls r h
    | 1 => sm_pR st fun v r => sm_pR r fun a r => sm_fP h a x y (.ref v) fun h => K (pc + 3) ls r h
    | _ => sm_pI st fun v r => sm_pR r fun a r => if narrow (P.2.1 x y) (.int v) = .int v ∧ fits (P.2.1 x y) (.int v) = true then sm_fP h a x y (.int v) fun h => K (pc + 3) ls r h else none)
  | .iaload => sm_pI st fun i r => sm_pV r fun a r => sm_ld (sm_ar P X h a) .int i fun v => K (pc + 1) ls (.int v :: r) h
  | .caload => sm_pI st fun i r => sm_pV r fun a r => sm_ld (sm_ar P X h a) .char i fun v => K (pc + 1) ls (.int v :: r) h
  | .baload => (match z with
    | 0 => sm_pI st fun i r => sm_pV r fun a r => sm_ld (sm_ar P X h a) .boolean i fun v => K (pc + 1) ls (.int v :: r) h
    | _ => sm_pI st fun i r => sm_pV r fun a r => sm_ld (sm_ar P X h a) .byte i fun v => K (pc + 1) ls (.int v :: r) h)
  | .aaload => sm_pI st fun i r => sm_pR r fun a r => sm_ldR (sm_ar P X h (.ref a)) i fun b => K (pc + 1) ls (.ref b :: r) h
  | .iastore => sm_pI st fun v r => sm_pI r fun i r => sm_pR r fun a r => sm_st h a .int i v fun h => K (pc + 1) ls r h
  | .castore => sm_pI st fun v r => sm_pI r fun i r => sm_pR r fun a r => sm_st h a .char i (vp_nar .char v) fun h => K (pc + 1) ls r h
  | .bastore => sm_pI st fun v r => sm_pI r fun i r => sm_pR r fun a r => sm_st h a .boolean i (vp_nar .boolean v) fun h => K (pc + 1) ls r h
  | .laload => sm_pI st fun i r => sm_pR r fun a r => sm_ldJ (sm_ar P X h (.ref a)) i fun v => K (pc + 1) ls (.long v :: r) h
  | .lastore => sm_pJ st fun v r => sm_pI r fun i r => sm_pR r fun a r => sm_stJ h a i v fun h => K (pc + 1) ls r h
  | .aastore => sm_pR st fun v r => sm_pI r fun i r => sm_pR r fun a r => sm_stR P h a i v fun h => K (pc + 1) ls r h
  | .arraylength => sm_pV st fun a r => sm_al (sm_ar P X h a) fun n => K (pc + 1) ls (.int (Int32.ofNat n) :: r) h
  | i => sm_s4 P C K i x y z pc ls st h
def sm_s2 (i : Instr) (x y z pc : Nat) (ls : smL) (st : List Value) (h : smH) : smR := match i with
  | .iadd => sm_pI st fun b r => sm_pI r fun a r => K (pc + 1) ls (.int (a + b) :: r) h
  | .isub => sm_pI st fun b r => sm_pI r fun a r => K (pc + 1) ls (.int (a - b) :: r) h
  | .imul => sm_pI st fun b r => sm_pI r fun a r => K (pc + 1) ls (.int (a * b) :: r) h
  | .iand => sm_pI st fun b r => sm_pI r fun a r => K (pc + 1) ls (.int (a &&& b) :: r) h
  | .ishr => sm_pI st fun b r => sm_pI r fun a r => K (pc + 1) ls (.int (a >>> (b &&& 31)) :: r) h
  | .ixor => sm_pI st fun b r => sm_pI r fun a r => K (pc + 1) ls (.int (a ^^^ b) :: r) h
  | .ior => sm_pI st fun b r => sm_pI r fun a r => K (pc + 1) ls (.int (a ||| b) :: r) h
  | .idiv => sm_pI st fun b r => sm_pI r fun a r => if b = 0 then none else K (pc + 1) ls (.int (a / b) :: r) h
  | .irem => sm_pI st fun b r => sm_pI r fun a r => if b = 0 then none else K (pc + 1) ls (.int (a - a / b * b) :: r) h
  | .dup => sm_pV st fun a r => bif sm_cat1 a then K (pc + 1) ls (a :: a :: r) h else none
  | .pop => sm_pV st fun a r => bif sm_cat1 a then K (pc + 1) ls r h else none
  | .dup2 => sm_pV st fun a r => sm_pV r fun b r => bif sm_cat1 a && sm_cat1 b then K (pc + 1) ls (a :: b :: a :: b :: r) h else none
  | i => sm_s3 P X C K i x y z pc ls st h
def sm_s1 (i : Instr) (x y z pc : Nat) (ls : smL) (st : List Value) (h : smH) : smR := match i with
  | .iload_n k => sm_gI (sm_lg k.val ls) fun v => K (pc + 1) ls (.int v :: st) h
  | .iload k => sm_gI (sm_lg k ls) fun v => K (pc + 2) ls (.int v :: st) h
  | .aload_n k => sm_gA (sm_lg k.val ls) fun v => K (pc + 1) ls (v :: st) h
  | .aload k => sm_gA (sm_lg k ls) fun v => K (pc + 2) ls (v :: st) h
  | .lload_n k => sm_gJ (sm_lg k.val ls) fun v => K (pc + 1) ls (.long v :: st) h
  | .lload k => sm_gJ (sm_lg k ls) fun v => K (pc + 2) ls (.long v :: st) h
  | .istore_n k => sm_pI st fun v r => K (pc + 1) (sm_l1 k.val (.int v) ls) r h
  | .istore k => sm_pI st fun v r => K (pc + 2) (sm_l1 k (.int v) ls) r h
  | .astore_n k => sm_gA st.head? fun v => K (pc + 1) (sm_l1 k.val v ls) st.tail h
  | .astore k => sm_gA st.head? fun v => K (pc + 2) (sm_l1 k v ls) st.tail h
  | .lstore_n k => sm_pJ st fun v r => K (pc + 1) (sm_l2 k.val (.long v) ls) r h
  | .lstore k => sm_pJ st fun v r => K (pc + 2) (sm_l2 k (.long v) ls) r h
  | .iconst _ => K (pc + 1) ls (.int (sm_k x y) :: st) h
  | .bipush _ => K (pc + 2) ls (.int (sm_k x y) :: st) h
  | .sipush _ => K (pc + 3) ls (.int (sm_k x y) :: st) h
  | .aconst_null => K (pc + 1) ls (.null :: st) h
  | i => sm_s2 P X C K i x y z pc ls st h
/-- one instruction of method m -/
def sm_step (m pc : Nat) (ls : smL) (st : List Value) (h : smH) : smR := match sm_code P m pc with
  | some (i, _, x, y, z) => sm_s1 P X C (fun pc ls st h => K pc (sm_tr P m pc ls) st h) i x y z pc ls st h
  | none => none
end SMSTEP
def sm_X (P : smP) (X : smX) : Nat → Nat → smK
  | 0, _ => fun _ _ _ _ => none
  | n + 1, m => sm_step P X (fun m' as h => sm_X P X n m' 0 (lv_args 0 as) [] h) (sm_X P X n m) m

/-! what one instruction uses: nothing, the rest once, or a call and the rest once -/
def sm_le (h h' : smH) : Prop := h.2.1 ≤ h'.2.1 ∧ h.2.2 ≤ h'.2.2
theorem sm_le.rf {h : smH} : sm_le h h := ⟨Nat.le_refl _, Nat.le_refl _⟩
theorem sm_le.tr {a b c : smH} (h1 : sm_le a b) (h2 : sm_le b c) : sm_le a c := ⟨Nat.le_trans h1.1 h2.1, Nat.le_trans h1.2 h2.2⟩
theorem sm_le.w {h : smH} {a : Nat} {e : smC} : sm_le h (sm_w h a e) := ⟨Nat.le_refl _, Nat.le_refl _⟩
theorem sm_le.n {h : smH} {e : smC} {k : Nat} : sm_le h (sm_n h e k) := ⟨Nat.le_succ _, Nat.le_add_right _ _⟩
theorem sm_le.mn {h : smH} {n k : Nat} : sm_le h (sm_mn h n k) := ⟨by show h.2.1 ≤ h.2.1 + 1 + n; omega, by show h.2.2 ≤ h.2.2 + _; omega⟩
abbrev smCT : Type := Nat → List Value → smH → smR
def sm_Us (h0 : smH) (F : smCT → smK → smR) : Prop := ∀ (C : smCT) (K : smK) (r : Option Value × smH), F C K = some r →
  (sm_le h0 r.2 ∧ ∀ C' K', F C' K' = some r) ∨
  (∃ pc ls st h, sm_le h0 h ∧ K pc ls st h = some r ∧ ∀ (C' : smCT) (K' : smK), K' pc ls st h = some r → F C' K' = some r) ∨
  (∃ m as h1 v h2 pc ls st, sm_le h0 h1 ∧ C m as h1 = some (v, h2) ∧ K pc ls st h2 = some r ∧ ∀ (C' : smCT) (K' : smK), C' m as h1 = some (v, h2) → K' pc ls st h2 = some r → F C' K' = some r)
theorem sm_Us.non {h0 : smH} : sm_Us h0 (fun _ _ => none) := fun _ _ _ h => by cases h
theorem sm_Us.som {h0 : smH} {r : Option Value × smH} (hl : sm_le h0 r.2) : sm_Us h0 (fun _ _ => some r) := fun _ _ _ h => by cases h; exact Or.inl ⟨hl, fun _ _ => rfl⟩
theorem sm_Us.kk {h0 : smH} {pc : Nat} {ls : smL} {st : List Value} {h : smH} (hl : sm_le h0 h) : sm_Us h0 (fun _ K => K pc ls st h) := fun _ _ _ e => Or.inr (Or.inl ⟨pc, ls, st, h, hl, e, fun _ _ z => z⟩)
theorem sm_Us.call {h0 : smH} {m pc : Nat} {as r : List Value} {ls : smL} {h : smH} (hl : sm_le h0 h) : sm_Us h0 (fun C K => sm_cR (C m as h) fun v h => K pc ls (v.toList ++ r) h) := fun C K q e => by
  cases hc : C m as h with
  | none => simp [hc, sm_cR] at e
  | some p =>
    obtain ⟨v, h2⟩ := p
    simp only [hc, sm_cR] at e
    exact Or.inr (Or.inr ⟨m, as, h, v, h2, pc, ls, v.toList ++ r, hl, hc, e, fun C' K' z1 z2 => by simp only [z1, sm_cR]; exact z2⟩)
theorem sm_Us.ite {h0 : smH} {c : Prop} [Decidable c] {F G : smCT → smK → smR} (hF : sm_Us h0 F) (hG : sm_Us h0 G) : sm_Us h0 (fun C K => if c then F C K else G C K) := by
  by_cases h : c
  · simp only [h, if_true]; exact hF
  · simp only [h, if_false]; exact hG
theorem sm_Us.bif {h0 : smH} {c : Bool} {F G : smCT → smK → smR} (hF : sm_Us h0 F) (hG : sm_Us h0 G) : sm_Us h0 (fun C K => bif c then F C K else G C K) := by
  cases c
  · exact hG
  · exact hF
theorem sm_Us.pI {h0 : smH} {st : List Value} {F : Int32 → List Value → smCT → smK → smR} (hF : ∀ x r, sm_Us h0 (F x r)) : sm_Us h0 (fun C K => sm_pI st fun x r => F x r C K) := by
  unfold sm_pI; split
  · exact hF _ _
  · exact sm_Us.non
theorem sm_Us.pJ {h0 : smH} {st : List Value} {F : Int64 → List Value → smCT → smK → smR} (hF : ∀ x r, sm_Us h0 (F x r)) : sm_Us h0 (fun C K => sm_pJ st fun x r => F x r C K) := by
  unfold sm_pJ; split
  · exact hF _ _
  · exact sm_Us.non
theorem sm_Us.pR {h0 : smH} {st : List Value} {F : Nat → List Value → smCT → smK → smR} (hF : ∀ x r, sm_Us h0 (F x r)) : sm_Us h0 (fun C K => sm_pR st fun x r => F x r C K) := by
  unfold sm_pR; split
  · exact hF _ _
  · exact sm_Us.non
theorem sm_Us.pT {h0 : smH} {st : List Value} {F : Nat → List Value → smCT → smK → smR} (hF : ∀ x r, sm_Us h0 (F x r)) : sm_Us h0 (fun C K => sm_pT st fun x r => F x r C K) := by
  unfold sm_pT; split
  · exact hF _ _
  · exact sm_Us.non
theorem sm_Us.pV {h0 : smH} {st : List Value} {F : Value → List Value → smCT → smK → smR} (hF : ∀ x r, sm_Us h0 (F x r)) : sm_Us h0 (fun C K => sm_pV st fun x r => F x r C K) := by
  unfold sm_pV; split
  · exact hF _ _
  · exact sm_Us.non
theorem sm_Us.gI {h0 : smH} {o : Option Value} {F : Int32 → smCT → smK → smR} (hF : ∀ x, sm_Us h0 (F x)) : sm_Us h0 (fun C K => sm_gI o fun x => F x C K) := by
  unfold sm_gI; split
  · exact hF _
  · exact sm_Us.non
theorem sm_Us.gJ {h0 : smH} {o : Option Value} {F : Int64 → smCT → smK → smR} (hF : ∀ x, sm_Us h0 (F x)) : sm_Us h0 (fun C K => sm_gJ o fun x => F x C K) := by
  unfold sm_gJ; split
  · exact hF _
  · exact sm_Us.non
theorem sm_Us.gR {h0 : smH} {o : Option Value} {F : Nat → smCT → smK → smR} (hF : ∀ x, sm_Us h0 (F x)) : sm_Us h0 (fun C K => sm_gR o fun x => F x C K) := by
  unfold sm_gR; split
  · exact hF _
  · exact sm_Us.non
theorem sm_Us.gA {h0 : smH} {o : Option Value} {F : Value → smCT → smK → smR} (hF : ∀ x, sm_Us h0 (F x)) : sm_Us h0 (fun C K => sm_gA o fun x => F x C K) := by
  unfold sm_gA; split
  · exact hF _
  · exact hF _
  · exact hF _
  · exact sm_Us.non
theorem sm_Us.fP {h0 h : smH} {a ci k : Nat} {v : Value} {F : smH → smCT → smK → smR} (hl : sm_le h0 h) (hF : ∀ h', sm_le h0 h' → sm_Us h0 (F h')) : sm_Us h0 (fun C K => sm_fP h a ci k v fun x => F x C K) := by
  unfold sm_fP; split
  · exact sm_Us.bif (hF _ (hl.tr sm_le.w)) sm_Us.non
  · exact sm_Us.non
theorem sm_Us.ld {h0 : smH} {o : Option (FieldType × vp_A)} {ty : FieldType} {i : Int32} {F : Int32 → smCT → smK → smR} (hF : ∀ x, sm_Us h0 (F x)) : sm_Us h0 (fun C K => sm_ld o ty i fun x => F x C K) := by
  unfold sm_ld; split
  · exact sm_Us.ite (sm_Us.ite sm_Us.non (hF _)) sm_Us.non
  · exact sm_Us.non
theorem sm_Us.ldR {h0 : smH} {o : Option (FieldType × vp_A)} {i : Int32} {F : Nat → smCT → smK → smR} (hF : ∀ x, sm_Us h0 (F x)) : sm_Us h0 (fun C K => sm_ldR o i fun x => F x C K) := by
  unfold sm_ldR; split
  · refine sm_Us.bif (sm_Us.ite sm_Us.non ?_) sm_Us.non
    split
    · exact hF _
    · exact sm_Us.non
  · exact sm_Us.non
theorem sm_Us.sst {h0 h : smH} {a : Nat} {ty : FieldType} {i x : Int32} {F : smH → smCT → smK → smR} (hl : sm_le h0 h) (hF : ∀ h', sm_le h0 h' → sm_Us h0 (F h')) : sm_Us h0 (fun C K => sm_st h a ty i x fun x => F x C K) := by
  unfold sm_st; split
  · exact sm_Us.ite (sm_Us.ite sm_Us.non (hF _ (hl.tr sm_le.w))) sm_Us.non
  · exact sm_Us.non
theorem sm_Us.stR {P : smP} {h0 h : smH} {a : Nat} {i : Int32} {x : Nat} {F : smH → smCT → smK → smR} (hl : sm_le h0 h) (hF : ∀ h', sm_le h0 h' → sm_Us h0 (F h')) : sm_Us h0 (fun C K => sm_stR P h a i x fun x => F x C K) := by
  unfold sm_stR; split
  · split
    · exact sm_Us.ite (sm_Us.ite sm_Us.non (hF _ (hl.tr sm_le.w))) sm_Us.non
    · exact sm_Us.non
  · exact sm_Us.non
theorem sm_Us.ldJ {h0 : smH} {o : Option (FieldType × vp_A)} {i : Int32} {F : Int64 → smCT → smK → smR} (hF : ∀ x, sm_Us h0 (F x)) : sm_Us h0 (fun C K => sm_ldJ o i fun x => F x C K) := by
  unfold sm_ldJ; split
  · exact sm_Us.ite (sm_Us.ite sm_Us.non (hF _)) sm_Us.non
  · exact sm_Us.non
theorem sm_Us.stJ {h0 h : smH} {a : Nat} {i : Int32} {x : Int64} {F : smH → smCT → smK → smR} (hl : sm_le h0 h) (hF : ∀ h', sm_le h0 h' → sm_Us h0 (F h')) : sm_Us h0 (fun C K => sm_stJ h a i x fun x => F x C K) := by
  unfold sm_stJ; split
  · exact sm_Us.ite (sm_Us.ite sm_Us.non (hF _ (hl.tr sm_le.w))) sm_Us.non
  · exact sm_Us.non
theorem sm_Us.al {h0 : smH} {o : Option (FieldType × vp_A)} {F : Nat → smCT → smK → smR} (hF : ∀ x, sm_Us h0 (F x)) : sm_Us h0 (fun C K => sm_al o fun x => F x C K) := by
  unfold sm_al; split
  · exact hF _
  · exact sm_Us.non
theorem sm_Us.sw {h0 : smH} {o : Option Int} {F : Int → smCT → smK → smR} (hF : ∀ x, sm_Us h0 (F x)) : sm_Us h0 (fun C K => sm_sw o fun x => F x C K) := by
  unfold sm_sw; split
  · exact hF _
  · exact sm_Us.non
theorem sm_Us.vc {h0 h : smH} {a c : Nat} {F : smCT → smK → smR} (hF : sm_Us h0 F) : sm_Us h0 (fun C K => sm_vc h a c (F C K)) := by
  unfold sm_vc; split
  · exact sm_Us.bif hF sm_Us.non
  · exact sm_Us.non
theorem sm_Us.comp {h0 : smH} {F : smCT → smK → smR} (g : Nat → smL → smL) (hF : sm_Us h0 F) : sm_Us h0 (fun C K => F C (fun pc ls st h => K pc (g pc ls) st h)) := by
  intro C K r e
  rcases hF C _ r e with ⟨l1, u⟩ | ⟨pc, ls, st, h, l1, k, u⟩ | ⟨m, as, h1, v, h2, pc, ls, st, l1, c, k, u⟩
  · exact Or.inl ⟨l1, fun _ _ => u _ _⟩
  · exact Or.inr (Or.inl ⟨pc, g pc ls, st, h, l1, k, fun _ _ z => u _ _ z⟩)
  · exact Or.inr (Or.inr ⟨m, as, h1, v, h2, pc, g pc ls, st, l1, c, k, fun _ _ z1 z2 => u _ _ z1 z2⟩)
theorem sm_Us.pN {h0 : smH} {n : Nat} {st : List Value} {F : List Value → List Value → smCT → smK → smR} (hF : ∀ x r, sm_Us h0 (F x r)) : sm_Us h0 (fun C K => sm_pN n st fun x r => F x r C K) := by
  unfold sm_pN
  exact sm_Us.bif (hF _ _) sm_Us.non
set_option maxHeartbeats 4000000 in
theorem sm_Us.s6 (P : smP) (X : smX) (i : Instr) (x y z pc : Nat) (ls : smL) (st : List Value) (h : smH) : sm_Us h (fun C K => sm_s6 P C K i x y z pc ls st h) := by
  unfold sm_s6
  repeat' first
    | exact sm_Us.non
    | exact sm_Us.som (by assumption)
    | exact sm_Us.som sm_le.rf
    | exact sm_Us.call (by assumption)
    | exact sm_Us.call sm_le.rf
    | exact sm_Us.kk (by assumption)
    | exact sm_Us.kk sm_le.rf
    | exact sm_Us.kk sm_le.n
    | exact sm_Us.kk sm_le.mn
    | refine sm_Us.pI fun _ _ => ?_
    | refine sm_Us.pJ fun _ _ => ?_
    | refine sm_Us.pR fun _ _ => ?_
    | refine sm_Us.pT fun _ _ => ?_
    | refine sm_Us.pV fun _ _ => ?_
    | refine sm_Us.pN fun _ _ => ?_
    | refine sm_Us.gI fun _ => ?_
    | refine sm_Us.gJ fun _ => ?_
    | refine sm_Us.gR fun _ => ?_
    | refine sm_Us.gA fun _ => ?_
    | refine sm_Us.ld fun _ => ?_
    | refine sm_Us.al fun _ => ?_
    | refine sm_Us.sw fun _ => ?_
    | refine sm_Us.vc ?_
    | refine sm_Us.ldR fun _ => ?_
    | refine sm_Us.ldJ fun _ => ?_
    | refine sm_Us.stJ sm_le.rf fun _ _ => ?_
    | refine sm_Us.fP sm_le.rf fun _ _ => ?_
    | refine sm_Us.sst sm_le.rf fun _ _ => ?_
    | refine sm_Us.stR sm_le.rf fun _ _ => ?_
    | refine sm_Us.ite ?_ ?_
    | refine sm_Us.bif ?_ ?_
    | split
set_option maxHeartbeats 4000000 in
theorem sm_Us.s5 (P : smP) (X : smX) (i : Instr) (x y z pc : Nat) (ls : smL) (st : List Value) (h : smH) : sm_Us h (fun C K => sm_s5 P C K i x y z pc ls st h) := by
  unfold sm_s5
  repeat' first
    | exact sm_Us.non
    | exact sm_Us.som (by assumption)
    | exact sm_Us.som sm_le.rf
    | exact sm_Us.call (by assumption)
    | exact sm_Us.call sm_le.rf
    | exact sm_Us.kk (by assumption)
    | exact sm_Us.kk sm_le.rf
    | exact sm_Us.kk sm_le.n
    | exact sm_Us.kk sm_le.mn
    | refine sm_Us.pI fun _ _ => ?_
    | refine sm_Us.pJ fun _ _ => ?_
    | refine sm_Us.pR fun _ _ => ?_
    | refine sm_Us.pT fun _ _ => ?_
    | refine sm_Us.pV fun _ _ => ?_
    | refine sm_Us.pN fun _ _ => ?_
    | refine sm_Us.gI fun _ => ?_
    | refine sm_Us.gJ fun _ => ?_
    | refine sm_Us.gR fun _ => ?_
    | refine sm_Us.gA fun _ => ?_
    | refine sm_Us.ld fun _ => ?_
    | refine sm_Us.al fun _ => ?_
    | refine sm_Us.sw fun _ => ?_
    | refine sm_Us.vc ?_
    | refine sm_Us.ldR fun _ => ?_
    | refine sm_Us.ldJ fun _ => ?_
    | refine sm_Us.stJ sm_le.rf fun _ _ => ?_
    | refine sm_Us.fP sm_le.rf fun _ _ => ?_
    | refine sm_Us.sst sm_le.rf fun _ _ => ?_
    | refine sm_Us.stR sm_le.rf fun _ _ => ?_
    | refine sm_Us.ite ?_ ?_
    | refine sm_Us.bif ?_ ?_
    | exact sm_Us.s6 P X _ x y z pc ls st h
    | split
set_option maxHeartbeats 4000000 in
theorem sm_Us.s4 (P : smP) (X : smX) (i : Instr) (x y z pc : Nat) (ls : smL) (st : List Value) (h : smH) : sm_Us h (fun C K => sm_s4 P C K i x y z pc ls st h) := by
  unfold sm_s4
  repeat' first
    | exact sm_Us.non
    | exact sm_Us.som (by assumption)
    | exact sm_Us.som sm_le.rf
    | exact sm_Us.call (by assumption)
    | exact sm_Us.call sm_le.rf
    | exact sm_Us.kk (by assumption)
    | exact sm_Us.kk sm_le.rf
    | exact sm_Us.kk sm_le.n
    | exact sm_Us.kk sm_le.mn
    | refine sm_Us.pI fun _ _ => ?_
    | refine sm_Us.pJ fun _ _ => ?_
    | refine sm_Us.pR fun _ _ => ?_
    | refine sm_Us.pT fun _ _ => ?_
    | refine sm_Us.pV fun _ _ => ?_
    | refine sm_Us.pN fun _ _ => ?_
    | refine sm_Us.gI fun _ => ?_
    | refine sm_Us.gJ fun _ => ?_
    | refine sm_Us.gR fun _ => ?_
    | refine sm_Us.gA fun _ => ?_
    | refine sm_Us.ld fun _ => ?_
    | refine sm_Us.al fun _ => ?_
    | refine sm_Us.sw fun _ => ?_
    | refine sm_Us.vc ?_
    | refine sm_Us.ldR fun _ => ?_
    | refine sm_Us.ldJ fun _ => ?_
    | refine sm_Us.stJ sm_le.rf fun _ _ => ?_
    | refine sm_Us.fP sm_le.rf fun _ _ => ?_
    | refine sm_Us.sst sm_le.rf fun _ _ => ?_
    | refine sm_Us.stR sm_le.rf fun _ _ => ?_
    | refine sm_Us.ite ?_ ?_
    | refine sm_Us.bif ?_ ?_
    | exact sm_Us.s5 P X _ x y z pc ls st h
    | split
set_option maxHeartbeats 4000000 in
theorem sm_Us.s3 (P : smP) (X : smX) (i : Instr) (x y z pc : Nat) (ls : smL) (st : List Value) (h : smH) : sm_Us h (fun C K => sm_s3 P X C K i x y z pc ls st h) := by
  unfold sm_s3
  repeat' first
    | exact sm_Us.non
    | exact sm_Us.som (by assumption)
    | exact sm_Us.som sm_le.rf
    | exact sm_Us.call (by assumption)
    | exact sm_Us.call sm_le.rf
    | exact sm_Us.kk (by assumption)
    | exact sm_Us.kk sm_le.rf
    | exact sm_Us.kk sm_le.n
    | exact sm_Us.kk sm_le.mn
    | refine sm_Us.pI fun _ _ => ?_
    | refine sm_Us.pJ fun _ _ => ?_
    | refine sm_Us.pR fun _ _ => ?_
    | refine sm_Us.pT fun _ _ => ?_
    | refine sm_Us.pV fun _ _ => ?_
    | refine sm_Us.pN fun _ _ => ?_
    | refine sm_Us.gI fun _ => ?_
    | refine sm_Us.gJ fun _ => ?_
    | refine sm_Us.gR fun _ => ?_
    | refine sm_Us.gA fun _ => ?_
    | refine sm_Us.ld fun _ => ?_
    | refine sm_Us.al fun _ => ?_
    | refine sm_Us.sw fun _ => ?_
    | refine sm_Us.vc ?_
    | refine sm_Us.ldR fun _ => ?_
    | refine sm_Us.ldJ fun _ => ?_
    | refine sm_Us.stJ sm_le.rf fun _ _ => ?_
    | refine sm_Us.fP sm_le.rf fun _ _ => ?_
    | refine sm_Us.sst sm_le.rf fun _ _ => ?_
    | refine sm_Us.stR sm_le.rf fun _ _ => ?_
    | refine sm_Us.ite ?_ ?_
    | refine sm_Us.bif ?_ ?_
    | exact sm_Us.s4 P X _ x y z pc ls st h
    | split
set_option maxHeartbeats 4000000 in
theorem sm_Us.s2 (P : smP) (X : smX) (i : Instr) (x y z pc : Nat) (ls : smL) (st : List Value) (h : smH) : sm_Us h (fun C K => sm_s2 P X C K i x y z pc ls st h) := by
  unfold sm_s2
  repeat' first
    | exact sm_Us.non
    | exact sm_Us.som (by assumption)
    | exact sm_Us.som sm_le.rf
    | exact sm_Us.call (by assumption)
    | exact sm_Us.call sm_le.rf
    | exact sm_Us.kk (by assumption)
    | exact sm_Us.kk sm_le.rf
    | exact sm_Us.kk sm_le.n
    | exact sm_Us.kk sm_le.mn
    | refine sm_Us.pI fun _ _ => ?_
    | refine sm_Us.pJ fun _ _ => ?_
    | refine sm_Us.pR fun _ _ => ?_
    | refine sm_Us.pT fun _ _ => ?_
    | refine sm_Us.pV fun _ _ => ?_
    | refine sm_Us.pN fun _ _ => ?_
    | refine sm_Us.gI fun _ => ?_
    | refine sm_Us.gJ fun _ => ?_
    | refine sm_Us.gR fun _ => ?_
    | refine sm_Us.gA fun _ => ?_
    | refine sm_Us.ld fun _ => ?_
    | refine sm_Us.al fun _ => ?_
    | refine sm_Us.sw fun _ => ?_
    | refine sm_Us.vc ?_
    | refine sm_Us.ldR fun _ => ?_
    | refine sm_Us.ldJ fun _ => ?_
    | refine sm_Us.stJ sm_le.rf fun _ _ => ?_
    | refine sm_Us.fP sm_le.rf fun _ _ => ?_
    | refine sm_Us.sst sm_le.rf fun _ _ => ?_
    | refine sm_Us.stR sm_le.rf fun _ _ => ?_
    | refine sm_Us.ite ?_ ?_
    | refine sm_Us.bif ?_ ?_
    | exact sm_Us.s3 P X _ x y z pc ls st h
    | split
set_option maxHeartbeats 4000000 in
theorem sm_Us.s1 (P : smP) (X : smX) (i : Instr) (x y z pc : Nat) (ls : smL) (st : List Value) (h : smH) : sm_Us h (fun C K => sm_s1 P X C K i x y z pc ls st h) := by
  unfold sm_s1
  repeat' first
    | exact sm_Us.non
    | exact sm_Us.som (by assumption)
    | exact sm_Us.som sm_le.rf
    | exact sm_Us.call (by assumption)
    | exact sm_Us.call sm_le.rf
    | exact sm_Us.kk (by assumption)
    | exact sm_Us.kk sm_le.rf
    | exact sm_Us.kk sm_le.n
    | exact sm_Us.kk sm_le.mn
    | refine sm_Us.pI fun _ _ => ?_
    | refine sm_Us.pJ fun _ _ => ?_
    | refine sm_Us.pR fun _ _ => ?_
    | refine sm_Us.pT fun _ _ => ?_
    | refine sm_Us.pV fun _ _ => ?_
    | refine sm_Us.pN fun _ _ => ?_
    | refine sm_Us.gI fun _ => ?_
    | refine sm_Us.gJ fun _ => ?_
    | refine sm_Us.gR fun _ => ?_
    | refine sm_Us.gA fun _ => ?_
    | refine sm_Us.ld fun _ => ?_
    | refine sm_Us.al fun _ => ?_
    | refine sm_Us.sw fun _ => ?_
    | refine sm_Us.vc ?_
    | refine sm_Us.ldR fun _ => ?_
    | refine sm_Us.ldJ fun _ => ?_
    | refine sm_Us.stJ sm_le.rf fun _ _ => ?_
    | refine sm_Us.fP sm_le.rf fun _ _ => ?_
    | refine sm_Us.sst sm_le.rf fun _ _ => ?_
    | refine sm_Us.stR sm_le.rf fun _ _ => ?_
    | refine sm_Us.ite ?_ ?_
    | refine sm_Us.bif ?_ ?_
    | exact sm_Us.s2 P X _ x y z pc ls st h
    | split

theorem sm_Us.step (P : smP) (X : smX) (m pc : Nat) (ls : smL) (st : List Value) (h : smH) : sm_Us h (fun C K => sm_step P X C K m pc ls st h) := by
  unfold sm_step
  split
  · exact sm_Us.comp (sm_tr P m) (sm_Us.s1 P X _ _ _ _ _ _ _ _)
  · exact sm_Us.non
