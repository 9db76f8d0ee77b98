/-! blocks, printed by wip/whole/mkblocks.py -/
/-! 0: WornSums$Text.<init>()V -/
theorem c0 (X : smX) (x0 : Nat) (h : smH) : sm_C PP X 0 [.ref x0] h = sm_E PP X 0 0 [(0, .ref x0)] [] h := rfl
set_option maxRecDepth 4000 in
theorem b0_0 (X : smX) (x0 : Nat) (h : smH) : sm_E PP X 0 0 [(0, .ref x0)] [] h =
    if (nI 40) < 0 ∨ 1000000 < (nI 40).toNatClampNeg then none else sm_fP (sm_n h (.inl (.char, (nI 40).toNatClampNeg, .inl (fun _ => 0))) (nI 40).toNatClampNeg) x0 6 0 (.ref h.2.1) fun h1 => sm_fP h1 x0 6 1 (.int (nI 0)) fun h2 => some (none, h2) :=
  (sm_blk PP X 0 [0] 12 0 _ _ _).trans rfl
/-! 1: WornSums$Row.<init>(I)V -/
theorem c1 (X : smX) (x0 : Nat) (x1 : Int32) (h : smH) : sm_C PP X 1 [.ref x0, .int x1] h = sm_E PP X 1 0 [(0, .ref x0), (1, .int x1)] [] h := rfl
set_option maxRecDepth 4000 in
theorem b1_0 (X : smX) (x0 : Nat) (x1 : Int32) (h : smH) : sm_E PP X 1 0 [(0, .ref x0), (1, .int x1)] [] h =
    sm_fP h x0 4 1 (.int (nI 0)) fun h1 => if (if x1 < (nI 0) then (nI 0) else x1) < 0 ∨ 1000000 < (if x1 < (nI 0) then (nI 0) else x1).toNatClampNeg then none else sm_fP (sm_n h1 (.inl (.char, (if x1 < (nI 0) then (nI 0) else x1).toNatClampNeg, .inl (fun _ => 0))) (if x1 < (nI 0) then (nI 0) else x1).toNatClampNeg) x0 4 0 (.ref h1.2.1) fun h2 => some (none, h2) :=
  (sm_blk PP X 1 [0] 14 0 _ _ _).trans rfl
/-! 2: WornSums$Sheet.newRows(I)[LWornSums$Row; -/
theorem c2 (X : smX) (x0 : Int32) (h : smH) : sm_C PP X 2 [.int x0] h = sm_E PP X 2 0 [(0, .int x0)] [] h := rfl
set_option maxRecDepth 4000 in
theorem b2_0 (X : smX) (x0 : Int32) (h : smH) : sm_E PP X 2 0 [(0, .int x0)] [] h =
    if (nI 6) < 0 ∨ 1000000 < (nI 6).toNatClampNeg then none else sm_E PP X 2 8 [(0, .int x0), (1, .ref h.2.1), (2, .int (nI 0))] [] (sm_n h (.inl (PP.2.2.2.1 4, (nI 6).toNatClampNeg, .inr (.inr (.inr (.inr (fun _ => none)))))) (nI 6).toNatClampNeg) :=
  (sm_blk PP X 2 [0, 8, 24] 22 0 _ _ _).trans rfl
set_option maxRecDepth 4000 in
theorem b2_8 (X : smX) (x0 : Int32) (x1 : Nat) (x2 : Int32) (h : smH) : sm_E PP X 2 8 [(0, .int x0), (1, .ref x1), (2, .int x2)] [] h =
    sm_al (sm_ar PP X h (.ref x1)) fun n1 => if (nI n1) ≤ x2 then (some (some (.ref x1), h)) else sm_cR (sm_C PP X 1 [.ref h.2.1, .int x0] (sm_n h (.inr (4, PP.2.2.1 4)) (PP.2.2.1 4).length)) fun w2 h3 => sm_E PP X 2 24 [(0, .int x0), (1, .ref x1), (2, .int x2)] (w2.toList ++ [.ref h.2.1, .int x2, .ref x1]) h3 :=
  (sm_blk PP X 2 [0, 8, 24] 22 8 _ _ _).trans rfl
set_option maxRecDepth 4000 in
theorem b2_24 (X : smX) (x0 : Int32) (x1 : Nat) (x2 : Int32) (s0 : Nat) (s1 : Int32) (s2 : Nat) (h : smH) : sm_E PP X 2 24 [(0, .int x0), (1, .ref x1), (2, .int x2)] [.ref s0, .int s1, .ref s2] h =
    sm_stR PP h s2 s1 s0 fun h1 => sm_E PP X 2 8 [(0, .int x0), (1, .ref x1), (2, .int (x2 + (nI 1)))] [] h1 :=
  (sm_blk PP X 2 [0, 8, 24] 22 24 _ _ _).trans rfl
/-! 3: WornSums$Sheet.<init>()V -/
theorem c3 (X : smX) (x0 : Nat) (h : smH) : sm_C PP X 3 [.ref x0] h = sm_E PP X 3 0 [(0, .ref x0)] [] h := rfl
set_option maxRecDepth 4000 in
theorem b3_0 (X : smX) (x0 : Nat) (h : smH) : sm_E PP X 3 0 [(0, .ref x0)] [] h =
    sm_cR (sm_C PP X 2 [.int (nI 31)] h) fun w1 h2 => sm_E PP X 3 10 [(0, .ref x0)] (w1.toList ++ [.ref x0]) h2 :=
  (sm_blk PP X 3 [0, 10, 18] 22 0 _ _ _).trans rfl
set_option maxRecDepth 4000 in
theorem b3_10 (X : smX) (x0 : Nat) (s0 : Nat) (s1 : Nat) (h : smH) : sm_E PP X 3 10 [(0, .ref x0)] [.ref s0, .ref s1] h =
    sm_fP h s1 5 0 (.ref s0) fun h1 => sm_cR (sm_C PP X 2 [.int (nI 3)] h1) fun w2 h3 => sm_E PP X 3 18 [(0, .ref x0)] (w2.toList ++ [.ref x0]) h3 :=
  (sm_blk PP X 3 [0, 10, 18] 22 10 _ _ _).trans rfl
set_option maxRecDepth 4000 in
theorem b3_18 (X : smX) (x0 : Nat) (s0 : Nat) (s1 : Nat) (h : smH) : sm_E PP X 3 18 [(0, .ref x0)] [.ref s0, .ref s1] h =
    sm_fP h s1 5 1 (.ref s0) fun h1 => sm_fP h1 x0 5 2 (.int (nI 0)) fun h2 => sm_fP h2 x0 5 3 (.int (nI 0)) fun h3 => sm_fP h3 x0 5 4 (.int (-nI 9)) fun h4 => some (none, h4) :=
  (sm_blk PP X 3 [0, 10, 18] 22 18 _ _ _).trans rfl
/-! 4: WornSums.newSheets(I)[LWornSums$Sheet; -/
theorem c4 (X : smX) (x0 : Int32) (h : smH) : sm_C PP X 4 [.int x0] h = sm_E PP X 4 0 [(0, .int x0)] [] h := rfl
set_option maxRecDepth 4000 in
theorem b4_0 (X : smX) (x0 : Int32) (h : smH) : sm_E PP X 4 0 [(0, .int x0)] [] h =
    if (if x0 < (nI 0) then (nI 0) else x0) < 0 ∨ 1000000 < (if x0 < (nI 0) then (nI 0) else x0).toNatClampNeg then none else sm_E PP X 4 11 [(1, .ref h.2.1), (2, .int (nI 0))] [] (sm_n h (.inl (PP.2.2.2.1 5, (if x0 < (nI 0) then (nI 0) else x0).toNatClampNeg, .inr (.inr (.inr (.inr (fun _ => none)))))) (if x0 < (nI 0) then (nI 0) else x0).toNatClampNeg) :=
  (sm_blk PP X 4 [0, 11, 26] 23 0 _ _ _).trans rfl
set_option maxRecDepth 4000 in
theorem b4_11 (X : smX) (x1 : Nat) (x2 : Int32) (h : smH) : sm_E PP X 4 11 [(1, .ref x1), (2, .int x2)] [] h =
    sm_al (sm_ar PP X h (.ref x1)) fun n1 => if (nI n1) ≤ x2 then (some (some (.ref x1), h)) else sm_cR (sm_C PP X 3 [.ref h.2.1] (sm_n h (.inr (5, PP.2.2.1 5)) (PP.2.2.1 5).length)) fun w2 h3 => sm_E PP X 4 26 [(1, .ref x1), (2, .int x2)] (w2.toList ++ [.ref h.2.1, .int x2, .ref x1]) h3 :=
  (sm_blk PP X 4 [0, 11, 26] 23 11 _ _ _).trans rfl
set_option maxRecDepth 4000 in
theorem b4_26 (X : smX) (x1 : Nat) (x2 : Int32) (s0 : Nat) (s1 : Int32) (s2 : Nat) (h : smH) : sm_E PP X 4 26 [(1, .ref x1), (2, .int x2)] [.ref s0, .int s1, .ref s2] h =
    sm_stR PP h s2 s1 s0 fun h1 => sm_E PP X 4 11 [(1, .ref x1), (2, .int (x2 + (nI 1)))] [] h1 :=
  (sm_blk PP X 4 [0, 11, 26] 23 26 _ _ _).trans rfl
/-! 5: WornSums$History.<init>()V -/
theorem c5 (X : smX) (x0 : Nat) (h : smH) : sm_C PP X 5 [.ref x0] h = sm_E PP X 5 0 [(0, .ref x0)] [] h := rfl
set_option maxRecDepth 4000 in
theorem b5_0 (X : smX) (x0 : Nat) (h : smH) : sm_E PP X 5 0 [(0, .ref x0)] [] h =
    sm_cR (sm_C PP X 4 [.int (nI 8)] h) fun w1 h2 => sm_E PP X 5 10 [(0, .ref x0)] (w1.toList ++ [.ref x0]) h2 :=
  (sm_blk PP X 5 [0, 10] 15 0 _ _ _).trans rfl
set_option maxRecDepth 4000 in
theorem b5_10 (X : smX) (x0 : Nat) (s0 : Nat) (s1 : Nat) (h : smH) : sm_E PP X 5 10 [(0, .ref x0)] [.ref s0, .ref s1] h =
    sm_fP h s1 2 0 (.ref s0) fun h1 => sm_fP h1 x0 2 1 (.int (nI 0)) fun h2 => sm_fP h2 x0 2 2 (.int (nI 0)) fun h3 => some (none, h3) :=
  (sm_blk PP X 5 [0, 10] 15 10 _ _ _).trans rfl
/-! 6: java/lang/String.coder()B -/
theorem c6 (X : smX) (x0 : Nat) (h : smH) : sm_C PP X 6 [.retAddr x0] h = sm_E PP X 6 0 [(0, .retAddr x0)] [] h := rfl
set_option maxRecDepth 4000 in
theorem b6_0 (X : smX) (x0 : Nat) (h : smH) : sm_E PP X 6 0 [(0, .retAddr x0)] [] h =
    if (nI 1) = 0 then (sm_E PP X 6 14 [] [.int (nI 1)] h) else bif Nat.blt x0 PP.2.2.2.2.1.length then (sm_E PP X 6 14 [] [.int 0] h) else none :=
  (sm_blk PP X 6 [0, 14] 9 0 _ _ _).trans rfl
set_option maxRecDepth 4000 in
theorem b6_14 (X : smX) (s0 : Int32) (h : smH) : sm_E PP X 6 14 [] [.int s0] h =
    if narrow (sm_nk 3) (.int s0) = .int s0 then some (some (.int s0), h) else none :=
  (sm_blk PP X 6 [0, 14] 9 14 _ _ _).trans rfl
/-! 7: java/lang/String.length()I -/
theorem c7 (X : smX) (x0 : Nat) (h : smH) : sm_C PP X 7 [.retAddr x0] h = sm_E PP X 7 0 [(0, .retAddr x0)] [] h := rfl
set_option maxRecDepth 4000 in
theorem b7_0 (X : smX) (x0 : Nat) (h : smH) : sm_E PP X 7 0 [(0, .retAddr x0)] [] h =
    bif Nat.blt x0 PP.2.2.2.2.1.length then (sm_al (sm_ar PP X h (.retAddr (x0 + 16))) fun n1 => bif Nat.blt x0 PP.2.2.2.2.1.length then (sm_cR (sm_C PP X 6 [.retAddr x0] h) fun w2 h3 => sm_E PP X 7 9 [] (w2.toList ++ [.int (nI n1)]) h3) else none) else none :=
  (sm_blk PP X 7 [0, 9] 9 0 _ _ _).trans rfl
set_option maxRecDepth 4000 in
theorem b7_9 (X : smX) (s0 : Int32) (s1 : Int32) (h : smH) : sm_E PP X 7 9 [] [.int s0, .int s1] h =
    some (some (.int (s1 >>> (s0 &&& 31))), h) :=
  (sm_blk PP X 7 [0, 9] 9 9 _ _ _).trans rfl
/-! 8: java/lang/String.isLatin1()Z -/
theorem c8 (X : smX) (x0 : Nat) (h : smH) : sm_C PP X 8 [.retAddr x0] h = sm_E PP X 8 0 [(0, .retAddr x0)] [] h := rfl
set_option maxRecDepth 4000 in
theorem b8_0 (X : smX) (x0 : Nat) (h : smH) : sm_E PP X 8 0 [(0, .retAddr x0)] [] h =
    if (nI 1) = 0 then (sm_E PP X 8 17 [] [] h) else bif Nat.blt x0 PP.2.2.2.2.1.length then (if 0 = 0 then (sm_E PP X 8 18 [] [.int (nI 1)] h) else sm_E PP X 8 17 [] [] h) else none :=
  (sm_blk PP X 8 [0, 17, 18] 11 0 _ _ _).trans rfl
set_option maxRecDepth 4000 in
theorem b8_17 (X : smX) (h : smH) : sm_E PP X 8 17 [] [] h =
    sm_E PP X 8 18 [] [.int (nI 0)] h :=
  (sm_blk PP X 8 [0, 17, 18] 11 17 _ _ _).trans rfl
set_option maxRecDepth 4000 in
theorem b8_18 (X : smX) (s0 : Int32) (h : smH) : sm_E PP X 8 18 [] [.int s0] h =
    if narrow (sm_nk 1) (.int s0) = .int s0 then some (some (.int s0), h) else none :=
  (sm_blk PP X 8 [0, 17, 18] 11 18 _ _ _).trans rfl
/-! 9: jdk/internal/util/Preconditions.checkIndex(IILjava/util/function/BiFunction;)I -/
theorem c9 (X : smX) (x0 : Int32) (x1 : Int32) (x2 : Nat) (h : smH) : sm_C PP X 9 [.int x0, .int x1, .retAddr x2] h = sm_E PP X 9 0 [(0, .int x0), (1, .int x1), (2, .retAddr x2)] [] h := rfl
set_option maxRecDepth 4000 in
theorem b9_0 (X : smX) (x0 : Int32) (x1 : Int32) (x2 : Nat) (h : smH) : sm_E PP X 9 0 [(0, .int x0), (1, .int x1), (2, .retAddr x2)] [] h =
    if x0 < 0 then (sm_E PP X 9 9 [(0, .int x0), (1, .int x1), (2, .retAddr x2)] [] h) else if x0 < x1 then (some (some (.int x0), h)) else sm_E PP X 9 9 [(0, .int x0), (1, .int x1), (2, .retAddr x2)] [] h :=
  (sm_blk PP X 9 [0, 9] 12 0 _ _ _).trans rfl
set_option maxRecDepth 4000 in
theorem b9_9 (X : smX) (x0 : Int32) (x1 : Int32) (x2 : Nat) (h : smH) : sm_E PP X 9 9 [(0, .int x0), (1, .int x1), (2, .retAddr x2)] [] h =
    none :=
  (sm_blk PP X 9 [0, 9] 12 9 _ _ _).trans rfl
/-! 10: java/lang/String.checkIndex(II)V -/
theorem c10 (X : smX) (x0 : Int32) (x1 : Int32) (h : smH) : sm_C PP X 10 [.int x0, .int x1] h = sm_E PP X 10 0 [(0, .int x0), (1, .int x1)] [] h := rfl
set_option maxRecDepth 4000 in
theorem b10_0 (X : smX) (x0 : Int32) (x1 : Int32) (h : smH) : sm_E PP X 10 0 [(0, .int x0), (1, .int x1)] [] h =
    sm_cR (sm_C PP X 9 [.int x0, .int x1, .retAddr 41] h) fun w1 h2 => sm_E PP X 10 8 [] (w1.toList ++ []) h2 :=
  (sm_blk PP X 10 [0, 8] 8 0 _ _ _).trans rfl
set_option maxRecDepth 4000 in
theorem b10_8 (X : smX) (s0 : Int32) (h : smH) : sm_E PP X 10 8 [] [.int s0] h =
    some (none, h) :=
  (sm_blk PP X 10 [0, 8] 8 8 _ _ _).trans rfl
/-! 11: java/lang/StringLatin1.charAt([BI)C -/
theorem c11 (X : smX) (x0 : Nat) (x1 : Int32) (h : smH) : sm_C PP X 11 [.retAddr x0, .int x1] h = sm_E PP X 11 0 [(0, .retAddr x0), (1, .int x1)] [] h := rfl
set_option maxRecDepth 4000 in
theorem b11_0 (X : smX) (x0 : Nat) (x1 : Int32) (h : smH) : sm_E PP X 11 0 [(0, .retAddr x0), (1, .int x1)] [] h =
    sm_al (sm_ar PP X h (.retAddr x0)) fun n1 => sm_cR (sm_C PP X 10 [.int x1, .int (nI n1)] h) fun w2 h3 => sm_E PP X 11 6 [(0, .retAddr x0), (1, .int x1)] (w2.toList ++ []) h3 :=
  (sm_blk PP X 11 [0, 6] 13 0 _ _ _).trans rfl
set_option maxRecDepth 4000 in
theorem b11_6 (X : smX) (x0 : Nat) (x1 : Int32) (h : smH) : sm_E PP X 11 6 [(0, .retAddr x0), (1, .int x1)] [] h =
    sm_ld (sm_ar PP X h (.retAddr x0)) .byte x1 fun v1 => if narrow (sm_nk 2) (.int (((v1 &&& (nI 255)).toUInt32 % 65536).toInt32)) = .int (((v1 &&& (nI 255)).toUInt32 % 65536).toInt32) then some (some (.int (((v1 &&& (nI 255)).toUInt32 % 65536).toInt32)), h) else none :=
  (sm_blk PP X 11 [0, 6] 13 6 _ _ _).trans rfl
/-! 12: java/lang/String.charAt(I)C -/
theorem c12 (X : smX) (x0 : Nat) (x1 : Int32) (h : smH) : sm_C PP X 12 [.retAddr x0, .int x1] h = sm_E PP X 12 0 [(0, .retAddr x0), (1, .int x1)] [] h := rfl
set_option maxRecDepth 4000 in
theorem b12_0 (X : smX) (x0 : Nat) (x1 : Int32) (h : smH) : sm_E PP X 12 0 [(0, .retAddr x0), (1, .int x1)] [] h =
    bif Nat.blt x0 PP.2.2.2.2.1.length then (sm_cR (sm_C PP X 8 [.retAddr x0] h) fun w1 h2 => sm_E PP X 12 4 [(0, .retAddr x0), (1, .int x1)] (w1.toList ++ []) h2) else none :=
  (sm_blk PP X 12 [0, 4, 15] 14 0 _ _ _).trans rfl
set_option maxRecDepth 4000 in
theorem b12_4 (X : smX) (x0 : Nat) (x1 : Int32) (s0 : Int32) (h : smH) : sm_E PP X 12 4 [(0, .retAddr x0), (1, .int x1)] [.int s0] h =
    if s0 = 0 then (bif Nat.blt x0 PP.2.2.2.2.1.length then (none) else none) else bif Nat.blt x0 PP.2.2.2.2.1.length then (sm_cR (sm_C PP X 11 [.retAddr (x0 + 16), .int x1] h) fun w1 h2 => sm_E PP X 12 15 [] (w1.toList ++ []) h2) else none :=
  (sm_blk PP X 12 [0, 4, 15] 14 4 _ _ _).trans rfl
set_option maxRecDepth 4000 in
theorem b12_15 (X : smX) (s0 : Int32) (h : smH) : sm_E PP X 12 15 [] [.int s0] h =
    if narrow (sm_nk 2) (.int s0) = .int s0 then some (some (.int s0), h) else none :=
  (sm_blk PP X 12 [0, 4, 15] 14 15 _ _ _).trans rfl
/-! 13: WornSums.isNumber(I)Z -/
theorem c13 (X : smX) (x0 : Int32) (h : smH) : sm_C PP X 13 [.int x0] h = sm_E PP X 13 0 [(0, .int x0)] [] h := rfl
set_option maxRecDepth 4000 in
theorem b13_0 (X : smX) (x0 : Int32) (h : smH) : sm_E PP X 13 0 [(0, .int x0)] [] h =
    if x0 < 0 then (sm_E PP X 13 15 [] [] h) else if (nI 1000) ≤ x0 then (sm_E PP X 13 15 [] [] h) else sm_E PP X 13 16 [] [.int (nI 1)] h :=
  (sm_blk PP X 13 [0, 15, 16] 11 0 _ _ _).trans rfl
set_option maxRecDepth 4000 in
theorem b13_15 (X : smX) (h : smH) : sm_E PP X 13 15 [] [] h =
    sm_E PP X 13 16 [] [.int (nI 0)] h :=
  (sm_blk PP X 13 [0, 15, 16] 11 15 _ _ _).trans rfl
set_option maxRecDepth 4000 in
theorem b13_16 (X : smX) (s0 : Int32) (h : smH) : sm_E PP X 13 16 [] [.int s0] h =
    if narrow (sm_nk 1) (.int s0) = .int s0 then some (some (.int s0), h) else none :=
  (sm_blk PP X 13 [0, 15, 16] 11 16 _ _ _).trans rfl
/-! 14: WornSums$NumberWords.addSign(IC)V -/
theorem c14 (X : smX) (x0 : Nat) (x1 : Int32) (x2 : Int32) (h : smH) : sm_C PP X 14 [.ref x0, .int x1, .int x2] h = sm_E PP X 14 0 [(0, .ref x0), (1, .int x1), (2, .int x2)] [] h := rfl
set_option maxRecDepth 4000 in
theorem b14_0 (X : smX) (x0 : Nat) (x1 : Int32) (x2 : Int32) (h : smH) : sm_E PP X 14 0 [(0, .ref x0), (1, .int x1), (2, .int x2)] [] h =
    sm_cR (sm_C PP X 13 [.int x1] h) fun w1 h2 => sm_E PP X 14 4 [(0, .ref x0), (1, .int x1), (2, .int x2)] (w1.toList ++ []) h2 :=
  (sm_blk PP X 14 [0, 4, 18] 33 0 _ _ _).trans rfl
set_option maxRecDepth 4000 in
theorem b14_4 (X : smX) (x0 : Nat) (x1 : Int32) (x2 : Int32) (s0 : Int32) (h : smH) : sm_E PP X 14 4 [(0, .ref x0), (1, .int x1), (2, .int x2)] [.int s0] h =
    if s0 = 0 then (sm_E PP X 14 18 [] [] h) else sm_gR (sm_f h x0 3 1) fun v1 => sm_ld (sm_ar PP X h (.ref v1)) .int x1 fun v2 => if v2 < (nI 31) then (sm_gR (sm_f h x0 3 0) fun v3 => sm_gR (sm_f h x0 3 1) fun v4 => sm_ld (sm_ar PP X h (.ref v4)) .int x1 fun v5 => sm_st h v3 .char ((x1 * (nI 31)) + v5) (vp_nar .char x2) fun h6 => sm_gR (sm_f h6 x0 3 1) fun v7 => sm_ld (sm_ar PP X h6 (.ref v7)) .int x1 fun v8 => sm_st h6 v7 .int x1 (v8 + (nI 1)) fun h9 => some (none, h9)) else sm_E PP X 14 18 [] [] h :=
  (sm_blk PP X 14 [0, 4, 18] 33 4 _ _ _).trans rfl
set_option maxRecDepth 4000 in
theorem b14_18 (X : smX) (h : smH) : sm_E PP X 14 18 [] [] h =
    some (none, h) :=
  (sm_blk PP X 14 [0, 4, 18] 33 18 _ _ _).trans rfl
/-! 15: WornSums$NumberWords.addName(ILjava/lang/String;I)V -/
theorem c15 (X : smX) (x0 : Nat) (x1 : Int32) (x2 : Nat) (x3 : Int32) (h : smH) : sm_C PP X 15 [.ref x0, .int x1, .retAddr x2, .int x3] h = sm_E PP X 15 0 [(0, .ref x0), (1, .int x1), (2, .retAddr x2), (3, .int x3)] [] h := rfl
set_option maxRecDepth 4000 in
theorem b15_0 (X : smX) (x0 : Nat) (x1 : Int32) (x2 : Nat) (x3 : Int32) (h : smH) : sm_E PP X 15 0 [(0, .ref x0), (1, .int x1), (2, .retAddr x2), (3, .int x3)] [] h =
    sm_E PP X 15 6 [(0, .ref x0), (1, .int x1), (2, .retAddr x2), (3, .int x3), (4, .int (nI 0)), (5, .int (nI 0))] [] h :=
  (sm_blk PP X 15 [0, 6, 12, 21, 49] 29 0 _ _ _).trans rfl
set_option maxRecDepth 4000 in
theorem b15_6 (X : smX) (x0 : Nat) (x1 : Int32) (x2 : Nat) (x3 : Int32) (x4 : Int32) (x5 : Int32) (h : smH) : sm_E PP X 15 6 [(0, .ref x0), (1, .int x1), (2, .retAddr x2), (3, .int x3), (4, .int x4), (5, .int x5)] [] h =
    bif Nat.blt x2 PP.2.2.2.2.1.length then (sm_cR (sm_C PP X 7 [.retAddr x2] h) fun w1 h2 => sm_E PP X 15 12 [(0, .ref x0), (1, .int x1), (2, .retAddr x2), (3, .int x3), (4, .int x4), (5, .int x5)] (w1.toList ++ [.int x5]) h2) else none :=
  (sm_blk PP X 15 [0, 6, 12, 21, 49] 29 6 _ _ _).trans rfl
set_option maxRecDepth 4000 in
theorem b15_12 (X : smX) (x0 : Nat) (x1 : Int32) (x2 : Nat) (x3 : Int32) (x4 : Int32) (x5 : Int32) (s0 : Int32) (s1 : Int32) (h : smH) : sm_E PP X 15 12 [(0, .ref x0), (1, .int x1), (2, .retAddr x2), (3, .int x3), (4, .int x4), (5, .int x5)] [.int s0, .int s1] h =
    if s0 ≤ s1 then (some (none, h)) else bif Nat.blt x2 PP.2.2.2.2.1.length then (sm_cR (sm_C PP X 12 [.retAddr x2, .int x5] h) fun w1 h2 => sm_E PP X 15 21 [(0, .ref x0), (1, .int x1), (2, .retAddr x2), (3, .int x3), (4, .int x4), (5, .int x5)] (w1.toList ++ []) h2) else none :=
  (sm_blk PP X 15 [0, 6, 12, 21, 49] 29 12 _ _ _).trans rfl
set_option maxRecDepth 4000 in
theorem b15_21 (X : smX) (x0 : Nat) (x1 : Int32) (x2 : Nat) (x3 : Int32) (x4 : Int32) (x5 : Int32) (s0 : Int32) (h : smH) : sm_E PP X 15 21 [(0, .ref x0), (1, .int x1), (2, .retAddr x2), (3, .int x3), (4, .int x4), (5, .int x5)] [.int s0] h =
    if s0 = (nI 32) then (sm_E PP X 15 49 [(0, .ref x0), (1, .int x1), (2, .retAddr x2), (3, .int x3), (4, .int (x4 + (nI 1))), (5, .int x5)] [] h) else if x4 = x3 then (sm_vc h x0 3 (sm_cR (sm_C PP X 14 [.ref x0, .int x1, .int s0] h) fun w1 h2 => sm_E PP X 15 49 [(0, .ref x0), (1, .int x1), (2, .retAddr x2), (3, .int x3), (4, .int x4), (5, .int x5)] (w1.toList ++ []) h2)) else sm_E PP X 15 49 [(0, .ref x0), (1, .int x1), (2, .retAddr x2), (3, .int x3), (4, .int x4), (5, .int x5)] [] h :=
  (sm_blk PP X 15 [0, 6, 12, 21, 49] 29 21 _ _ _).trans rfl
set_option maxRecDepth 4000 in
theorem b15_49 (X : smX) (x0 : Nat) (x1 : Int32) (x2 : Nat) (x3 : Int32) (x4 : Int32) (x5 : Int32) (h : smH) : sm_E PP X 15 49 [(0, .ref x0), (1, .int x1), (2, .retAddr x2), (3, .int x3), (4, .int x4), (5, .int x5)] [] h =
    sm_E PP X 15 6 [(0, .ref x0), (1, .int x1), (2, .retAddr x2), (3, .int x3), (4, .int x4), (5, .int (x5 + (nI 1)))] [] h :=
  (sm_blk PP X 15 [0, 6, 12, 21, 49] 29 49 _ _ _).trans rfl
/-! 16: WornSums$NumberWords.lengthOf(I)I -/
theorem c16 (X : smX) (x0 : Nat) (x1 : Int32) (h : smH) : sm_C PP X 16 [.ref x0, .int x1] h = sm_E PP X 16 0 [(0, .ref x0), (1, .int x1)] [] h := rfl
set_option maxRecDepth 4000 in
theorem b16_0 (X : smX) (x0 : Nat) (x1 : Int32) (h : smH) : sm_E PP X 16 0 [(0, .ref x0), (1, .int x1)] [] h =
    sm_cR (sm_C PP X 13 [.int x1] h) fun w1 h2 => sm_E PP X 16 4 [(0, .ref x0), (1, .int x1)] (w1.toList ++ []) h2 :=
  (sm_blk PP X 16 [0, 4, 17] 12 0 _ _ _).trans rfl
set_option maxRecDepth 4000 in
theorem b16_4 (X : smX) (x0 : Nat) (x1 : Int32) (s0 : Int32) (h : smH) : sm_E PP X 16 4 [(0, .ref x0), (1, .int x1)] [.int s0] h =
    if s0 = 0 then (sm_E PP X 16 17 [] [.int (nI 0)] h) else sm_gR (sm_f h x0 3 1) fun v1 => sm_ld (sm_ar PP X h (.ref v1)) .int x1 fun v2 => sm_E PP X 16 17 [] [.int v2] h :=
  (sm_blk PP X 16 [0, 4, 17] 12 4 _ _ _).trans rfl
set_option maxRecDepth 4000 in
theorem b16_17 (X : smX) (s0 : Int32) (h : smH) : sm_E PP X 16 17 [] [.int s0] h =
    some (some (.int s0), h) :=
  (sm_blk PP X 16 [0, 4, 17] 12 17 _ _ _).trans rfl
/-! 17: WornSums$NumberWords.at(II)I -/
theorem c17 (X : smX) (x0 : Nat) (x1 : Int32) (x2 : Int32) (h : smH) : sm_C PP X 17 [.ref x0, .int x1, .int x2] h = sm_E PP X 17 0 [(0, .ref x0), (1, .int x1), (2, .int x2)] [] h := rfl
set_option maxRecDepth 4000 in
theorem b17_0 (X : smX) (x0 : Nat) (x1 : Int32) (x2 : Int32) (h : smH) : sm_E PP X 17 0 [(0, .ref x0), (1, .int x1), (2, .int x2)] [] h =
    sm_cR (sm_C PP X 13 [.int x1] h) fun w1 h2 => sm_E PP X 17 4 [(0, .ref x0), (1, .int x1), (2, .int x2)] (w1.toList ++ []) h2 :=
  (sm_blk PP X 17 [0, 4, 27] 27 0 _ _ _).trans rfl
set_option maxRecDepth 4000 in
theorem b17_4 (X : smX) (x0 : Nat) (x1 : Int32) (x2 : Int32) (s0 : Int32) (h : smH) : sm_E PP X 17 4 [(0, .ref x0), (1, .int x1), (2, .int x2)] [.int s0] h =
    if s0 = 0 then (sm_E PP X 17 27 [] [] h) else if x2 < 0 then (sm_E PP X 17 27 [] [] h) else sm_gR (sm_f h x0 3 1) fun v1 => sm_ld (sm_ar PP X h (.ref v1)) .int x1 fun v2 => if v2 ≤ x2 then (sm_E PP X 17 27 [] [] h) else if x2 < (nI 31) then (sm_gR (sm_f h x0 3 0) fun v3 => sm_ld (sm_ar PP X h (.ref v3)) .char ((x1 * (nI 31)) + x2) fun v4 => some (some (.int v4), h)) else sm_E PP X 17 27 [] [] h :=
  (sm_blk PP X 17 [0, 4, 27] 27 4 _ _ _).trans rfl
set_option maxRecDepth 4000 in
theorem b17_27 (X : smX) (h : smH) : sm_E PP X 17 27 [] [] h =
    some (some (.int (-nI 9)), h) :=
  (sm_blk PP X 17 [0, 4, 27] 27 27 _ _ _).trans rfl
/-! 18: WornSums$NumberWords.addNumber(II)V -/
theorem c18 (X : smX) (x0 : Nat) (x1 : Int32) (x2 : Int32) (h : smH) : sm_C PP X 18 [.ref x0, .int x1, .int x2] h = sm_E PP X 18 0 [(0, .ref x0), (1, .int x1), (2, .int x2)] [] h := rfl
set_option maxRecDepth 4000 in
theorem b18_0 (X : smX) (x0 : Nat) (x1 : Int32) (x2 : Int32) (h : smH) : sm_E PP X 18 0 [(0, .ref x0), (1, .int x1), (2, .int x2)] [] h =
    sm_vc h x0 3 (sm_cR (sm_C PP X 16 [.ref x0, .int x2] h) fun w1 h2 => sm_E PP X 18 5 [(0, .ref x0), (1, .int x1), (2, .int x2)] (w1.toList ++ []) h2) :=
  (sm_blk PP X 18 [0, 5, 9, 24, 28] 22 0 _ _ _).trans rfl
set_option maxRecDepth 4000 in
theorem b18_5 (X : smX) (x0 : Nat) (x1 : Int32) (x2 : Int32) (s0 : Int32) (h : smH) : sm_E PP X 18 5 [(0, .ref x0), (1, .int x1), (2, .int x2)] [.int s0] h =
    sm_E PP X 18 9 [(0, .ref x0), (1, .int x1), (2, .int x2), (3, .int s0), (4, .int (nI 0))] [] h :=
  (sm_blk PP X 18 [0, 5, 9, 24, 28] 22 5 _ _ _).trans rfl
set_option maxRecDepth 4000 in
theorem b18_9 (X : smX) (x0 : Nat) (x1 : Int32) (x2 : Int32) (x3 : Int32) (x4 : Int32) (h : smH) : sm_E PP X 18 9 [(0, .ref x0), (1, .int x1), (2, .int x2), (3, .int x3), (4, .int x4)] [] h =
    if x3 ≤ x4 then (some (none, h)) else sm_vc h x0 3 (sm_cR (sm_C PP X 17 [.ref x0, .int x2, .int x4] h) fun w1 h2 => sm_E PP X 18 24 [(0, .ref x0), (1, .int x1), (2, .int x2), (3, .int x3), (4, .int x4)] (w1.toList ++ [.int x1, .ref x0]) h2) :=
  (sm_blk PP X 18 [0, 5, 9, 24, 28] 22 9 _ _ _).trans rfl
set_option maxRecDepth 4000 in
theorem b18_24 (X : smX) (x0 : Nat) (x1 : Int32) (x2 : Int32) (x3 : Int32) (x4 : Int32) (s0 : Int32) (s1 : Int32) (s2 : Nat) (h : smH) : sm_E PP X 18 24 [(0, .ref x0), (1, .int x1), (2, .int x2), (3, .int x3), (4, .int x4)] [.int s0, .int s1, .ref s2] h =
    sm_vc h s2 3 (sm_cR (sm_C PP X 14 [.ref s2, .int s1, .int ((s0.toUInt32 % 65536).toInt32)] h) fun w1 h2 => sm_E PP X 18 28 [(0, .ref x0), (1, .int x1), (2, .int x2), (3, .int x3), (4, .int x4)] (w1.toList ++ []) h2) :=
  (sm_blk PP X 18 [0, 5, 9, 24, 28] 22 24 _ _ _).trans rfl
set_option maxRecDepth 4000 in
theorem b18_28 (X : smX) (x0 : Nat) (x1 : Int32) (x2 : Int32) (x3 : Int32) (x4 : Int32) (h : smH) : sm_E PP X 18 28 [(0, .ref x0), (1, .int x1), (2, .int x2), (3, .int x3), (4, .int x4)] [] h =
    sm_E PP X 18 9 [(0, .ref x0), (1, .int x1), (2, .int x2), (3, .int x3), (4, .int (x4 + (nI 1)))] [] h :=
  (sm_blk PP X 18 [0, 5, 9, 24, 28] 22 28 _ _ _).trans rfl
/-! 19: WornSums$NumberWords.writeTens(I)V -/
theorem c19 (X : smX) (x0 : Nat) (x1 : Int32) (h : smH) : sm_C PP X 19 [.ref x0, .int x1] h = sm_E PP X 19 0 [(0, .ref x0), (1, .int x1)] [] h := rfl
set_option maxRecDepth 4000 in
theorem b19_0 (X : smX) (x0 : Nat) (x1 : Int32) (h : smH) : sm_E PP X 19 0 [(0, .ref x0), (1, .int x1)] [] h =
    if (nI 10) = 0 then none else if (x1 - x1 / (nI 10) * (nI 10)) = 0 then (if (nI 10) = 0 then none else sm_vc h x0 3 (sm_cR (sm_C PP X 15 [.ref x0, .int x1, .retAddr 2, .int ((x1 / (nI 10)) - (nI 2))] h) fun w1 h2 => sm_E PP X 19 22 [] (w1.toList ++ []) h2)) else sm_vc h x0 3 (sm_cR (sm_C PP X 18 [.ref x0, .int x1, .int (x1 - (x1 - x1 / (nI 10) * (nI 10)))] h) fun w3 h4 => sm_E PP X 19 31 [(0, .ref x0), (1, .int x1), (2, .int (x1 - x1 / (nI 10) * (nI 10)))] (w3.toList ++ []) h4) :=
  (sm_blk PP X 19 [0, 22, 31, 38, 44] 33 0 _ _ _).trans rfl
set_option maxRecDepth 4000 in
theorem b19_22 (X : smX) (h : smH) : sm_E PP X 19 22 [] [] h =
    some (none, h) :=
  (sm_blk PP X 19 [0, 22, 31, 38, 44] 33 22 _ _ _).trans rfl
set_option maxRecDepth 4000 in
theorem b19_31 (X : smX) (x0 : Nat) (x1 : Int32) (x2 : Int32) (h : smH) : sm_E PP X 19 31 [(0, .ref x0), (1, .int x1), (2, .int x2)] [] h =
    sm_vc h x0 3 (sm_cR (sm_C PP X 14 [.ref x0, .int x1, .int (nI 32)] h) fun w1 h2 => sm_E PP X 19 38 [(0, .ref x0), (1, .int x1), (2, .int x2)] (w1.toList ++ []) h2) :=
  (sm_blk PP X 19 [0, 22, 31, 38, 44] 33 31 _ _ _).trans rfl
set_option maxRecDepth 4000 in
theorem b19_38 (X : smX) (x0 : Nat) (x1 : Int32) (x2 : Int32) (h : smH) : sm_E PP X 19 38 [(0, .ref x0), (1, .int x1), (2, .int x2)] [] h =
    sm_vc h x0 3 (sm_cR (sm_C PP X 18 [.ref x0, .int x1, .int x2] h) fun w1 h2 => sm_E PP X 19 44 [] (w1.toList ++ []) h2) :=
  (sm_blk PP X 19 [0, 22, 31, 38, 44] 33 38 _ _ _).trans rfl
set_option maxRecDepth 4000 in
theorem b19_44 (X : smX) (h : smH) : sm_E PP X 19 44 [] [] h =
    some (none, h) :=
  (sm_blk PP X 19 [0, 22, 31, 38, 44] 33 44 _ _ _).trans rfl
/-! 20: WornSums$NumberWords.addAll(ILjava/lang/String;)V -/
theorem c20 (X : smX) (x0 : Nat) (x1 : Int32) (x2 : Nat) (h : smH) : sm_C PP X 20 [.ref x0, .int x1, .retAddr x2] h = sm_E PP X 20 0 [(0, .ref x0), (1, .int x1), (2, .retAddr x2)] [] h := rfl
set_option maxRecDepth 4000 in
theorem b20_0 (X : smX) (x0 : Nat) (x1 : Int32) (x2 : Nat) (h : smH) : sm_E PP X 20 0 [(0, .ref x0), (1, .int x1), (2, .retAddr x2)] [] h =
    sm_E PP X 20 2 [(0, .ref x0), (1, .int x1), (2, .retAddr x2), (3, .int (nI 0))] [] h :=
  (sm_blk PP X 20 [0, 2, 7, 17, 20] 17 0 _ _ _).trans rfl
set_option maxRecDepth 4000 in
theorem b20_2 (X : smX) (x0 : Nat) (x1 : Int32) (x2 : Nat) (x3 : Int32) (h : smH) : sm_E PP X 20 2 [(0, .ref x0), (1, .int x1), (2, .retAddr x2), (3, .int x3)] [] h =
    bif Nat.blt x2 PP.2.2.2.2.1.length then (sm_cR (sm_C PP X 7 [.retAddr x2] h) fun w1 h2 => sm_E PP X 20 7 [(0, .ref x0), (1, .int x1), (2, .retAddr x2), (3, .int x3)] (w1.toList ++ [.int x3]) h2) else none :=
  (sm_blk PP X 20 [0, 2, 7, 17, 20] 17 2 _ _ _).trans rfl
set_option maxRecDepth 4000 in
theorem b20_7 (X : smX) (x0 : Nat) (x1 : Int32) (x2 : Nat) (x3 : Int32) (s0 : Int32) (s1 : Int32) (h : smH) : sm_E PP X 20 7 [(0, .ref x0), (1, .int x1), (2, .retAddr x2), (3, .int x3)] [.int s0, .int s1] h =
    if s0 ≤ s1 then (some (none, h)) else bif Nat.blt x2 PP.2.2.2.2.1.length then (sm_cR (sm_C PP X 12 [.retAddr x2, .int x3] h) fun w1 h2 => sm_E PP X 20 17 [(0, .ref x0), (1, .int x1), (2, .retAddr x2), (3, .int x3)] (w1.toList ++ [.int x1, .ref x0]) h2) else none :=
  (sm_blk PP X 20 [0, 2, 7, 17, 20] 17 7 _ _ _).trans rfl
set_option maxRecDepth 4000 in
theorem b20_17 (X : smX) (x0 : Nat) (x1 : Int32) (x2 : Nat) (x3 : Int32) (s0 : Int32) (s1 : Int32) (s2 : Nat) (h : smH) : sm_E PP X 20 17 [(0, .ref x0), (1, .int x1), (2, .retAddr x2), (3, .int x3)] [.int s0, .int s1, .ref s2] h =
    sm_vc h s2 3 (sm_cR (sm_C PP X 14 [.ref s2, .int s1, .int s0] h) fun w1 h2 => sm_E PP X 20 20 [(0, .ref x0), (1, .int x1), (2, .retAddr x2), (3, .int x3)] (w1.toList ++ []) h2) :=
  (sm_blk PP X 20 [0, 2, 7, 17, 20] 17 17 _ _ _).trans rfl
set_option maxRecDepth 4000 in
theorem b20_20 (X : smX) (x0 : Nat) (x1 : Int32) (x2 : Nat) (x3 : Int32) (h : smH) : sm_E PP X 20 20 [(0, .ref x0), (1, .int x1), (2, .retAddr x2), (3, .int x3)] [] h =
    sm_E PP X 20 2 [(0, .ref x0), (1, .int x1), (2, .retAddr x2), (3, .int (x3 + (nI 1)))] [] h :=
  (sm_blk PP X 20 [0, 2, 7, 17, 20] 17 20 _ _ _).trans rfl
/-! 21: WornSums$NumberWords.writeHundreds(I)V -/
theorem c21 (X : smX) (x0 : Nat) (x1 : Int32) (h : smH) : sm_C PP X 21 [.ref x0, .int x1] h = sm_E PP X 21 0 [(0, .ref x0), (1, .int x1)] [] h := rfl
set_option maxRecDepth 4000 in
theorem b21_0 (X : smX) (x0 : Nat) (x1 : Int32) (h : smH) : sm_E PP X 21 0 [(0, .ref x0), (1, .int x1)] [] h =
    if (nI 100) = 0 then none else if (nI 100) = 0 then none else sm_vc h x0 3 (sm_cR (sm_C PP X 18 [.ref x0, .int x1, .int (x1 / (nI 100))] h) fun w1 h2 => sm_E PP X 21 14 [(0, .ref x0), (1, .int x1), (2, .int (x1 - x1 / (nI 100) * (nI 100)))] (w1.toList ++ []) h2) :=
  (sm_blk PP X 21 [0, 14, 21, 32, 38] 27 0 _ _ _).trans rfl
set_option maxRecDepth 4000 in
theorem b21_14 (X : smX) (x0 : Nat) (x1 : Int32) (x2 : Int32) (h : smH) : sm_E PP X 21 14 [(0, .ref x0), (1, .int x1), (2, .int x2)] [] h =
    sm_vc h x0 3 (sm_cR (sm_C PP X 20 [.ref x0, .int x1, .retAddr 3] h) fun w1 h2 => sm_E PP X 21 21 [(0, .ref x0), (1, .int x1), (2, .int x2)] (w1.toList ++ []) h2) :=
  (sm_blk PP X 21 [0, 14, 21, 32, 38] 27 14 _ _ _).trans rfl
set_option maxRecDepth 4000 in
theorem b21_21 (X : smX) (x0 : Nat) (x1 : Int32) (x2 : Int32) (h : smH) : sm_E PP X 21 21 [(0, .ref x0), (1, .int x1), (2, .int x2)] [] h =
    if x2 = 0 then (sm_E PP X 21 38 [] [] h) else sm_vc h x0 3 (sm_cR (sm_C PP X 20 [.ref x0, .int x1, .retAddr 4] h) fun w1 h2 => sm_E PP X 21 32 [(0, .ref x0), (1, .int x1), (2, .int x2)] (w1.toList ++ []) h2) :=
  (sm_blk PP X 21 [0, 14, 21, 32, 38] 27 21 _ _ _).trans rfl
set_option maxRecDepth 4000 in
theorem b21_38 (X : smX) (h : smH) : sm_E PP X 21 38 [] [] h =
    some (none, h) :=
  (sm_blk PP X 21 [0, 14, 21, 32, 38] 27 38 _ _ _).trans rfl
set_option maxRecDepth 4000 in
theorem b21_32 (X : smX) (x0 : Nat) (x1 : Int32) (x2 : Int32) (h : smH) : sm_E PP X 21 32 [(0, .ref x0), (1, .int x1), (2, .int x2)] [] h =
    sm_vc h x0 3 (sm_cR (sm_C PP X 18 [.ref x0, .int x1, .int x2] h) fun w1 h2 => sm_E PP X 21 38 [] (w1.toList ++ []) h2) :=
  (sm_blk PP X 21 [0, 14, 21, 32, 38] 27 32 _ _ _).trans rfl
/-! 22: WornSums$NumberWords.write(I)V -/
theorem c22 (X : smX) (x0 : Nat) (x1 : Int32) (h : smH) : sm_C PP X 22 [.ref x0, .int x1] h = sm_E PP X 22 0 [(0, .ref x0), (1, .int x1)] [] h := rfl
set_option maxRecDepth 4000 in
theorem b22_0 (X : smX) (x0 : Nat) (x1 : Int32) (h : smH) : sm_E PP X 22 0 [(0, .ref x0), (1, .int x1)] [] h =
    if (nI 10) ≤ x1 then (if (nI 20) ≤ x1 then (if (nI 100) ≤ x1 then (sm_vc h x0 3 (sm_cR (sm_C PP X 21 [.ref x0, .int x1] h) fun w1 h2 => sm_E PP X 22 56 [] (w1.toList ++ []) h2)) else sm_vc h x0 3 (sm_cR (sm_C PP X 19 [.ref x0, .int x1] h) fun w3 h4 => sm_E PP X 22 48 [] (w3.toList ++ []) h4)) else sm_vc h x0 3 (sm_cR (sm_C PP X 15 [.ref x0, .int x1, .retAddr 1, .int (x1 - (nI 10))] h) fun w5 h6 => sm_E PP X 22 34 [] (w5.toList ++ []) h6)) else sm_vc h x0 3 (sm_cR (sm_C PP X 15 [.ref x0, .int x1, .retAddr 0, .int x1] h) fun w7 h8 => sm_E PP X 22 14 [] (w7.toList ++ []) h8) :=
  (sm_blk PP X 22 [0, 14, 34, 48, 56] 33 0 _ _ _).trans rfl
set_option maxRecDepth 4000 in
theorem b22_56 (X : smX) (h : smH) : sm_E PP X 22 56 [] [] h =
    some (none, h) :=
  (sm_blk PP X 22 [0, 14, 34, 48, 56] 33 56 _ _ _).trans rfl
set_option maxRecDepth 4000 in
theorem b22_48 (X : smX) (h : smH) : sm_E PP X 22 48 [] [] h =
    sm_E PP X 22 56 [] [] h :=
  (sm_blk PP X 22 [0, 14, 34, 48, 56] 33 48 _ _ _).trans rfl
set_option maxRecDepth 4000 in
theorem b22_34 (X : smX) (h : smH) : sm_E PP X 22 34 [] [] h =
    sm_E PP X 22 56 [] [] h :=
  (sm_blk PP X 22 [0, 14, 34, 48, 56] 33 34 _ _ _).trans rfl
set_option maxRecDepth 4000 in
theorem b22_14 (X : smX) (h : smH) : sm_E PP X 22 14 [] [] h =
    sm_E PP X 22 56 [] [] h :=
  (sm_blk PP X 22 [0, 14, 34, 48, 56] 33 14 _ _ _).trans rfl
/-! 23: WornSums$NumberWords.<init>()V -/
theorem c23 (X : smX) (x0 : Nat) (h : smH) : sm_C PP X 23 [.ref x0] h = sm_E PP X 23 0 [(0, .ref x0)] [] h := rfl
set_option maxRecDepth 4000 in
theorem b23_0 (X : smX) (x0 : Nat) (h : smH) : sm_E PP X 23 0 [(0, .ref x0)] [] h =
    if (nI 31000) < 0 ∨ 1000000 < (nI 31000).toNatClampNeg then none else sm_fP (sm_n h (.inl (.char, (nI 31000).toNatClampNeg, .inl (fun _ => 0))) (nI 31000).toNatClampNeg) x0 3 0 (.ref h.2.1) fun h1 => if (nI 1000) < 0 ∨ 1000000 < (nI 1000).toNatClampNeg then none else sm_fP (sm_n h1 (.inl (.int, (nI 1000).toNatClampNeg, .inl (fun _ => 0))) (nI 1000).toNatClampNeg) x0 3 1 (.ref h1.2.1) fun h2 => sm_E PP X 23 24 [(0, .ref x0), (1, .int (nI 0))] [] h2 :=
  (sm_blk PP X 23 [0, 24, 36] 23 0 _ _ _).trans rfl
set_option maxRecDepth 4000 in
theorem b23_24 (X : smX) (x0 : Nat) (x1 : Int32) (h : smH) : sm_E PP X 23 24 [(0, .ref x0), (1, .int x1)] [] h =
    if (nI 1000) ≤ x1 then (some (none, h)) else sm_vc h x0 3 (sm_cR (sm_C PP X 22 [.ref x0, .int x1] h) fun w1 h2 => sm_E PP X 23 36 [(0, .ref x0), (1, .int x1)] (w1.toList ++ []) h2) :=
  (sm_blk PP X 23 [0, 24, 36] 23 24 _ _ _).trans rfl
set_option maxRecDepth 4000 in
theorem b23_36 (X : smX) (x0 : Nat) (x1 : Int32) (h : smH) : sm_E PP X 23 36 [(0, .ref x0), (1, .int x1)] [] h =
    sm_E PP X 23 24 [(0, .ref x0), (1, .int (x1 + (nI 1)))] [] h :=
  (sm_blk PP X 23 [0, 24, 36] 23 36 _ _ _).trans rfl
/-! 24: WornSums$Agreeing.<init>()V -/
theorem c24 (X : smX) (x0 : Nat) (h : smH) : sm_C PP X 24 [.ref x0] h = sm_E PP X 24 0 [(0, .ref x0)] [] h := rfl
set_option maxRecDepth 4000 in
theorem b24_0 (X : smX) (x0 : Nat) (h : smH) : sm_E PP X 24 0 [(0, .ref x0)] [] h =
    if (nI 1000) < 0 ∨ 1000000 < (nI 1000).toNatClampNeg then none else sm_fP (sm_n h (.inl (.int, (nI 1000).toNatClampNeg, .inl (fun _ => 0))) (nI 1000).toNatClampNeg) x0 0 0 (.ref h.2.1) fun h1 => if (nI 1000) < 0 ∨ 1000000 < (nI 1000).toNatClampNeg then none else sm_fP (sm_n h1 (.inl (.int, (nI 1000).toNatClampNeg, .inl (fun _ => 0))) (nI 1000).toNatClampNeg) x0 0 1 (.ref h1.2.1) fun h2 => sm_fP h2 x0 0 2 (.int (nI 0)) fun h3 => sm_fP h3 x0 0 3 (.int (nI 0)) fun h4 => sm_fP h4 x0 0 4 (.int (nI 0)) fun h5 => some (none, h5) :=
  (sm_blk PP X 24 [0] 22 0 _ _ _).trans rfl
/-! 25: WornSums$Findings.<init>()V -/
theorem c25 (X : smX) (x0 : Nat) (h : smH) : sm_C PP X 25 [.ref x0] h = sm_E PP X 25 0 [(0, .ref x0)] [] h := rfl
set_option maxRecDepth 4000 in
theorem b25_0 (X : smX) (x0 : Nat) (h : smH) : sm_E PP X 25 0 [(0, .ref x0)] [] h =
    if (nI 6) < 0 ∨ 1000000 < (nI 6).toNatClampNeg then none else sm_fP (sm_n h (.inl (PP.2.2.2.1 0, (nI 6).toNatClampNeg, .inr (.inr (.inr (.inr (fun _ => none)))))) (nI 6).toNatClampNeg) x0 1 0 (.ref h.2.1) fun h1 => if narrow (PP.2.1 1 1) (.int (nI 0)) = .int (nI 0) ∧ fits (PP.2.1 1 1) (.int (nI 0)) = true then (sm_fP h1 x0 1 1 (.int (nI 0)) fun h2 => if ((nI 7) < 0 ∨ 1000000 < (nI 7).toNatClampNeg) ∨ ((nI 5995) < 0 ∨ 1000000 < (nI 5995).toNatClampNeg) then none else sm_fP (sm_mn h2 (nI 7).toNatClampNeg (nI 5995).toNatClampNeg) x0 1 2 (.ref h2.2.1) fun h3 => if (nI 6) < 0 ∨ 1000000 < (nI 6).toNatClampNeg then none else sm_fP (sm_n h3 (.inl (.int, (nI 6).toNatClampNeg, .inl (fun _ => 0))) (nI 6).toNatClampNeg) x0 1 3 (.ref h3.2.1) fun h4 => sm_fP h4 x0 1 4 (.int (-nI 9)) fun h5 => if narrow (PP.2.1 1 5) (.int (nI 0)) = .int (nI 0) ∧ fits (PP.2.1 1 5) (.int (nI 0)) = true then (sm_fP h5 x0 1 5 (.int (nI 0)) fun h6 => if (nI 5995) < 0 ∨ 1000000 < (nI 5995).toNatClampNeg then none else sm_fP (sm_n h6 (.inl (.boolean, (nI 5995).toNatClampNeg, .inl (fun _ => 0))) (nI 5995).toNatClampNeg) x0 1 6 (.ref h6.2.1) fun h7 => if (nI 26) < 0 ∨ 1000000 < (nI 26).toNatClampNeg then none else sm_fP (sm_n h7 (.inl (.int, (nI 26).toNatClampNeg, .inl (fun _ => 0))) (nI 26).toNatClampNeg) x0 1 7 (.ref h7.2.1) fun h8 => sm_E PP X 25 69 [(0, .ref x0), (1, .int (nI 0))] [] h8) else none) else none :=
  (sm_blk PP X 25 [0, 69, 90] 51 0 _ _ _).trans rfl
set_option maxRecDepth 4000 in
theorem b25_69 (X : smX) (x0 : Nat) (x1 : Int32) (h : smH) : sm_E PP X 25 69 [(0, .ref x0), (1, .int x1)] [] h =
    sm_gR (sm_f h x0 1 0) fun v1 => sm_al (sm_ar PP X h (.ref v1)) fun n2 => if (nI n2) ≤ x1 then (some (none, h)) else sm_gR (sm_f h x0 1 0) fun v3 => sm_cR (sm_C PP X 24 [.ref h.2.1] (sm_n h (.inr (0, PP.2.2.1 0)) (PP.2.2.1 0).length)) fun w4 h5 => sm_E PP X 25 90 [(0, .ref x0), (1, .int x1)] (w4.toList ++ [.ref h.2.1, .int x1, .ref v3]) h5 :=
  (sm_blk PP X 25 [0, 69, 90] 51 69 _ _ _).trans rfl
set_option maxRecDepth 4000 in
theorem b25_90 (X : smX) (x0 : Nat) (x1 : Int32) (s0 : Nat) (s1 : Int32) (s2 : Nat) (h : smH) : sm_E PP X 25 90 [(0, .ref x0), (1, .int x1)] [.ref s0, .int s1, .ref s2] h =
    sm_stR PP h s2 s1 s0 fun h1 => sm_E PP X 25 69 [(0, .ref x0), (1, .int (x1 + (nI 1)))] [] h1 :=
  (sm_blk PP X 25 [0, 69, 90] 51 90 _ _ _).trans rfl
/-! 26: WornSums.<init>()V -/
theorem c26 (X : smX) (x0 : Nat) (h : smH) : sm_C PP X 26 [.ref x0] h = sm_E PP X 26 0 [(0, .ref x0)] [] h := rfl
set_option maxRecDepth 4000 in
theorem b26_0 (X : smX) (x0 : Nat) (h : smH) : sm_E PP X 26 0 [(0, .ref x0)] [] h =
    sm_cR (sm_C PP X 0 [.ref h.2.1] (sm_n h (.inr (6, PP.2.2.1 6)) (PP.2.2.1 6).length)) fun w1 h2 => sm_E PP X 26 12 [(0, .ref x0)] (w1.toList ++ [.ref h.2.1, .ref x0]) h2 :=
  (sm_blk PP X 26 [0, 12, 23, 34, 42, 60, 71] 38 0 _ _ _).trans rfl
set_option maxRecDepth 4000 in
theorem b26_12 (X : smX) (x0 : Nat) (s0 : Nat) (s1 : Nat) (h : smH) : sm_E PP X 26 12 [(0, .ref x0)] [.ref s0, .ref s1] h =
    sm_fP h s1 7 0 (.ref s0) fun h1 => sm_cR (sm_C PP X 3 [.ref h1.2.1] (sm_n h1 (.inr (5, PP.2.2.1 5)) (PP.2.2.1 5).length)) fun w2 h3 => sm_E PP X 26 23 [(0, .ref x0)] (w2.toList ++ [.ref h1.2.1, .ref x0]) h3 :=
  (sm_blk PP X 26 [0, 12, 23, 34, 42, 60, 71] 38 12 _ _ _).trans rfl
set_option maxRecDepth 4000 in
theorem b26_23 (X : smX) (x0 : Nat) (s0 : Nat) (s1 : Nat) (h : smH) : sm_E PP X 26 23 [(0, .ref x0)] [.ref s0, .ref s1] h =
    sm_fP h s1 7 1 (.ref s0) fun h1 => sm_cR (sm_C PP X 5 [.ref h1.2.1] (sm_n h1 (.inr (2, PP.2.2.1 2)) (PP.2.2.1 2).length)) fun w2 h3 => sm_E PP X 26 34 [(0, .ref x0)] (w2.toList ++ [.ref h1.2.1, .ref x0]) h3 :=
  (sm_blk PP X 26 [0, 12, 23, 34, 42, 60, 71] 38 23 _ _ _).trans rfl
set_option maxRecDepth 4000 in
theorem b26_34 (X : smX) (x0 : Nat) (s0 : Nat) (s1 : Nat) (h : smH) : sm_E PP X 26 34 [(0, .ref x0)] [.ref s0, .ref s1] h =
    sm_fP h s1 7 2 (.ref s0) fun h1 => sm_cR (sm_C PP X 4 [.int (nI 2)] h1) fun w2 h3 => sm_E PP X 26 42 [(0, .ref x0)] (w2.toList ++ [.ref x0]) h3 :=
  (sm_blk PP X 26 [0, 12, 23, 34, 42, 60, 71] 38 34 _ _ _).trans rfl
set_option maxRecDepth 4000 in
theorem b26_42 (X : smX) (x0 : Nat) (s0 : Nat) (s1 : Nat) (h : smH) : sm_E PP X 26 42 [(0, .ref x0)] [.ref s0, .ref s1] h =
    sm_fP h s1 7 3 (.ref s0) fun h1 => if (nI 2) < 0 ∨ 1000000 < (nI 2).toNatClampNeg then none else sm_fP (sm_n h1 (.inl (.boolean, (nI 2).toNatClampNeg, .inl (fun _ => 0))) (nI 2).toNatClampNeg) x0 7 4 (.ref h1.2.1) fun h2 => sm_cR (sm_C PP X 23 [.ref h2.2.1] (sm_n h2 (.inr (3, PP.2.2.1 3)) (PP.2.2.1 3).length)) fun w3 h4 => sm_E PP X 26 60 [(0, .ref x0)] (w3.toList ++ [.ref h2.2.1, .ref x0]) h4 :=
  (sm_blk PP X 26 [0, 12, 23, 34, 42, 60, 71] 38 42 _ _ _).trans rfl
set_option maxRecDepth 4000 in
theorem b26_60 (X : smX) (x0 : Nat) (s0 : Nat) (s1 : Nat) (h : smH) : sm_E PP X 26 60 [(0, .ref x0)] [.ref s0, .ref s1] h =
    sm_fP h s1 7 5 (.ref s0) fun h1 => sm_cR (sm_C PP X 25 [.ref h1.2.1] (sm_n h1 (.inr (1, PP.2.2.1 1)) (PP.2.2.1 1).length)) fun w2 h3 => sm_E PP X 26 71 [] (w2.toList ++ [.ref h1.2.1, .ref x0]) h3 :=
  (sm_blk PP X 26 [0, 12, 23, 34, 42, 60, 71] 38 60 _ _ _).trans rfl
set_option maxRecDepth 4000 in
theorem b26_71 (X : smX) (s0 : Nat) (s1 : Nat) (h : smH) : sm_E PP X 26 71 [] [.ref s0, .ref s1] h =
    sm_fP h s1 7 6 (.ref s0) fun h1 => some (none, h1) :=
  (sm_blk PP X 26 [0, 12, 23, 34, 42, 60, 71] 38 71 _ _ _).trans rfl
/-! 27: WornSums$Text.add(C)Z -/
theorem c27 (X : smX) (x0 : Nat) (x1 : Int32) (h : smH) : sm_C PP X 27 [.ref x0, .int x1] h = sm_E PP X 27 0 [(0, .ref x0), (1, .int x1)] [] h := rfl
set_option maxRecDepth 4000 in
theorem b27_0 (X : smX) (x0 : Nat) (x1 : Int32) (h : smH) : sm_E PP X 27 0 [(0, .ref x0), (1, .int x1)] [] h =
    sm_gI (sm_f h x0 6 1) fun v1 => sm_gR (sm_f h x0 6 0) fun v2 => sm_al (sm_ar PP X h (.ref v2)) fun n3 => if v1 < (nI n3) then (sm_gR (sm_f h x0 6 0) fun v4 => sm_gI (sm_f h x0 6 1) fun v5 => sm_st h v4 .char v5 (vp_nar .char x1) fun h6 => sm_gI (sm_f h6 x0 6 1) fun v7 => sm_fP h6 x0 6 1 (.int (v7 + (nI 1))) fun h8 => if narrow (sm_nk 1) (.int (nI 1)) = .int (nI 1) then some (some (.int (nI 1)), h8) else none) else if narrow (sm_nk 1) (.int (nI 0)) = .int (nI 0) then some (some (.int (nI 0)), h) else none :=
  (sm_blk PP X 27 [0] 24 0 _ _ _).trans rfl
/-! 28: WornSums.type(I)I -/
theorem c28 (X : smX) (x0 : Nat) (x1 : Int32) (h : smH) : sm_C PP X 28 [.ref x0, .int x1] h = sm_E PP X 28 0 [(0, .ref x0), (1, .int x1)] [] h := rfl
set_option maxRecDepth 4000 in
theorem b28_0 (X : smX) (x0 : Nat) (x1 : Int32) (h : smH) : sm_E PP X 28 0 [(0, .ref x0), (1, .int x1)] [] h =
    if x1 < 0 then (sm_E PP X 28 11 [] [] h) else if x1 ≤ (nI 255) then (sm_gR (sm_f h x0 7 0) fun v1 => sm_vc h v1 6 (sm_cR (sm_C PP X 27 [.ref v1, .int ((x1.toUInt32 % 65536).toInt32)] h) fun w2 h3 => sm_E PP X 28 22 [(0, .ref x0)] (w2.toList ++ []) h3)) else sm_E PP X 28 11 [] [] h :=
  (sm_blk PP X 28 [0, 11, 22, 37] 21 0 _ _ _).trans rfl
set_option maxRecDepth 4000 in
theorem b28_11 (X : smX) (h : smH) : sm_E PP X 28 11 [] [] h =
    some (some (.int (-nI 1)), h) :=
  (sm_blk PP X 28 [0, 11, 22, 37] 21 11 _ _ _).trans rfl
set_option maxRecDepth 4000 in
theorem b28_22 (X : smX) (x0 : Nat) (s0 : Int32) (h : smH) : sm_E PP X 28 22 [(0, .ref x0)] [.int s0] h =
    if s0 = 0 then (sm_E PP X 28 37 [] [.int (-nI 3)] h) else sm_gR (sm_f h x0 7 0) fun v1 => sm_gI (sm_f h v1 6 1) fun v2 => sm_E PP X 28 37 [] [.int v2] h :=
  (sm_blk PP X 28 [0, 11, 22, 37] 21 22 _ _ _).trans rfl
set_option maxRecDepth 4000 in
theorem b28_37 (X : smX) (s0 : Int32) (h : smH) : sm_E PP X 28 37 [] [.int s0] h =
    some (some (.int s0), h) :=
  (sm_blk PP X 28 [0, 11, 22, 37] 21 37 _ _ _).trans rfl
/-! 29: WornSums.clear()I -/
theorem c29 (X : smX) (x0 : Nat) (h : smH) : sm_C PP X 29 [.ref x0] h = sm_E PP X 29 0 [(0, .ref x0)] [] h := rfl
set_option maxRecDepth 4000 in
theorem b29_0 (X : smX) (x0 : Nat) (h : smH) : sm_E PP X 29 0 [(0, .ref x0)] [] h =
    sm_gR (sm_f h x0 7 0) fun v1 => sm_gI (sm_f h v1 6 1) fun v2 => sm_gR (sm_f h x0 7 0) fun v3 => sm_fP h v3 6 1 (.int (nI 0)) fun h4 => some (some (.int v2), h4) :=
  (sm_blk PP X 29 [0] 12 0 _ _ _).trans rfl
/-! 30: WornSums$Text.at(I)C -/
theorem c30 (X : smX) (x0 : Nat) (x1 : Int32) (h : smH) : sm_C PP X 30 [.ref x0, .int x1] h = sm_E PP X 30 0 [(0, .ref x0), (1, .int x1)] [] h := rfl
set_option maxRecDepth 4000 in
theorem b30_0 (X : smX) (x0 : Nat) (x1 : Int32) (h : smH) : sm_E PP X 30 0 [(0, .ref x0), (1, .int x1)] [] h =
    if x1 < 0 then (sm_E PP X 30 30 [] [] h) else sm_gI (sm_f h x0 6 1) fun v1 => if v1 ≤ x1 then (sm_E PP X 30 30 [] [] h) else sm_gR (sm_f h x0 6 0) fun v2 => sm_al (sm_ar PP X h (.ref v2)) fun n3 => if (nI n3) ≤ x1 then (sm_E PP X 30 30 [] [] h) else sm_gR (sm_f h x0 6 0) fun v4 => sm_ld (sm_ar PP X h (.ref v4)) .char x1 fun v5 => sm_E PP X 30 31 [] [.int v5] h :=
  (sm_blk PP X 30 [0, 30, 31] 20 0 _ _ _).trans rfl
set_option maxRecDepth 4000 in
theorem b30_30 (X : smX) (h : smH) : sm_E PP X 30 30 [] [] h =
    sm_E PP X 30 31 [] [.int (nI 0)] h :=
  (sm_blk PP X 30 [0, 30, 31] 20 30 _ _ _).trans rfl
set_option maxRecDepth 4000 in
theorem b30_31 (X : smX) (s0 : Int32) (h : smH) : sm_E PP X 30 31 [] [.int s0] h =
    if narrow (sm_nk 2) (.int s0) = .int s0 then some (some (.int s0), h) else none :=
  (sm_blk PP X 30 [0, 30, 31] 20 31 _ _ _).trans rfl
/-! 31: WornSums.isLetter(I)Z -/
theorem c31 (X : smX) (x0 : Int32) (h : smH) : sm_C PP X 31 [.int x0] h = sm_E PP X 31 0 [(0, .int x0)] [] h := rfl
set_option maxRecDepth 4000 in
theorem b31_0 (X : smX) (x0 : Int32) (h : smH) : sm_E PP X 31 0 [(0, .int x0)] [] h =
    if x0 < (nI 97) then (sm_E PP X 31 16 [] [] h) else if (nI 122) < x0 then (sm_E PP X 31 16 [] [] h) else sm_E PP X 31 17 [] [.int (nI 1)] h :=
  (sm_blk PP X 31 [0, 16, 17] 12 0 _ _ _).trans rfl
set_option maxRecDepth 4000 in
theorem b31_16 (X : smX) (h : smH) : sm_E PP X 31 16 [] [] h =
    sm_E PP X 31 17 [] [.int (nI 0)] h :=
  (sm_blk PP X 31 [0, 16, 17] 12 16 _ _ _).trans rfl
set_option maxRecDepth 4000 in
theorem b31_17 (X : smX) (s0 : Int32) (h : smH) : sm_E PP X 31 17 [] [.int s0] h =
    if narrow (sm_nk 1) (.int s0) = .int s0 then some (some (.int s0), h) else none :=
  (sm_blk PP X 31 [0, 16, 17] 12 17 _ _ _).trans rfl
/-! 32: WornSums$Text.standsInWords(I)Z -/
theorem c32 (X : smX) (x0 : Nat) (x1 : Int32) (h : smH) : sm_C PP X 32 [.ref x0, .int x1] h = sm_E PP X 32 0 [(0, .ref x0), (1, .int x1)] [] h := rfl
set_option maxRecDepth 4000 in
theorem b32_0 (X : smX) (x0 : Nat) (x1 : Int32) (h : smH) : sm_E PP X 32 0 [(0, .ref x0), (1, .int x1)] [] h =
    sm_vc h x0 6 (sm_cR (sm_C PP X 30 [.ref x0, .int x1] h) fun w1 h2 => sm_E PP X 32 5 [(0, .ref x0), (1, .int x1)] (w1.toList ++ []) h2) :=
  (sm_blk PP X 32 [0, 5, 21, 47, 59, 68, 69, 80, 83, 88] 53 0 _ _ _).trans rfl
set_option maxRecDepth 4000 in
theorem b32_5 (X : smX) (x0 : Nat) (x1 : Int32) (s0 : Int32) (h : smH) : sm_E PP X 32 5 [(0, .ref x0), (1, .int x1)] [.int s0] h =
    if s0 = (nI 61) then (if x1 ≤ 0 then (sm_E PP X 32 21 [] [.int (nI 0)] h) else sm_E PP X 32 21 [] [.int (nI 1)] h) else if x1 < (nI 31) then (if s0 = (nI 32) then (if x1 ≤ 0 then (sm_E PP X 32 68 [] [] h) else sm_vc h x0 6 (sm_cR (sm_C PP X 30 [.ref x0, .int (x1 - (nI 1))] h) fun w1 h2 => sm_E PP X 32 47 [(0, .ref x0), (1, .int x1)] (w1.toList ++ []) h2)) else if s0 = (nI 63) then (sm_E PP X 32 83 [] [] h) else sm_cR (sm_C PP X 31 [.int s0] h) fun w3 h4 => sm_E PP X 32 80 [] (w3.toList ++ []) h4) else if narrow (sm_nk 1) (.int (nI 0)) = .int (nI 0) then some (some (.int (nI 0)), h) else none :=
  (sm_blk PP X 32 [0, 5, 21, 47, 59, 68, 69, 80, 83, 88] 53 5 _ _ _).trans rfl
set_option maxRecDepth 4000 in
theorem b32_21 (X : smX) (s0 : Int32) (h : smH) : sm_E PP X 32 21 [] [.int s0] h =
    if narrow (sm_nk 1) (.int s0) = .int s0 then some (some (.int s0), h) else none :=
  (sm_blk PP X 32 [0, 5, 21, 47, 59, 68, 69, 80, 83, 88] 53 21 _ _ _).trans rfl
set_option maxRecDepth 4000 in
theorem b32_68 (X : smX) (h : smH) : sm_E PP X 32 68 [] [] h =
    sm_E PP X 32 69 [] [.int (nI 0)] h :=
  (sm_blk PP X 32 [0, 5, 21, 47, 59, 68, 69, 80, 83, 88] 53 68 _ _ _).trans rfl
set_option maxRecDepth 4000 in
theorem b32_47 (X : smX) (x0 : Nat) (x1 : Int32) (s0 : Int32) (h : smH) : sm_E PP X 32 47 [(0, .ref x0), (1, .int x1)] [.int s0] h =
    if s0 = (nI 32) then (sm_E PP X 32 68 [] [] h) else sm_vc h x0 6 (sm_cR (sm_C PP X 30 [.ref x0, .int (x1 + (nI 1))] h) fun w1 h2 => sm_E PP X 32 59 [] (w1.toList ++ []) h2) :=
  (sm_blk PP X 32 [0, 5, 21, 47, 59, 68, 69, 80, 83, 88] 53 47 _ _ _).trans rfl
set_option maxRecDepth 4000 in
theorem b32_83 (X : smX) (h : smH) : sm_E PP X 32 83 [] [] h =
    sm_E PP X 32 88 [] [.int (nI 1)] h :=
  (sm_blk PP X 32 [0, 5, 21, 47, 59, 68, 69, 80, 83, 88] 53 83 _ _ _).trans rfl
set_option maxRecDepth 4000 in
theorem b32_80 (X : smX) (s0 : Int32) (h : smH) : sm_E PP X 32 80 [] [.int s0] h =
    if s0 = 0 then (sm_E PP X 32 88 [] [.int (nI 0)] h) else sm_E PP X 32 83 [] [] h :=
  (sm_blk PP X 32 [0, 5, 21, 47, 59, 68, 69, 80, 83, 88] 53 80 _ _ _).trans rfl
set_option maxRecDepth 4000 in
theorem b32_69 (X : smX) (s0 : Int32) (h : smH) : sm_E PP X 32 69 [] [.int s0] h =
    if narrow (sm_nk 1) (.int s0) = .int s0 then some (some (.int s0), h) else none :=
  (sm_blk PP X 32 [0, 5, 21, 47, 59, 68, 69, 80, 83, 88] 53 69 _ _ _).trans rfl
set_option maxRecDepth 4000 in
theorem b32_59 (X : smX) (s0 : Int32) (h : smH) : sm_E PP X 32 59 [] [.int s0] h =
    if s0 = (nI 61) then (sm_E PP X 32 68 [] [] h) else sm_E PP X 32 69 [] [.int (nI 1)] h :=
  (sm_blk PP X 32 [0, 5, 21, 47, 59, 68, 69, 80, 83, 88] 53 59 _ _ _).trans rfl
set_option maxRecDepth 4000 in
theorem b32_88 (X : smX) (s0 : Int32) (h : smH) : sm_E PP X 32 88 [] [.int s0] h =
    if narrow (sm_nk 1) (.int s0) = .int s0 then some (some (.int s0), h) else none :=
  (sm_blk PP X 32 [0, 5, 21, 47, 59, 68, 69, 80, 83, 88] 53 88 _ _ _).trans rfl
/-! 33: WornSums.isFigureSign(I)Z -/
theorem c33 (X : smX) (x0 : Int32) (h : smH) : sm_C PP X 33 [.int x0] h = sm_E PP X 33 0 [(0, .int x0)] [] h := rfl
set_option maxRecDepth 4000 in
theorem b33_0 (X : smX) (x0 : Int32) (h : smH) : sm_E PP X 33 0 [(0, .int x0)] [] h =
    if x0 < (nI 48) then (sm_E PP X 33 16 [] [] h) else if (nI 57) < x0 then (sm_E PP X 33 16 [] [] h) else sm_E PP X 33 17 [] [.int (nI 1)] h :=
  (sm_blk PP X 33 [0, 16, 17] 12 0 _ _ _).trans rfl
set_option maxRecDepth 4000 in
theorem b33_16 (X : smX) (h : smH) : sm_E PP X 33 16 [] [] h =
    sm_E PP X 33 17 [] [.int (nI 0)] h :=
  (sm_blk PP X 33 [0, 16, 17] 12 16 _ _ _).trans rfl
set_option maxRecDepth 4000 in
theorem b33_17 (X : smX) (s0 : Int32) (h : smH) : sm_E PP X 33 17 [] [.int s0] h =
    if narrow (sm_nk 1) (.int s0) = .int s0 then some (some (.int s0), h) else none :=
  (sm_blk PP X 33 [0, 16, 17] 12 17 _ _ _).trans rfl
/-! 34: WornSums$Text.standsInFigures(IC)Z -/
theorem c34 (X : smX) (x0 : Int32) (x1 : Int32) (h : smH) : sm_C PP X 34 [.int x0, .int x1] h = sm_E PP X 34 0 [(0, .int x0), (1, .int x1)] [] h := rfl
set_option maxRecDepth 4000 in
theorem b34_0 (X : smX) (x0 : Int32) (x1 : Int32) (h : smH) : sm_E PP X 34 0 [(0, .int x0), (1, .int x1)] [] h =
    if (nI 3) < x0 then (sm_E PP X 34 22 [] [] h) else if x1 = (nI 63) then (sm_E PP X 34 18 [] [] h) else sm_cR (sm_C PP X 33 [.int x1] h) fun w1 h2 => sm_E PP X 34 15 [] (w1.toList ++ []) h2 :=
  (sm_blk PP X 34 [0, 15, 18, 22, 23] 15 0 _ _ _).trans rfl
set_option maxRecDepth 4000 in
theorem b34_22 (X : smX) (h : smH) : sm_E PP X 34 22 [] [] h =
    sm_E PP X 34 23 [] [.int (nI 0)] h :=
  (sm_blk PP X 34 [0, 15, 18, 22, 23] 15 22 _ _ _).trans rfl
set_option maxRecDepth 4000 in
theorem b34_18 (X : smX) (h : smH) : sm_E PP X 34 18 [] [] h =
    sm_E PP X 34 23 [] [.int (nI 1)] h :=
  (sm_blk PP X 34 [0, 15, 18, 22, 23] 15 18 _ _ _).trans rfl
set_option maxRecDepth 4000 in
theorem b34_15 (X : smX) (s0 : Int32) (h : smH) : sm_E PP X 34 15 [] [.int s0] h =
    if s0 = 0 then (sm_E PP X 34 22 [] [] h) else sm_E PP X 34 18 [] [] h :=
  (sm_blk PP X 34 [0, 15, 18, 22, 23] 15 15 _ _ _).trans rfl
set_option maxRecDepth 4000 in
theorem b34_23 (X : smX) (s0 : Int32) (h : smH) : sm_E PP X 34 23 [] [.int s0] h =
    if narrow (sm_nk 1) (.int s0) = .int s0 then some (some (.int s0), h) else none :=
  (sm_blk PP X 34 [0, 15, 18, 22, 23] 15 23 _ _ _).trans rfl
/-! 35: WornSums$Text.fault()I -/
theorem c35 (X : smX) (x0 : Nat) (h : smH) : sm_C PP X 35 [.ref x0] h = sm_E PP X 35 0 [(0, .ref x0)] [] h := rfl
set_option maxRecDepth 4000 in
theorem b35_0 (X : smX) (x0 : Nat) (h : smH) : sm_E PP X 35 0 [(0, .ref x0)] [] h =
    sm_E PP X 35 5 [(0, .ref x0), (1, .int (-nI 9)), (2, .int (nI 0))] [] h :=
  (sm_blk PP X 35 [0, 5, 24, 35, 38, 50, 57, 79, 84, 98] 58 0 _ _ _).trans rfl
set_option maxRecDepth 4000 in
theorem b35_5 (X : smX) (x0 : Nat) (x1 : Int32) (x2 : Int32) (h : smH) : sm_E PP X 35 5 [(0, .ref x0), (1, .int x1), (2, .int x2)] [] h =
    sm_gI (sm_f h x0 6 1) fun v1 => if v1 ≤ x2 then (if x1 = (-nI 9) then (sm_E PP X 35 79 [(0, .ref x0)] [] h) else sm_gI (sm_f h x0 6 1) fun v2 => if x1 = (v2 - (nI 1)) then (sm_E PP X 35 79 [(0, .ref x0)] [] h) else sm_E PP X 35 84 [(0, .ref x0)] [.int (nI 0)] h) else if x1 = (-nI 9) then (sm_vc h x0 6 (sm_cR (sm_C PP X 32 [.ref x0, .int x2] h) fun w3 h4 => sm_E PP X 35 24 [(0, .ref x0), (1, .int x1), (2, .int x2)] (w3.toList ++ []) h4)) else sm_vc h x0 6 (sm_cR (sm_C PP X 30 [.ref x0, .int x2] h) fun w5 h6 => sm_E PP X 35 35 [(0, .ref x0), (1, .int x1), (2, .int x2)] (w5.toList ++ [.int (x2 - x1)]) h6) :=
  (sm_blk PP X 35 [0, 5, 24, 35, 38, 50, 57, 79, 84, 98] 58 5 _ _ _).trans rfl
set_option maxRecDepth 4000 in
theorem b35_79 (X : smX) (x0 : Nat) (h : smH) : sm_E PP X 35 79 [(0, .ref x0)] [] h =
    sm_E PP X 35 84 [(0, .ref x0)] [.int (nI 1)] h :=
  (sm_blk PP X 35 [0, 5, 24, 35, 38, 50, 57, 79, 84, 98] 58 79 _ _ _).trans rfl
set_option maxRecDepth 4000 in
theorem b35_84 (X : smX) (x0 : Nat) (s0 : Int32) (h : smH) : sm_E PP X 35 84 [(0, .ref x0)] [.int s0] h =
    if s0 = 0 then (sm_E PP X 35 98 [] [.int (-nI 9)] h) else sm_gI (sm_f h x0 6 1) fun v1 => sm_E PP X 35 98 [] [.int v1] h :=
  (sm_blk PP X 35 [0, 5, 24, 35, 38, 50, 57, 79, 84, 98] 58 84 _ _ _).trans rfl
set_option maxRecDepth 4000 in
theorem b35_24 (X : smX) (x0 : Nat) (x1 : Int32) (x2 : Int32) (s0 : Int32) (h : smH) : sm_E PP X 35 24 [(0, .ref x0), (1, .int x1), (2, .int x2)] [.int s0] h =
    sm_E PP X 35 38 [(0, .ref x0), (1, .int x1), (2, .int x2)] [.int s0] h :=
  (sm_blk PP X 35 [0, 5, 24, 35, 38, 50, 57, 79, 84, 98] 58 24 _ _ _).trans rfl
set_option maxRecDepth 4000 in
theorem b35_35 (X : smX) (x0 : Nat) (x1 : Int32) (x2 : Int32) (s0 : Int32) (s1 : Int32) (h : smH) : sm_E PP X 35 35 [(0, .ref x0), (1, .int x1), (2, .int x2)] [.int s0, .int s1] h =
    sm_cR (sm_C PP X 34 [.int s1, .int s0] h) fun w1 h2 => sm_E PP X 35 38 [(0, .ref x0), (1, .int x1), (2, .int x2)] (w1.toList ++ []) h2 :=
  (sm_blk PP X 35 [0, 5, 24, 35, 38, 50, 57, 79, 84, 98] 58 35 _ _ _).trans rfl
set_option maxRecDepth 4000 in
theorem b35_98 (X : smX) (s0 : Int32) (h : smH) : sm_E PP X 35 98 [] [.int s0] h =
    some (some (.int s0), h) :=
  (sm_blk PP X 35 [0, 5, 24, 35, 38, 50, 57, 79, 84, 98] 58 98 _ _ _).trans rfl
set_option maxRecDepth 4000 in
theorem b35_38 (X : smX) (x0 : Nat) (x1 : Int32) (x2 : Int32) (s0 : Int32) (h : smH) : sm_E PP X 35 38 [(0, .ref x0), (1, .int x1), (2, .int x2)] [.int s0] h =
    if s0 = 0 then (some (some (.int x2), h)) else sm_vc h x0 6 (sm_cR (sm_C PP X 30 [.ref x0, .int x2] h) fun w1 h2 => sm_E PP X 35 50 [(0, .ref x0), (1, .int x1), (2, .int x2)] (w1.toList ++ []) h2) :=
  (sm_blk PP X 35 [0, 5, 24, 35, 38, 50, 57, 79, 84, 98] 58 38 _ _ _).trans rfl
set_option maxRecDepth 4000 in
theorem b35_50 (X : smX) (x0 : Nat) (x1 : Int32) (x2 : Int32) (s0 : Int32) (h : smH) : sm_E PP X 35 50 [(0, .ref x0), (1, .int x1), (2, .int x2)] [.int s0] h =
    if s0 = (nI 61) then (sm_E PP X 35 57 [(0, .ref x0), (1, .int x2), (2, .int x2)] [] h) else sm_E PP X 35 57 [(0, .ref x0), (1, .int x1), (2, .int x2)] [] h :=
  (sm_blk PP X 35 [0, 5, 24, 35, 38, 50, 57, 79, 84, 98] 58 50 _ _ _).trans rfl
set_option maxRecDepth 4000 in
theorem b35_57 (X : smX) (x0 : Nat) (x1 : Int32) (x2 : Int32) (h : smH) : sm_E PP X 35 57 [(0, .ref x0), (1, .int x1), (2, .int x2)] [] h =
    sm_E PP X 35 5 [(0, .ref x0), (1, .int x1), (2, .int (x2 + (nI 1)))] [] h :=
  (sm_blk PP X 35 [0, 5, 24, 35, 38, 50, 57, 79, 84, 98] 58 57 _ _ _).trans rfl
/-! 36: WornSums$Row.hasPlace(I)Z -/
theorem c36 (X : smX) (x0 : Nat) (x1 : Int32) (h : smH) : sm_C PP X 36 [.ref x0, .int x1] h = sm_E PP X 36 0 [(0, .ref x0), (1, .int x1)] [] h := rfl
set_option maxRecDepth 4000 in
theorem b36_0 (X : smX) (x0 : Nat) (x1 : Int32) (h : smH) : sm_E PP X 36 0 [(0, .ref x0), (1, .int x1)] [] h =
    if x1 < 0 then (sm_E PP X 36 25 [] [] h) else sm_gI (sm_f h x0 4 1) fun v1 => if v1 ≤ x1 then (sm_E PP X 36 25 [] [] h) else sm_gR (sm_f h x0 4 0) fun v2 => sm_al (sm_ar PP X h (.ref v2)) fun n3 => if (nI n3) ≤ x1 then (sm_E PP X 36 25 [] [] h) else sm_E PP X 36 26 [] [.int (nI 1)] h :=
  (sm_blk PP X 36 [0, 25, 26] 17 0 _ _ _).trans rfl
set_option maxRecDepth 4000 in
theorem b36_25 (X : smX) (h : smH) : sm_E PP X 36 25 [] [] h =
    sm_E PP X 36 26 [] [.int (nI 0)] h :=
  (sm_blk PP X 36 [0, 25, 26] 17 25 _ _ _).trans rfl
set_option maxRecDepth 4000 in
theorem b36_26 (X : smX) (s0 : Int32) (h : smH) : sm_E PP X 36 26 [] [.int s0] h =
    if narrow (sm_nk 1) (.int s0) = .int s0 then some (some (.int s0), h) else none :=
  (sm_blk PP X 36 [0, 25, 26] 17 26 _ _ _).trans rfl
/-! 37: WornSums$Row.at(I)C -/
theorem c37 (X : smX) (x0 : Nat) (x1 : Int32) (h : smH) : sm_C PP X 37 [.ref x0, .int x1] h = sm_E PP X 37 0 [(0, .ref x0), (1, .int x1)] [] h := rfl
set_option maxRecDepth 4000 in
theorem b37_0 (X : smX) (x0 : Nat) (x1 : Int32) (h : smH) : sm_E PP X 37 0 [(0, .ref x0), (1, .int x1)] [] h =
    sm_vc h x0 4 (sm_cR (sm_C PP X 36 [.ref x0, .int x1] h) fun w1 h2 => sm_E PP X 37 5 [(0, .ref x0), (1, .int x1)] (w1.toList ++ []) h2) :=
  (sm_blk PP X 37 [0, 5, 18] 13 0 _ _ _).trans rfl
set_option maxRecDepth 4000 in
theorem b37_5 (X : smX) (x0 : Nat) (x1 : Int32) (s0 : Int32) (h : smH) : sm_E PP X 37 5 [(0, .ref x0), (1, .int x1)] [.int s0] h =
    if s0 = 0 then (sm_E PP X 37 18 [] [.int (nI 0)] h) else sm_gR (sm_f h x0 4 0) fun v1 => sm_ld (sm_ar PP X h (.ref v1)) .char x1 fun v2 => sm_E PP X 37 18 [] [.int v2] h :=
  (sm_blk PP X 37 [0, 5, 18] 13 5 _ _ _).trans rfl
set_option maxRecDepth 4000 in
theorem b37_18 (X : smX) (s0 : Int32) (h : smH) : sm_E PP X 37 18 [] [.int s0] h =
    if narrow (sm_nk 2) (.int s0) = .int s0 then some (some (.int s0), h) else none :=
  (sm_blk PP X 37 [0, 5, 18] 13 18 _ _ _).trans rfl
/-! 38: WornSums$Row.put(IC)V -/
theorem c38 (X : smX) (x0 : Nat) (x1 : Int32) (x2 : Int32) (h : smH) : sm_C PP X 38 [.ref x0, .int x1, .int x2] h = sm_E PP X 38 0 [(0, .ref x0), (1, .int x1), (2, .int x2)] [] h := rfl
set_option maxRecDepth 4000 in
theorem b38_0 (X : smX) (x0 : Nat) (x1 : Int32) (x2 : Int32) (h : smH) : sm_E PP X 38 0 [(0, .ref x0), (1, .int x1), (2, .int x2)] [] h =
    sm_vc h x0 4 (sm_cR (sm_C PP X 36 [.ref x0, .int x1] h) fun w1 h2 => sm_E PP X 38 5 [(0, .ref x0), (1, .int x1), (2, .int x2)] (w1.toList ++ []) h2) :=
  (sm_blk PP X 38 [0, 5, 15] 12 0 _ _ _).trans rfl
set_option maxRecDepth 4000 in
theorem b38_5 (X : smX) (x0 : Nat) (x1 : Int32) (x2 : Int32) (s0 : Int32) (h : smH) : sm_E PP X 38 5 [(0, .ref x0), (1, .int x1), (2, .int x2)] [.int s0] h =
    if s0 = 0 then (sm_E PP X 38 15 [] [] h) else sm_gR (sm_f h x0 4 0) fun v1 => sm_st h v1 .char x1 (vp_nar .char x2) fun h2 => sm_E PP X 38 15 [] [] h2 :=
  (sm_blk PP X 38 [0, 5, 15] 12 5 _ _ _).trans rfl
set_option maxRecDepth 4000 in
theorem b38_15 (X : smX) (h : smH) : sm_E PP X 38 15 [] [] h =
    some (none, h) :=
  (sm_blk PP X 38 [0, 5, 15] 12 15 _ _ _).trans rfl
/-! 39: WornSums$Row.copyFrom(LWornSums$Row;)V -/
theorem c39 (X : smX) (x0 : Nat) (x1 : Nat) (h : smH) : sm_C PP X 39 [.ref x0, .ref x1] h = sm_E PP X 39 0 [(0, .ref x0), (1, .ref x1)] [] h := rfl
set_option maxRecDepth 4000 in
theorem b39_0 (X : smX) (x0 : Nat) (x1 : Nat) (h : smH) : sm_E PP X 39 0 [(0, .ref x0), (1, .ref x1)] [] h =
    sm_gI (sm_f h x1 4 1) fun v1 => sm_gR (sm_f h x0 4 0) fun v2 => sm_al (sm_ar PP X h (.ref v2)) fun n3 => sm_fP h x0 4 1 (.int (if (nI n3) < v1 then (nI n3) else v1)) fun h4 => sm_E PP X 39 18 [(0, .ref x0), (1, .ref x1), (2, .int (nI 0))] [] h4 :=
  (sm_blk PP X 39 [0, 18, 33, 36] 25 0 _ _ _).trans rfl
set_option maxRecDepth 4000 in
theorem b39_18 (X : smX) (x0 : Nat) (x1 : Nat) (x2 : Int32) (h : smH) : sm_E PP X 39 18 [(0, .ref x0), (1, .ref x1), (2, .int x2)] [] h =
    sm_gI (sm_f h x0 4 1) fun v1 => if v1 ≤ x2 then (some (none, h)) else sm_vc h x1 4 (sm_cR (sm_C PP X 37 [.ref x1, .int x2] h) fun w2 h3 => sm_E PP X 39 33 [(0, .ref x0), (1, .ref x1), (2, .int x2)] (w2.toList ++ [.int x2, .ref x0]) h3) :=
  (sm_blk PP X 39 [0, 18, 33, 36] 25 18 _ _ _).trans rfl
set_option maxRecDepth 4000 in
theorem b39_33 (X : smX) (x0 : Nat) (x1 : Nat) (x2 : Int32) (s0 : Int32) (s1 : Int32) (s2 : Nat) (h : smH) : sm_E PP X 39 33 [(0, .ref x0), (1, .ref x1), (2, .int x2)] [.int s0, .int s1, .ref s2] h =
    sm_vc h s2 4 (sm_cR (sm_C PP X 38 [.ref s2, .int s1, .int s0] h) fun w1 h2 => sm_E PP X 39 36 [(0, .ref x0), (1, .ref x1), (2, .int x2)] (w1.toList ++ []) h2) :=
  (sm_blk PP X 39 [0, 18, 33, 36] 25 33 _ _ _).trans rfl
set_option maxRecDepth 4000 in
theorem b39_36 (X : smX) (x0 : Nat) (x1 : Nat) (x2 : Int32) (h : smH) : sm_E PP X 39 36 [(0, .ref x0), (1, .ref x1), (2, .int x2)] [] h =
    sm_E PP X 39 18 [(0, .ref x0), (1, .ref x1), (2, .int (x2 + (nI 1)))] [] h :=
  (sm_blk PP X 39 [0, 18, 33, 36] 25 36 _ _ _).trans rfl
/-! 40: WornSums$Sheet.copyFrom(LWornSums$Sheet;)V -/
theorem c40 (X : smX) (x0 : Nat) (x1 : Nat) (h : smH) : sm_C PP X 40 [.ref x0, .ref x1] h = sm_E PP X 40 0 [(0, .ref x0), (1, .ref x1)] [] h := rfl
set_option maxRecDepth 4000 in
theorem b40_0 (X : smX) (x0 : Nat) (x1 : Nat) (h : smH) : sm_E PP X 40 0 [(0, .ref x0), (1, .ref x1)] [] h =
    sm_gI (sm_f h x1 5 2) fun v1 => sm_fP h x0 5 2 (.int (if (nI 6) < v1 then (nI 6) else v1)) fun h2 => sm_gI (sm_f h2 x1 5 3) fun v3 => sm_fP h2 x0 5 3 (.int v3) fun h4 => sm_gI (sm_f h4 x1 5 4) fun v5 => sm_fP h4 x0 5 4 (.int v5) fun h6 => sm_E PP X 40 31 [(0, .ref x0), (1, .ref x1), (2, .int (nI 0))] [] h6 :=
  (sm_blk PP X 40 [0, 31, 54, 69] 43 0 _ _ _).trans rfl
set_option maxRecDepth 4000 in
theorem b40_31 (X : smX) (x0 : Nat) (x1 : Nat) (x2 : Int32) (h : smH) : sm_E PP X 40 31 [(0, .ref x0), (1, .ref x1), (2, .int x2)] [] h =
    sm_gI (sm_f h x0 5 2) fun v1 => if v1 ≤ x2 then (some (none, h)) else sm_gR (sm_f h x0 5 0) fun v2 => sm_ldR (sm_ar PP X h (.ref v2)) x2 fun v3 => sm_gR (sm_f h x1 5 0) fun v4 => sm_ldR (sm_ar PP X h (.ref v4)) x2 fun v5 => sm_vc h v3 4 (sm_cR (sm_C PP X 39 [.ref v3, .ref v5] h) fun w6 h7 => sm_E PP X 40 54 [(0, .ref x0), (1, .ref x1), (2, .int x2)] (w6.toList ++ []) h7) :=
  (sm_blk PP X 40 [0, 31, 54, 69] 43 31 _ _ _).trans rfl
set_option maxRecDepth 4000 in
theorem b40_54 (X : smX) (x0 : Nat) (x1 : Nat) (x2 : Int32) (h : smH) : sm_E PP X 40 54 [(0, .ref x0), (1, .ref x1), (2, .int x2)] [] h =
    sm_gR (sm_f h x0 5 1) fun v1 => sm_ldR (sm_ar PP X h (.ref v1)) x2 fun v2 => sm_gR (sm_f h x1 5 1) fun v3 => sm_ldR (sm_ar PP X h (.ref v3)) x2 fun v4 => sm_vc h v2 4 (sm_cR (sm_C PP X 39 [.ref v2, .ref v4] h) fun w5 h6 => sm_E PP X 40 69 [(0, .ref x0), (1, .ref x1), (2, .int x2)] (w5.toList ++ []) h6) :=
  (sm_blk PP X 40 [0, 31, 54, 69] 43 54 _ _ _).trans rfl
set_option maxRecDepth 4000 in
theorem b40_69 (X : smX) (x0 : Nat) (x1 : Nat) (x2 : Int32) (h : smH) : sm_E PP X 40 69 [(0, .ref x0), (1, .ref x1), (2, .int x2)] [] h =
    sm_E PP X 40 31 [(0, .ref x0), (1, .ref x1), (2, .int (x2 + (nI 1)))] [] h :=
  (sm_blk PP X 40 [0, 31, 54, 69] 43 69 _ _ _).trans rfl
/-! 41: WornSums$History.remember(LWornSums$Sheet;)V -/
theorem c41 (X : smX) (x0 : Nat) (x1 : Nat) (h : smH) : sm_C PP X 41 [.ref x0, .ref x1] h = sm_E PP X 41 0 [(0, .ref x0), (1, .ref x1)] [] h := rfl
set_option maxRecDepth 4000 in
theorem b41_0 (X : smX) (x0 : Nat) (x1 : Nat) (h : smH) : sm_E PP X 41 0 [(0, .ref x0), (1, .ref x1)] [] h =
    sm_gR (sm_f h x0 2 0) fun v1 => sm_gI (sm_f h x0 2 1) fun v2 => sm_cR (sm_C PP X 92 [.int v2] h) fun w3 h4 => sm_E PP X 41 11 [(0, .ref x0), (1, .ref x1)] (w3.toList ++ [.ref v1]) h4 :=
  (sm_blk PP X 41 [0, 11, 16, 26] 26 0 _ _ _).trans rfl
set_option maxRecDepth 4000 in
theorem b41_11 (X : smX) (x0 : Nat) (x1 : Nat) (s0 : Int32) (s1 : Nat) (h : smH) : sm_E PP X 41 11 [(0, .ref x0), (1, .ref x1)] [.int s0, .ref s1] h =
    sm_ldR (sm_ar PP X h (.ref s1)) s0 fun v1 => sm_vc h v1 5 (sm_cR (sm_C PP X 40 [.ref v1, .ref x1] h) fun w2 h3 => sm_E PP X 41 16 [(0, .ref x0)] (w2.toList ++ []) h3) :=
  (sm_blk PP X 41 [0, 11, 16, 26] 26 11 _ _ _).trans rfl
set_option maxRecDepth 4000 in
theorem b41_16 (X : smX) (x0 : Nat) (h : smH) : sm_E PP X 41 16 [(0, .ref x0)] [] h =
    sm_gI (sm_f h x0 2 1) fun v1 => sm_cR (sm_C PP X 92 [.int (v1 + (nI 1))] h) fun w2 h3 => sm_E PP X 41 26 [(0, .ref x0)] (w2.toList ++ [.ref x0]) h3 :=
  (sm_blk PP X 41 [0, 11, 16, 26] 26 16 _ _ _).trans rfl
set_option maxRecDepth 4000 in
theorem b41_26 (X : smX) (x0 : Nat) (s0 : Int32) (s1 : Nat) (h : smH) : sm_E PP X 41 26 [(0, .ref x0)] [.int s0, .ref s1] h =
    sm_fP h s1 2 1 (.int s0) fun h1 => sm_gI (sm_f h1 x0 2 2) fun v2 => sm_fP h1 x0 2 2 (.int (if (nI 8) < (v2 + (nI 1)) then (nI 8) else (v2 + (nI 1)))) fun h3 => some (none, h3) :=
  (sm_blk PP X 41 [0, 11, 16, 26] 26 26 _ _ _).trans rfl
/-! 42: WornSums$Findings.forget()V -/
theorem c42 (X : smX) (x0 : Nat) (h : smH) : sm_C PP X 42 [.ref x0] h = sm_E PP X 42 0 [(0, .ref x0)] [] h := rfl
set_option maxRecDepth 4000 in
theorem b42_0 (X : smX) (x0 : Nat) (h : smH) : sm_E PP X 42 0 [(0, .ref x0)] [] h =
    if narrow (PP.2.1 1 1) (.int (nI 0)) = .int (nI 0) ∧ fits (PP.2.1 1 1) (.int (nI 0)) = true then (sm_fP h x0 1 1 (.int (nI 0)) fun h1 => if narrow (PP.2.1 1 5) (.int (nI 0)) = .int (nI 0) ∧ fits (PP.2.1 1 5) (.int (nI 0)) = true then (sm_fP h1 x0 1 5 (.int (nI 0)) fun h2 => some (none, h2)) else none) else none :=
  (sm_blk PP X 42 [0] 9 0 _ _ _).trans rfl
/-! 43: WornSums.startChange()V -/
theorem c43 (X : smX) (x0 : Nat) (h : smH) : sm_C PP X 43 [.ref x0] h = sm_E PP X 43 0 [(0, .ref x0)] [] h := rfl
set_option maxRecDepth 4000 in
theorem b43_0 (X : smX) (x0 : Nat) (h : smH) : sm_E PP X 43 0 [(0, .ref x0)] [] h =
    sm_gR (sm_f h x0 7 2) fun v1 => sm_gR (sm_f h x0 7 1) fun v2 => sm_vc h v1 2 (sm_cR (sm_C PP X 41 [.ref v1, .ref v2] h) fun w3 h4 => sm_E PP X 43 11 [(0, .ref x0)] (w3.toList ++ []) h4) :=
  (sm_blk PP X 43 [0, 11, 18] 11 0 _ _ _).trans rfl
set_option maxRecDepth 4000 in
theorem b43_11 (X : smX) (x0 : Nat) (h : smH) : sm_E PP X 43 11 [(0, .ref x0)] [] h =
    sm_gR (sm_f h x0 7 6) fun v1 => sm_vc h v1 1 (sm_cR (sm_C PP X 42 [.ref v1] h) fun w2 h3 => sm_E PP X 43 18 [] (w2.toList ++ []) h3) :=
  (sm_blk PP X 43 [0, 11, 18] 11 11 _ _ _).trans rfl
set_option maxRecDepth 4000 in
theorem b43_18 (X : smX) (h : smH) : sm_E PP X 43 18 [] [] h =
    some (none, h) :=
  (sm_blk PP X 43 [0, 11, 18] 11 18 _ _ _).trans rfl
/-! 44: WornSums$Text.equalsPlace()I -/
theorem c44 (X : smX) (x0 : Nat) (h : smH) : sm_C PP X 44 [.ref x0] h = sm_E PP X 44 0 [(0, .ref x0)] [] h := rfl
set_option maxRecDepth 4000 in
theorem b44_0 (X : smX) (x0 : Nat) (h : smH) : sm_E PP X 44 0 [(0, .ref x0)] [] h =
    sm_E PP X 44 2 [(0, .ref x0), (1, .int (nI 0))] [] h :=
  (sm_blk PP X 44 [0, 2, 15] 20 0 _ _ _).trans rfl
set_option maxRecDepth 4000 in
theorem b44_2 (X : smX) (x0 : Nat) (x1 : Int32) (h : smH) : sm_E PP X 44 2 [(0, .ref x0), (1, .int x1)] [] h =
    sm_gI (sm_f h x0 6 1) fun v1 => if v1 ≤ x1 then (sm_gI (sm_f h x0 6 1) fun v2 => some (some (.int v2), h)) else sm_vc h x0 6 (sm_cR (sm_C PP X 30 [.ref x0, .int x1] h) fun w3 h4 => sm_E PP X 44 15 [(0, .ref x0), (1, .int x1)] (w3.toList ++ []) h4) :=
  (sm_blk PP X 44 [0, 2, 15] 20 2 _ _ _).trans rfl
set_option maxRecDepth 4000 in
theorem b44_15 (X : smX) (x0 : Nat) (x1 : Int32) (s0 : Int32) (h : smH) : sm_E PP X 44 15 [(0, .ref x0), (1, .int x1)] [.int s0] h =
    if s0 = (nI 61) then (some (some (.int x1), h)) else sm_E PP X 44 2 [(0, .ref x0), (1, .int (x1 + (nI 1)))] [] h :=
  (sm_blk PP X 44 [0, 2, 15] 20 15 _ _ _).trans rfl
/-! 45: WornSums$Row.takeFrom(LWornSums$Text;II)V -/
theorem c45 (X : smX) (x0 : Nat) (x1 : Nat) (x2 : Int32) (x3 : Int32) (h : smH) : sm_C PP X 45 [.ref x0, .ref x1, .int x2, .int x3] h = sm_E PP X 45 0 [(0, .ref x0), (1, .ref x1), (2, .int x2), (3, .int x3)] [] h := rfl
set_option maxRecDepth 4000 in
theorem b45_0 (X : smX) (x0 : Nat) (x1 : Nat) (x2 : Int32) (x3 : Int32) (h : smH) : sm_E PP X 45 0 [(0, .ref x0), (1, .ref x1), (2, .int x2), (3, .int x3)] [] h =
    sm_gR (sm_f h x0 4 0) fun v1 => sm_al (sm_ar PP X h (.ref v1)) fun n2 => sm_fP h x0 4 1 (.int (if (nI 0) < (if (nI n2) < (x3 - x2) then (nI n2) else (x3 - x2)) then (if (nI n2) < (x3 - x2) then (nI n2) else (x3 - x2)) else (nI 0))) fun h3 => sm_E PP X 45 22 [(0, .ref x0), (1, .ref x1), (2, .int x2), (4, .int (nI 0))] [] h3 :=
  (sm_blk PP X 45 [0, 22, 42, 45] 30 0 _ _ _).trans rfl
set_option maxRecDepth 4000 in
theorem b45_22 (X : smX) (x0 : Nat) (x1 : Nat) (x2 : Int32) (x4 : Int32) (h : smH) : sm_E PP X 45 22 [(0, .ref x0), (1, .ref x1), (2, .int x2), (4, .int x4)] [] h =
    sm_gI (sm_f h x0 4 1) fun v1 => if v1 ≤ x4 then (some (none, h)) else sm_vc h x1 6 (sm_cR (sm_C PP X 30 [.ref x1, .int (x2 + x4)] h) fun w2 h3 => sm_E PP X 45 42 [(0, .ref x0), (1, .ref x1), (2, .int x2), (4, .int x4)] (w2.toList ++ [.int x4, .ref x0]) h3) :=
  (sm_blk PP X 45 [0, 22, 42, 45] 30 22 _ _ _).trans rfl
set_option maxRecDepth 4000 in
theorem b45_42 (X : smX) (x0 : Nat) (x1 : Nat) (x2 : Int32) (x4 : Int32) (s0 : Int32) (s1 : Int32) (s2 : Nat) (h : smH) : sm_E PP X 45 42 [(0, .ref x0), (1, .ref x1), (2, .int x2), (4, .int x4)] [.int s0, .int s1, .ref s2] h =
    sm_vc h s2 4 (sm_cR (sm_C PP X 38 [.ref s2, .int s1, .int s0] h) fun w1 h2 => sm_E PP X 45 45 [(0, .ref x0), (1, .ref x1), (2, .int x2), (4, .int x4)] (w1.toList ++ []) h2) :=
  (sm_blk PP X 45 [0, 22, 42, 45] 30 42 _ _ _).trans rfl
set_option maxRecDepth 4000 in
theorem b45_45 (X : smX) (x0 : Nat) (x1 : Nat) (x2 : Int32) (x4 : Int32) (h : smH) : sm_E PP X 45 45 [(0, .ref x0), (1, .ref x1), (2, .int x2), (4, .int x4)] [] h =
    sm_E PP X 45 22 [(0, .ref x0), (1, .ref x1), (2, .int x2), (4, .int (x4 + (nI 1)))] [] h :=
  (sm_blk PP X 45 [0, 22, 42, 45] 30 45 _ _ _).trans rfl
/-! 46: WornSums$Sheet.addEntry(LWornSums$Text;)V -/
theorem c46 (X : smX) (x0 : Nat) (x1 : Nat) (h : smH) : sm_C PP X 46 [.ref x0, .ref x1] h = sm_E PP X 46 0 [(0, .ref x0), (1, .ref x1)] [] h := rfl
set_option maxRecDepth 4000 in
theorem b46_0 (X : smX) (x0 : Nat) (x1 : Nat) (h : smH) : sm_E PP X 46 0 [(0, .ref x0), (1, .ref x1)] [] h =
    sm_gI (sm_f h x0 5 2) fun v1 => if v1 < (nI 6) then (sm_vc h x1 6 (sm_cR (sm_C PP X 44 [.ref x1] h) fun w2 h3 => sm_E PP X 46 14 [(0, .ref x0), (1, .ref x1)] (w2.toList ++ []) h3)) else some (none, h) :=
  (sm_blk PP X 46 [0, 14, 30, 50] 38 0 _ _ _).trans rfl
set_option maxRecDepth 4000 in
theorem b46_14 (X : smX) (x0 : Nat) (x1 : Nat) (s0 : Int32) (h : smH) : sm_E PP X 46 14 [(0, .ref x0), (1, .ref x1)] [.int s0] h =
    sm_gR (sm_f h x0 5 0) fun v1 => sm_gI (sm_f h x0 5 2) fun v2 => sm_ldR (sm_ar PP X h (.ref v1)) v2 fun v3 => sm_vc h v3 4 (sm_cR (sm_C PP X 45 [.ref v3, .ref x1, .int (nI 0), .int s0] h) fun w4 h5 => sm_E PP X 46 30 [(0, .ref x0), (1, .ref x1), (2, .int s0)] (w4.toList ++ []) h5) :=
  (sm_blk PP X 46 [0, 14, 30, 50] 38 14 _ _ _).trans rfl
set_option maxRecDepth 4000 in
theorem b46_30 (X : smX) (x0 : Nat) (x1 : Nat) (x2 : Int32) (h : smH) : sm_E PP X 46 30 [(0, .ref x0), (1, .ref x1), (2, .int x2)] [] h =
    sm_gR (sm_f h x0 5 1) fun v1 => sm_gI (sm_f h x0 5 2) fun v2 => sm_ldR (sm_ar PP X h (.ref v1)) v2 fun v3 => sm_gI (sm_f h x1 6 1) fun v4 => sm_vc h v3 4 (sm_cR (sm_C PP X 45 [.ref v3, .ref x1, .int (x2 + (nI 1)), .int v4] h) fun w5 h6 => sm_E PP X 46 50 [(0, .ref x0)] (w5.toList ++ []) h6) :=
  (sm_blk PP X 46 [0, 14, 30, 50] 38 30 _ _ _).trans rfl
set_option maxRecDepth 4000 in
theorem b46_50 (X : smX) (x0 : Nat) (h : smH) : sm_E PP X 46 50 [(0, .ref x0)] [] h =
    sm_gI (sm_f h x0 5 2) fun v1 => sm_fP h x0 5 2 (.int (v1 + (nI 1))) fun h2 => some (none, h2) :=
  (sm_blk PP X 46 [0, 14, 30, 50] 38 50 _ _ _).trans rfl
/-! 47: WornSums.tells()I -/
theorem c47 (X : smX) (x0 : Nat) (h : smH) : sm_C PP X 47 [.ref x0] h = sm_E PP X 47 0 [(0, .ref x0)] [] h := rfl
set_option maxRecDepth 4000 in
theorem b47_0 (X : smX) (x0 : Nat) (h : smH) : sm_E PP X 47 0 [(0, .ref x0)] [] h =
    sm_gR (sm_f h x0 7 1) fun v1 => sm_gI (sm_f h v1 5 2) fun v2 => if v2 < (nI 6) then (sm_gR (sm_f h x0 7 0) fun v3 => sm_vc h v3 6 (sm_cR (sm_C PP X 35 [.ref v3] h) fun w4 h5 => sm_E PP X 47 22 [(0, .ref x0)] (w4.toList ++ []) h5)) else some (some (.int (-nI 3)), h) :=
  (sm_blk PP X 47 [0, 22, 38, 49] 37 0 _ _ _).trans rfl
set_option maxRecDepth 4000 in
theorem b47_22 (X : smX) (x0 : Nat) (s0 : Int32) (h : smH) : sm_E PP X 47 22 [(0, .ref x0)] [.int s0] h =
    if s0 = (-nI 9) then (sm_vc h x0 7 (sm_cR (sm_C PP X 43 [.ref x0] h) fun w1 h2 => sm_E PP X 47 38 [(0, .ref x0)] (w1.toList ++ []) h2)) else some (some (.int ((-nI 10) - s0)), h) :=
  (sm_blk PP X 47 [0, 22, 38, 49] 37 22 _ _ _).trans rfl
set_option maxRecDepth 4000 in
theorem b47_38 (X : smX) (x0 : Nat) (h : smH) : sm_E PP X 47 38 [(0, .ref x0)] [] h =
    sm_gR (sm_f h x0 7 1) fun v1 => sm_gR (sm_f h x0 7 0) fun v2 => sm_vc h v1 5 (sm_cR (sm_C PP X 46 [.ref v1, .ref v2] h) fun w3 h4 => sm_E PP X 47 49 [(0, .ref x0)] (w3.toList ++ []) h4) :=
  (sm_blk PP X 47 [0, 22, 38, 49] 37 38 _ _ _).trans rfl
set_option maxRecDepth 4000 in
theorem b47_49 (X : smX) (x0 : Nat) (h : smH) : sm_E PP X 47 49 [(0, .ref x0)] [] h =
    sm_gR (sm_f h x0 7 0) fun v1 => sm_fP h v1 6 1 (.int (nI 0)) fun h2 => sm_gR (sm_f h2 x0 7 1) fun v3 => sm_gI (sm_f h2 v3 5 2) fun v4 => some (some (.int (v4 - (nI 1))), h2) :=
  (sm_blk PP X 47 [0, 22, 38, 49] 37 49 _ _ _).trans rfl
/-! 48: WornSums$Sheet.hasEntry(I)Z -/
theorem c48 (X : smX) (x0 : Nat) (x1 : Int32) (h : smH) : sm_C PP X 48 [.ref x0, .int x1] h = sm_E PP X 48 0 [(0, .ref x0), (1, .int x1)] [] h := rfl
set_option maxRecDepth 4000 in
theorem b48_0 (X : smX) (x0 : Nat) (x1 : Int32) (h : smH) : sm_E PP X 48 0 [(0, .ref x0), (1, .int x1)] [] h =
    if x1 < 0 then (sm_E PP X 48 22 [] [] h) else sm_gI (sm_f h x0 5 2) fun v1 => if v1 ≤ x1 then (sm_E PP X 48 22 [] [] h) else if (nI 6) ≤ x1 then (sm_E PP X 48 22 [] [] h) else sm_E PP X 48 23 [] [.int (nI 1)] h :=
  (sm_blk PP X 48 [0, 22, 23] 15 0 _ _ _).trans rfl
set_option maxRecDepth 4000 in
theorem b48_22 (X : smX) (h : smH) : sm_E PP X 48 22 [] [] h =
    sm_E PP X 48 23 [] [.int (nI 0)] h :=
  (sm_blk PP X 48 [0, 22, 23] 15 22 _ _ _).trans rfl
set_option maxRecDepth 4000 in
theorem b48_23 (X : smX) (s0 : Int32) (h : smH) : sm_E PP X 48 23 [] [.int s0] h =
    if narrow (sm_nk 1) (.int s0) = .int s0 then some (some (.int s0), h) else none :=
  (sm_blk PP X 48 [0, 22, 23] 15 23 _ _ _).trans rfl
/-! 49: WornSums$Sheet.removeEntry(I)V -/
theorem c49 (X : smX) (x0 : Nat) (x1 : Int32) (h : smH) : sm_C PP X 49 [.ref x0, .int x1] h = sm_E PP X 49 0 [(0, .ref x0), (1, .int x1)] [] h := rfl
set_option maxRecDepth 4000 in
theorem b49_0 (X : smX) (x0 : Nat) (x1 : Int32) (h : smH) : sm_E PP X 49 0 [(0, .ref x0), (1, .int x1)] [] h =
    sm_vc h x0 5 (sm_cR (sm_C PP X 48 [.ref x0, .int x1] h) fun w1 h2 => sm_E PP X 49 5 [(0, .ref x0), (1, .int x1)] (w1.toList ++ []) h2) :=
  (sm_blk PP X 49 [0, 5, 11, 43, 60, 66] 49 0 _ _ _).trans rfl
set_option maxRecDepth 4000 in
theorem b49_5 (X : smX) (x0 : Nat) (x1 : Int32) (s0 : Int32) (h : smH) : sm_E PP X 49 5 [(0, .ref x0), (1, .int x1)] [.int s0] h =
    if s0 = 0 then (some (none, h)) else sm_E PP X 49 11 [(0, .ref x0), (2, .int x1)] [] h :=
  (sm_blk PP X 49 [0, 5, 11, 43, 60, 66] 49 5 _ _ _).trans rfl
set_option maxRecDepth 4000 in
theorem b49_11 (X : smX) (x0 : Nat) (x2 : Int32) (h : smH) : sm_E PP X 49 11 [(0, .ref x0), (2, .int x2)] [] h =
    sm_gI (sm_f h x0 5 2) fun v1 => if (v1 - (nI 1)) ≤ x2 then (sm_E PP X 49 66 [(0, .ref x0)] [] h) else if (nI 5) ≤ x2 then (sm_E PP X 49 66 [(0, .ref x0)] [] h) else sm_gR (sm_f h x0 5 0) fun v2 => sm_ldR (sm_ar PP X h (.ref v2)) x2 fun v3 => sm_gR (sm_f h x0 5 0) fun v4 => sm_ldR (sm_ar PP X h (.ref v4)) (x2 + (nI 1)) fun v5 => sm_vc h v3 4 (sm_cR (sm_C PP X 39 [.ref v3, .ref v5] h) fun w6 h7 => sm_E PP X 49 43 [(0, .ref x0), (2, .int x2)] (w6.toList ++ []) h7) :=
  (sm_blk PP X 49 [0, 5, 11, 43, 60, 66] 49 11 _ _ _).trans rfl
set_option maxRecDepth 4000 in
theorem b49_66 (X : smX) (x0 : Nat) (h : smH) : sm_E PP X 49 66 [(0, .ref x0)] [] h =
    sm_gI (sm_f h x0 5 2) fun v1 => sm_fP h x0 5 2 (.int (v1 - (nI 1))) fun h2 => some (none, h2) :=
  (sm_blk PP X 49 [0, 5, 11, 43, 60, 66] 49 66 _ _ _).trans rfl
set_option maxRecDepth 4000 in
theorem b49_43 (X : smX) (x0 : Nat) (x2 : Int32) (h : smH) : sm_E PP X 49 43 [(0, .ref x0), (2, .int x2)] [] h =
    sm_gR (sm_f h x0 5 1) fun v1 => sm_ldR (sm_ar PP X h (.ref v1)) x2 fun v2 => sm_gR (sm_f h x0 5 1) fun v3 => sm_ldR (sm_ar PP X h (.ref v3)) (x2 + (nI 1)) fun v4 => sm_vc h v2 4 (sm_cR (sm_C PP X 39 [.ref v2, .ref v4] h) fun w5 h6 => sm_E PP X 49 60 [(0, .ref x0), (2, .int x2)] (w5.toList ++ []) h6) :=
  (sm_blk PP X 49 [0, 5, 11, 43, 60, 66] 49 43 _ _ _).trans rfl
set_option maxRecDepth 4000 in
theorem b49_60 (X : smX) (x0 : Nat) (x2 : Int32) (h : smH) : sm_E PP X 49 60 [(0, .ref x0), (2, .int x2)] [] h =
    sm_E PP X 49 11 [(0, .ref x0), (2, .int (x2 + (nI 1)))] [] h :=
  (sm_blk PP X 49 [0, 5, 11, 43, 60, 66] 49 60 _ _ _).trans rfl
/-! 50: WornSums.drops(I)I -/
theorem c50 (X : smX) (x0 : Nat) (x1 : Int32) (h : smH) : sm_C PP X 50 [.ref x0, .int x1] h = sm_E PP X 50 0 [(0, .ref x0), (1, .int x1)] [] h := rfl
set_option maxRecDepth 4000 in
theorem b50_0 (X : smX) (x0 : Nat) (x1 : Int32) (h : smH) : sm_E PP X 50 0 [(0, .ref x0), (1, .int x1)] [] h =
    sm_gR (sm_f h x0 7 1) fun v1 => sm_vc h v1 5 (sm_cR (sm_C PP X 48 [.ref v1, .int x1] h) fun w2 h3 => sm_E PP X 50 8 [(0, .ref x0), (1, .int x1)] (w2.toList ++ []) h3) :=
  (sm_blk PP X 50 [0, 8, 17, 25] 19 0 _ _ _).trans rfl
set_option maxRecDepth 4000 in
theorem b50_8 (X : smX) (x0 : Nat) (x1 : Int32) (s0 : Int32) (h : smH) : sm_E PP X 50 8 [(0, .ref x0), (1, .int x1)] [.int s0] h =
    if s0 = 0 then (some (some (.int (-nI 1)), h)) else sm_vc h x0 7 (sm_cR (sm_C PP X 43 [.ref x0] h) fun w1 h2 => sm_E PP X 50 17 [(0, .ref x0), (1, .int x1)] (w1.toList ++ []) h2) :=
  (sm_blk PP X 50 [0, 8, 17, 25] 19 8 _ _ _).trans rfl
set_option maxRecDepth 4000 in
theorem b50_17 (X : smX) (x0 : Nat) (x1 : Int32) (h : smH) : sm_E PP X 50 17 [(0, .ref x0), (1, .int x1)] [] h =
    sm_gR (sm_f h x0 7 1) fun v1 => sm_vc h v1 5 (sm_cR (sm_C PP X 49 [.ref v1, .int x1] h) fun w2 h3 => sm_E PP X 50 25 [(0, .ref x0)] (w2.toList ++ []) h3) :=
  (sm_blk PP X 50 [0, 8, 17, 25] 19 17 _ _ _).trans rfl
set_option maxRecDepth 4000 in
theorem b50_25 (X : smX) (x0 : Nat) (h : smH) : sm_E PP X 50 25 [(0, .ref x0)] [] h =
    sm_gR (sm_f h x0 7 1) fun v1 => sm_gI (sm_f h v1 5 2) fun v2 => some (some (.int v2), h) :=
  (sm_blk PP X 50 [0, 8, 17, 25] 19 25 _ _ _).trans rfl
/-! 106: java/lang/Math.floorMod(II)I -/
theorem c106 (X : smX) (x0 : Int32) (x1 : Int32) (h : smH) : sm_C PP X 106 [.int x0, .int x1] h = sm_E PP X 106 0 [(0, .int x0), (1, .int x1)] [] h := rfl
set_option maxRecDepth 4000 in
theorem b106_0 (X : smX) (x0 : Int32) (x1 : Int32) (h : smH) : sm_E PP X 106 0 [(0, .int x0), (1, .int x1)] [] h =
    if x1 = 0 then none else if 0 ≤ (x0 ^^^ x1) then (sm_E PP X 106 18 [(2, .int (x0 - x0 / x1 * x1))] [] h) else if (x0 - x0 / x1 * x1) = 0 then (sm_E PP X 106 18 [(2, .int (x0 - x0 / x1 * x1))] [] h) else some (some (.int ((x0 - x0 / x1 * x1) + x1)), h) :=
  (sm_blk PP X 106 [0, 18] 18 0 _ _ _).trans rfl
set_option maxRecDepth 4000 in
theorem b106_18 (X : smX) (x2 : Int32) (h : smH) : sm_E PP X 106 18 [(2, .int x2)] [] h =
    some (some (.int x2), h) :=
  (sm_blk PP X 106 [0, 18] 18 18 _ _ _).trans rfl
