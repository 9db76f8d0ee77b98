/-! blocks, printed by wip/whole/mkblocks.py -/
/-! 106: WornSumsModel.<init>()V -/
theorem c106 (X : smX) (x0 : Nat) (h : smH) : sm_C PP X 106 [.ref x0] h = sm_E PP X 106 0 [(0, .ref x0)] [] h := rfl
set_option maxRecDepth 4000 in
theorem b106_0 (X : smX) (x0 : Nat) (h : smH) : sm_E PP X 106 0 [(0, .ref x0)] [] h =
    if (nI 219) < 0 ∨ 1000000 < (nI 219).toNatClampNeg then none else sm_fP (sm_n h (.inl (.int, (nI 219).toNatClampNeg, .inl (fun _ => 0))) (nI 219).toNatClampNeg) x0 8 0 (.ref h.2.1) fun h1 => if (nI 1752) < 0 ∨ 1000000 < (nI 1752).toNatClampNeg then none else sm_fP (sm_n h1 (.inl (.int, (nI 1752).toNatClampNeg, .inl (fun _ => 0))) (nI 1752).toNatClampNeg) x0 8 1 (.ref h1.2.1) fun h2 => if (nI 438) < 0 ∨ 1000000 < (nI 438).toNatClampNeg then none else sm_fP (sm_n h2 (.inl (.int, (nI 438).toNatClampNeg, .inl (fun _ => 0))) (nI 438).toNatClampNeg) x0 8 3 (.ref h2.2.1) fun h3 => if (nI 2) < 0 ∨ 1000000 < (nI 2).toNatClampNeg then none else sm_fP (sm_n h3 (.inl (.boolean, (nI 2).toNatClampNeg, .inl (fun _ => 0))) (nI 2).toNatClampNeg) x0 8 4 (.ref h3.2.1) fun h4 => if (nI 40) < 0 ∨ 1000000 < (nI 40).toNatClampNeg then none else sm_fP (sm_n h4 (.inl (.int, (nI 40).toNatClampNeg, .inl (fun _ => 0))) (nI 40).toNatClampNeg) x0 8 5 (.ref h4.2.1) fun h5 => if (nI 40) < 0 ∨ 1000000 < (nI 40).toNatClampNeg then none else sm_fP (sm_n h5 (.inl (.int, (nI 40).toNatClampNeg, .inl (fun _ => 0))) (nI 40).toNatClampNeg) x0 8 7 (.ref h5.2.1) fun h6 => if (nI 6000) < 0 ∨ 1000000 < (nI 6000).toNatClampNeg then none else sm_fP (sm_n h6 (.inl (.int, (nI 6000).toNatClampNeg, .inl (fun _ => 0))) (nI 6000).toNatClampNeg) x0 8 9 (.ref h6.2.1) fun h7 => if (nI 6000) < 0 ∨ 1000000 < (nI 6000).toNatClampNeg then none else sm_fP (sm_n h7 (.inl (.int, (nI 6000).toNatClampNeg, .inl (fun _ => 0))) (nI 6000).toNatClampNeg) x0 8 10 (.ref h7.2.1) fun h8 => if (nI 6) < 0 ∨ 1000000 < (nI 6).toNatClampNeg then none else sm_fP (sm_n h8 (.inl (.int, (nI 6).toNatClampNeg, .inl (fun _ => 0))) (nI 6).toNatClampNeg) x0 8 11 (.ref h8.2.1) fun h9 => if (nI 17985) < 0 ∨ 1000000 < (nI 17985).toNatClampNeg then none else sm_fP (sm_n h9 (.inl (.int, (nI 17985).toNatClampNeg, .inl (fun _ => 0))) (nI 17985).toNatClampNeg) x0 8 12 (.ref h9.2.1) fun h10 => if (nI 17985) < 0 ∨ 1000000 < (nI 17985).toNatClampNeg then none else sm_fP (sm_n h10 (.inl (.int, (nI 17985).toNatClampNeg, .inl (fun _ => 0))) (nI 17985).toNatClampNeg) x0 8 13 (.ref h10.2.1) fun h11 => if (nI 6) < 0 ∨ 1000000 < (nI 6).toNatClampNeg then none else sm_fP (sm_n h11 (.inl (.int, (nI 6).toNatClampNeg, .inl (fun _ => 0))) (nI 6).toNatClampNeg) x0 8 14 (.ref h11.2.1) fun h12 => if (nI 5995) < 0 ∨ 1000000 < (nI 5995).toNatClampNeg then none else sm_fP (sm_n h12 (.inl (.boolean, (nI 5995).toNatClampNeg, .inl (fun _ => 0))) (nI 5995).toNatClampNeg) x0 8 15 (.ref h12.2.1) fun h13 => if (nI 5995) < 0 ∨ 1000000 < (nI 5995).toNatClampNeg then none else sm_fP (sm_n h13 (.inl (.boolean, (nI 5995).toNatClampNeg, .inl (fun _ => 0))) (nI 5995).toNatClampNeg) x0 8 16 (.ref h13.2.1) fun h14 => if (nI 26) < 0 ∨ 1000000 < (nI 26).toNatClampNeg then none else sm_fP (sm_n h14 (.inl (.int, (nI 26).toNatClampNeg, .inl (fun _ => 0))) (nI 26).toNatClampNeg) x0 8 17 (.ref h14.2.1) fun h15 => sm_gR (sm_f h15 x0 8 0) fun v16 => sm_st h15 v16 .int (nI 2) (-nI 9) fun h17 => some (none, h17) :=
  (sm_blk PP X 106 [0] 70 0 _ _ _).trans rfl
/-! 107: WornSumsModel.in(III)Z -/
theorem c107 (X : smX) (x0 : Int32) (x1 : Int32) (x2 : Int32) (h : smH) : sm_C PP X 107 [.int x0, .int x1, .int x2] h = sm_E PP X 107 0 [(0, .int x0), (1, .int x1), (2, .int x2)] [] h := rfl
set_option maxRecDepth 4000 in
theorem b107_0 (X : smX) (x0 : Int32) (x1 : Int32) (x2 : Int32) (h : smH) : sm_E PP X 107 0 [(0, .int x0), (1, .int x1), (2, .int x2)] [] h =
    if x0 < x1 then (sm_E PP X 107 14 [] [] h) else if x2 < x0 then (sm_E PP X 107 14 [] [] h) else sm_E PP X 107 15 [] [.int (nI 1)] h :=
  (sm_blk PP X 107 [0, 14, 15] 12 0 _ _ _).trans rfl
set_option maxRecDepth 4000 in
theorem b107_14 (X : smX) (h : smH) : sm_E PP X 107 14 [] [] h =
    sm_E PP X 107 15 [] [.int (nI 0)] h :=
  (sm_blk PP X 107 [0, 14, 15] 12 14 _ _ _).trans rfl
set_option maxRecDepth 4000 in
theorem b107_15 (X : smX) (s0 : Int32) (h : smH) : sm_E PP X 107 15 [] [.int s0] h =
    if narrow (sm_nk 1) (.int s0) = .int s0 then some (some (.int s0), h) else none :=
  (sm_blk PP X 107 [0, 14, 15] 12 15 _ _ _).trans rfl
/-! 108: WornSumsModel.type(I)I -/
theorem c108 (X : smX) (x0 : Nat) (x1 : Int32) (h : smH) : sm_C PP X 108 [.ref x0, .int x1] h = sm_E PP X 108 0 [(0, .ref x0), (1, .int x1)] [] h := rfl
set_option maxRecDepth 4000 in
theorem b108_0 (X : smX) (x0 : Nat) (x1 : Int32) (h : smH) : sm_E PP X 108 0 [(0, .ref x0), (1, .int x1)] [] h =
    sm_cR (sm_C PP X 107 [.int x1, .int (nI 0), .int (nI 255)] h) fun w1 h2 => sm_E PP X 108 8 [(0, .ref x0), (1, .int x1)] (w1.toList ++ []) h2 :=
  (sm_blk PP X 108 [0, 8] 30 0 _ _ _).trans rfl
set_option maxRecDepth 4000 in
theorem b108_8 (X : smX) (x0 : Nat) (x1 : Int32) (s0 : Int32) (h : smH) : sm_E PP X 108 8 [(0, .ref x0), (1, .int x1)] [.int s0] h =
    if s0 = 0 then (some (some (.int (-nI 1)), h)) else sm_gI (sm_f h x0 8 6) fun v1 => if v1 = (nI 40) then (some (some (.int (-nI 3)), h)) else sm_gR (sm_f h x0 8 5) fun v2 => sm_gI (sm_f h x0 8 6) fun v3 => sm_st h v2 .int v3 x1 fun h4 => sm_gI (sm_f h4 x0 8 6) fun v5 => sm_fP h4 x0 8 6 (.int (v5 + (nI 1))) fun h6 => sm_gI (sm_f h6 x0 8 6) fun v7 => some (some (.int v7), h6) :=
  (sm_blk PP X 108 [0, 8] 30 8 _ _ _).trans rfl
/-! 109: WornSumsModel.clear()I -/
theorem c109 (X : smX) (x0 : Nat) (h : smH) : sm_C PP X 109 [.ref x0] h = sm_E PP X 109 0 [(0, .ref x0)] [] h := rfl
set_option maxRecDepth 4000 in
theorem b109_0 (X : smX) (x0 : Nat) (h : smH) : sm_E PP X 109 0 [(0, .ref x0)] [] h =
    sm_gI (sm_f h x0 8 6) fun v1 => sm_fP h x0 8 6 (.int (nI 0)) fun h2 => some (some (.int v1), h2) :=
  (sm_blk PP X 109 [0] 10 0 _ _ _).trans rfl
/-! 110: WornSumsModel.isLetter(I)Z -/
theorem c110 (X : smX) (x0 : Int32) (h : smH) : sm_C PP X 110 [.int x0] h = sm_E PP X 110 0 [(0, .int x0)] [] h := rfl
set_option maxRecDepth 4000 in
theorem b110_0 (X : smX) (x0 : Int32) (h : smH) : sm_E PP X 110 0 [(0, .int x0)] [] h =
    sm_cR (sm_C PP X 107 [.int x0, .int (nI 97), .int (nI 122)] h) fun w1 h2 => sm_E PP X 110 8 [(0, .int x0)] (w1.toList ++ []) h2 :=
  (sm_blk PP X 110 [0, 8, 17, 22] 14 0 _ _ _).trans rfl
set_option maxRecDepth 4000 in
theorem b110_8 (X : smX) (x0 : Int32) (s0 : Int32) (h : smH) : sm_E PP X 110 8 [(0, .int x0)] [.int s0] h =
    if s0 = 0 then (if x0 = (nI 63) then (sm_E PP X 110 17 [] [] h) else sm_E PP X 110 22 [] [.int (nI 0)] h) else sm_E PP X 110 17 [] [] h :=
  (sm_blk PP X 110 [0, 8, 17, 22] 14 8 _ _ _).trans rfl
set_option maxRecDepth 4000 in
theorem b110_17 (X : smX) (h : smH) : sm_E PP X 110 17 [] [] h =
    sm_E PP X 110 22 [] [.int (nI 1)] h :=
  (sm_blk PP X 110 [0, 8, 17, 22] 14 17 _ _ _).trans rfl
set_option maxRecDepth 4000 in
theorem b110_22 (X : smX) (s0 : Int32) (h : smH) : sm_E PP X 110 22 [] [.int s0] h =
    if narrow (sm_nk 1) (.int s0) = .int s0 then some (some (.int s0), h) else none :=
  (sm_blk PP X 110 [0, 8, 17, 22] 14 22 _ _ _).trans rfl
/-! 111: WornSumsModel.isFigure(I)Z -/
theorem c111 (X : smX) (x0 : Int32) (h : smH) : sm_C PP X 111 [.int x0] h = sm_E PP X 111 0 [(0, .int x0)] [] h := rfl
set_option maxRecDepth 4000 in
theorem b111_0 (X : smX) (x0 : Int32) (h : smH) : sm_E PP X 111 0 [(0, .int x0)] [] h =
    sm_cR (sm_C PP X 107 [.int x0, .int (nI 48), .int (nI 57)] h) fun w1 h2 => sm_E PP X 111 8 [(0, .int x0)] (w1.toList ++ []) h2 :=
  (sm_blk PP X 111 [0, 8, 17, 22] 14 0 _ _ _).trans rfl
set_option maxRecDepth 4000 in
theorem b111_8 (X : smX) (x0 : Int32) (s0 : Int32) (h : smH) : sm_E PP X 111 8 [(0, .int x0)] [.int s0] h =
    if s0 = 0 then (if x0 = (nI 63) then (sm_E PP X 111 17 [] [] h) else sm_E PP X 111 22 [] [.int (nI 0)] h) else sm_E PP X 111 17 [] [] h :=
  (sm_blk PP X 111 [0, 8, 17, 22] 14 8 _ _ _).trans rfl
set_option maxRecDepth 4000 in
theorem b111_17 (X : smX) (h : smH) : sm_E PP X 111 17 [] [] h =
    sm_E PP X 111 22 [] [.int (nI 1)] h :=
  (sm_blk PP X 111 [0, 8, 17, 22] 14 17 _ _ _).trans rfl
set_option maxRecDepth 4000 in
theorem b111_22 (X : smX) (s0 : Int32) (h : smH) : sm_E PP X 111 22 [] [.int s0] h =
    if narrow (sm_nk 1) (.int s0) = .int s0 then some (some (.int s0), h) else none :=
  (sm_blk PP X 111 [0, 8, 17, 22] 14 22 _ _ _).trans rfl
/-! 112: WornSumsModel.readText()I -/
theorem c112 (X : smX) (x0 : Nat) (h : smH) : sm_C PP X 112 [.ref x0] h = sm_E PP X 112 0 [(0, .ref x0)] [] h := rfl
set_option maxRecDepth 4000 in
theorem b112_0 (X : smX) (x0 : Nat) (h : smH) : sm_E PP X 112 0 [(0, .ref x0)] [] h =
    sm_E PP X 112 2 [(0, .ref x0), (1, .int (nI 0))] [] h :=
  (sm_blk PP X 112 [0, 2, 19, 33, 54, 55, 100, 102, 108, 131, 140, 157, 173, 186, 192] 110 0 _ _ _).trans rfl
set_option maxRecDepth 4000 in
theorem b112_2 (X : smX) (x0 : Nat) (x1 : Int32) (h : smH) : sm_E PP X 112 2 [(0, .ref x0), (1, .int x1)] [] h =
    sm_gI (sm_f h x0 8 6) fun v1 => if v1 ≤ x1 then (sm_E PP X 112 108 [(0, .ref x0), (1, .int x1)] [] h) else sm_gR (sm_f h x0 8 5) fun v2 => sm_ld (sm_ar PP X h (.ref v2)) .int x1 fun v3 => sm_cR (sm_C PP X 110 [.int v3] h) fun w4 h5 => sm_E PP X 112 19 [(0, .ref x0), (1, .int x1)] (w4.toList ++ []) h5 :=
  (sm_blk PP X 112 [0, 2, 19, 33, 54, 55, 100, 102, 108, 131, 140, 157, 173, 186, 192] 110 2 _ _ _).trans rfl
set_option maxRecDepth 4000 in
theorem b112_108 (X : smX) (x0 : Nat) (x1 : Int32) (h : smH) : sm_E PP X 112 108 [(0, .ref x0), (1, .int x1)] [] h =
    sm_gI (sm_f h x0 8 6) fun v1 => if x1 = v1 then (sm_E PP X 112 131 [(1, .int x1)] [] h) else sm_gR (sm_f h x0 8 5) fun v2 => sm_ld (sm_ar PP X h (.ref v2)) .int x1 fun v3 => if v3 = (nI 61) then (if x1 = 0 then (sm_E PP X 112 131 [(1, .int x1)] [] h) else sm_E PP X 112 140 [(0, .ref x0), (1, .int (x1 + (nI 1))), (2, .int (x1 + (nI 1)))] [] h) else sm_E PP X 112 131 [(1, .int x1)] [] h :=
  (sm_blk PP X 112 [0, 2, 19, 33, 54, 55, 100, 102, 108, 131, 140, 157, 173, 186, 192] 110 108 _ _ _).trans rfl
set_option maxRecDepth 4000 in
theorem b112_19 (X : smX) (x0 : Nat) (x1 : Int32) (s0 : Int32) (h : smH) : sm_E PP X 112 19 [(0, .ref x0), (1, .int x1)] [.int s0] h =
    if s0 = 0 then (sm_gR (sm_f h x0 8 5) fun v1 => sm_ld (sm_ar PP X h (.ref v1)) .int x1 fun v2 => if v2 = (nI 32) then (sm_E PP X 112 33 [(0, .ref x0), (1, .int x1)] [] h) else sm_E PP X 112 108 [(0, .ref x0), (1, .int x1)] [] h) else sm_E PP X 112 33 [(0, .ref x0), (1, .int x1)] [] h :=
  (sm_blk PP X 112 [0, 2, 19, 33, 54, 55, 100, 102, 108, 131, 140, 157, 173, 186, 192] 110 19 _ _ _).trans rfl
set_option maxRecDepth 4000 in
theorem b112_131 (X : smX) (x1 : Int32) (h : smH) : sm_E PP X 112 131 [(1, .int x1)] [] h =
    some (some (.int x1), h) :=
  (sm_blk PP X 112 [0, 2, 19, 33, 54, 55, 100, 102, 108, 131, 140, 157, 173, 186, 192] 110 131 _ _ _).trans rfl
set_option maxRecDepth 4000 in
theorem b112_140 (X : smX) (x0 : Nat) (x1 : Int32) (x2 : Int32) (h : smH) : sm_E PP X 112 140 [(0, .ref x0), (1, .int x1), (2, .int x2)] [] h =
    sm_gI (sm_f h x0 8 6) fun v1 => if v1 ≤ x1 then (sm_E PP X 112 173 [(0, .ref x0), (1, .int x1), (2, .int x2)] [] h) else sm_gR (sm_f h x0 8 5) fun v2 => sm_ld (sm_ar PP X h (.ref v2)) .int x1 fun v3 => sm_cR (sm_C PP X 111 [.int v3] h) fun w4 h5 => sm_E PP X 112 157 [(0, .ref x0), (1, .int x1), (2, .int x2)] (w4.toList ++ []) h5 :=
  (sm_blk PP X 112 [0, 2, 19, 33, 54, 55, 100, 102, 108, 131, 140, 157, 173, 186, 192] 110 140 _ _ _).trans rfl
set_option maxRecDepth 4000 in
theorem b112_33 (X : smX) (x0 : Nat) (x1 : Int32) (h : smH) : sm_E PP X 112 33 [(0, .ref x0), (1, .int x1)] [] h =
    if x1 ≤ 0 then (sm_E PP X 112 54 [(0, .ref x0), (1, .int x1)] [] h) else sm_gR (sm_f h x0 8 5) fun v1 => sm_ld (sm_ar PP X h (.ref v1)) .int (x1 - (nI 1)) fun v2 => if v2 = (nI 32) then (sm_E PP X 112 54 [(0, .ref x0), (1, .int x1)] [] h) else sm_E PP X 112 55 [(0, .ref x0), (1, .int x1)] [.int (nI 1)] h :=
  (sm_blk PP X 112 [0, 2, 19, 33, 54, 55, 100, 102, 108, 131, 140, 157, 173, 186, 192] 110 33 _ _ _).trans rfl
set_option maxRecDepth 4000 in
theorem b112_173 (X : smX) (x0 : Nat) (x1 : Int32) (x2 : Int32) (h : smH) : sm_E PP X 112 173 [(0, .ref x0), (1, .int x1), (2, .int x2)] [] h =
    sm_gI (sm_f h x0 8 6) fun v1 => if x1 < v1 then (sm_E PP X 112 186 [(1, .int x1)] [] h) else if x1 = x2 then (sm_E PP X 112 186 [(1, .int x1)] [] h) else sm_E PP X 112 192 [] [.int (-nI 9)] h :=
  (sm_blk PP X 112 [0, 2, 19, 33, 54, 55, 100, 102, 108, 131, 140, 157, 173, 186, 192] 110 173 _ _ _).trans rfl
set_option maxRecDepth 4000 in
theorem b112_157 (X : smX) (x0 : Nat) (x1 : Int32) (x2 : Int32) (s0 : Int32) (h : smH) : sm_E PP X 112 157 [(0, .ref x0), (1, .int x1), (2, .int x2)] [.int s0] h =
    if s0 = 0 then (sm_E PP X 112 173 [(0, .ref x0), (1, .int x1), (2, .int x2)] [] h) else if (x2 + (nI 3)) ≤ x1 then (sm_E PP X 112 173 [(0, .ref x0), (1, .int x1), (2, .int x2)] [] h) else sm_E PP X 112 140 [(0, .ref x0), (1, .int (x1 + (nI 1))), (2, .int x2)] [] h :=
  (sm_blk PP X 112 [0, 2, 19, 33, 54, 55, 100, 102, 108, 131, 140, 157, 173, 186, 192] 110 157 _ _ _).trans rfl
set_option maxRecDepth 4000 in
theorem b112_54 (X : smX) (x0 : Nat) (x1 : Int32) (h : smH) : sm_E PP X 112 54 [(0, .ref x0), (1, .int x1)] [] h =
    sm_E PP X 112 55 [(0, .ref x0), (1, .int x1)] [.int (nI 0)] h :=
  (sm_blk PP X 112 [0, 2, 19, 33, 54, 55, 100, 102, 108, 131, 140, 157, 173, 186, 192] 110 54 _ _ _).trans rfl
set_option maxRecDepth 4000 in
theorem b112_55 (X : smX) (x0 : Nat) (x1 : Int32) (s0 : Int32) (h : smH) : sm_E PP X 112 55 [(0, .ref x0), (1, .int x1)] [.int s0] h =
    if x1 = (nI 31) then (sm_E PP X 112 100 [(1, .int x1)] [] h) else sm_gR (sm_f h x0 8 5) fun v1 => sm_ld (sm_ar PP X h (.ref v1)) .int x1 fun v2 => if v2 = (nI 32) then (if s0 = 0 then (sm_E PP X 112 100 [(1, .int x1)] [] h) else sm_gI (sm_f h x0 8 6) fun v3 => if v3 ≤ (x1 + (nI 1)) then (sm_E PP X 112 102 [(0, .ref x0), (1, .int x1)] [] h) else sm_gR (sm_f h x0 8 5) fun v4 => sm_ld (sm_ar PP X h (.ref v4)) .int (x1 + (nI 1)) fun v5 => if v5 = (nI 61) then (sm_E PP X 112 100 [(1, .int x1)] [] h) else sm_E PP X 112 102 [(0, .ref x0), (1, .int x1)] [] h) else sm_E PP X 112 102 [(0, .ref x0), (1, .int x1)] [] h :=
  (sm_blk PP X 112 [0, 2, 19, 33, 54, 55, 100, 102, 108, 131, 140, 157, 173, 186, 192] 110 55 _ _ _).trans rfl
set_option maxRecDepth 4000 in
theorem b112_186 (X : smX) (x1 : Int32) (h : smH) : sm_E PP X 112 186 [(1, .int x1)] [] h =
    sm_E PP X 112 192 [] [.int x1] h :=
  (sm_blk PP X 112 [0, 2, 19, 33, 54, 55, 100, 102, 108, 131, 140, 157, 173, 186, 192] 110 186 _ _ _).trans rfl
set_option maxRecDepth 4000 in
theorem b112_192 (X : smX) (s0 : Int32) (h : smH) : sm_E PP X 112 192 [] [.int s0] h =
    some (some (.int s0), h) :=
  (sm_blk PP X 112 [0, 2, 19, 33, 54, 55, 100, 102, 108, 131, 140, 157, 173, 186, 192] 110 192 _ _ _).trans rfl
set_option maxRecDepth 4000 in
theorem b112_100 (X : smX) (x1 : Int32) (h : smH) : sm_E PP X 112 100 [(1, .int x1)] [] h =
    some (some (.int x1), h) :=
  (sm_blk PP X 112 [0, 2, 19, 33, 54, 55, 100, 102, 108, 131, 140, 157, 173, 186, 192] 110 100 _ _ _).trans rfl
set_option maxRecDepth 4000 in
theorem b112_102 (X : smX) (x0 : Nat) (x1 : Int32) (h : smH) : sm_E PP X 112 102 [(0, .ref x0), (1, .int x1)] [] h =
    sm_E PP X 112 2 [(0, .ref x0), (1, .int (x1 + (nI 1)))] [] h :=
  (sm_blk PP X 112 [0, 2, 19, 33, 54, 55, 100, 102, 108, 131, 140, 157, 173, 186, 192] 110 102 _ _ _).trans rfl
/-! 113: WornSumsModel.bring([II[III)V -/
theorem c113 (X : smX) (x0 : Nat) (x1 : Int32) (x2 : Nat) (x3 : Int32) (x4 : Int32) (h : smH) : sm_C PP X 113 [.ref x0, .int x1, .ref x2, .int x3, .int x4] h = sm_E PP X 113 0 [(0, .ref x0), (1, .int x1), (2, .ref x2), (3, .int x3), (4, .int x4)] [] h := rfl
set_option maxRecDepth 4000 in
theorem b113_0 (X : smX) (x0 : Nat) (x1 : Int32) (x2 : Nat) (x3 : Int32) (x4 : Int32) (h : smH) : sm_E PP X 113 0 [(0, .ref x0), (1, .int x1), (2, .ref x2), (3, .int x3), (4, .int x4)] [] h =
    sm_E PP X 113 3 [(0, .ref x0), (1, .int x1), (2, .ref x2), (3, .int x3), (4, .int x4), (5, .int (nI 0))] [] h :=
  (sm_blk PP X 113 [0, 3] 20 0 _ _ _).trans rfl
set_option maxRecDepth 4000 in
theorem b113_3 (X : smX) (x0 : Nat) (x1 : Int32) (x2 : Nat) (x3 : Int32) (x4 : Int32) (x5 : Int32) (h : smH) : sm_E PP X 113 3 [(0, .ref x0), (1, .int x1), (2, .ref x2), (3, .int x3), (4, .int x4), (5, .int x5)] [] h =
    if x4 ≤ x5 then (some (none, h)) else sm_ld (sm_ar PP X h (.ref x0)) .int (x1 + x5) fun v1 => sm_st h x2 .int (x3 + x5) v1 fun h2 => sm_E PP X 113 3 [(0, .ref x0), (1, .int x1), (2, .ref x2), (3, .int x3), (4, .int x4), (5, .int (x5 + (nI 1)))] [] h2 :=
  (sm_blk PP X 113 [0, 3] 20 3 _ _ _).trans rfl
/-! 114: WornSumsModel.note()V -/
theorem c114 (X : smX) (x0 : Nat) (h : smH) : sm_C PP X 114 [.ref x0] h = sm_E PP X 114 0 [(0, .ref x0)] [] h := rfl
set_option maxRecDepth 4000 in
theorem b114_0 (X : smX) (x0 : Nat) (h : smH) : sm_E PP X 114 0 [(0, .ref x0)] [] h =
    sm_gI (sm_f h x0 8 2) fun v1 => if v1 = (nI 8) then (sm_gR (sm_f h x0 8 1) fun v2 => sm_gR (sm_f h x0 8 1) fun v3 => sm_cR (sm_C PP X 113 [.ref v2, .int (nI 219), .ref v3, .int (nI 0), .int (nI 1533)] h) fun w4 h5 => sm_E PP X 114 27 [(0, .ref x0)] (w4.toList ++ []) h5) else sm_E PP X 114 37 [(0, .ref x0)] [] h :=
  (sm_blk PP X 114 [0, 27, 37, 60] 38 0 _ _ _).trans rfl
set_option maxRecDepth 4000 in
theorem b114_27 (X : smX) (x0 : Nat) (h : smH) : sm_E PP X 114 27 [(0, .ref x0)] [] h =
    sm_gI (sm_f h x0 8 2) fun v1 => sm_fP h x0 8 2 (.int (v1 - (nI 1))) fun h2 => sm_E PP X 114 37 [(0, .ref x0)] [] h2 :=
  (sm_blk PP X 114 [0, 27, 37, 60] 38 27 _ _ _).trans rfl
set_option maxRecDepth 4000 in
theorem b114_37 (X : smX) (x0 : Nat) (h : smH) : sm_E PP X 114 37 [(0, .ref x0)] [] h =
    sm_gR (sm_f h x0 8 0) fun v1 => sm_gR (sm_f h x0 8 1) fun v2 => sm_gI (sm_f h x0 8 2) fun v3 => sm_cR (sm_C PP X 113 [.ref v1, .int (nI 0), .ref v2, .int ((nI 219) * v3), .int (nI 219)] h) fun w4 h5 => sm_E PP X 114 60 [(0, .ref x0)] (w4.toList ++ []) h5 :=
  (sm_blk PP X 114 [0, 27, 37, 60] 38 37 _ _ _).trans rfl
set_option maxRecDepth 4000 in
theorem b114_60 (X : smX) (x0 : Nat) (h : smH) : sm_E PP X 114 60 [(0, .ref x0)] [] h =
    sm_gI (sm_f h x0 8 2) fun v1 => sm_fP h x0 8 2 (.int (v1 + (nI 1))) fun h2 => some (none, h2) :=
  (sm_blk PP X 114 [0, 27, 37, 60] 38 60 _ _ _).trans rfl
/-! 115: WornSumsModel.tells()I -/
theorem c115 (X : smX) (x0 : Nat) (h : smH) : sm_C PP X 115 [.ref x0] h = sm_E PP X 115 0 [(0, .ref x0)] [] h := rfl
set_option maxRecDepth 4000 in
theorem b115_0 (X : smX) (x0 : Nat) (h : smH) : sm_E PP X 115 0 [(0, .ref x0)] [] h =
    sm_gR (sm_f h x0 8 0) fun v1 => sm_ld (sm_ar PP X h (.ref v1)) .int (nI 0) fun v2 => if v2 = (nI 6) then (some (some (.int (-nI 3)), h)) else sm_vc h x0 8 (sm_cR (sm_C PP X 112 [.ref x0] h) fun w3 h4 => sm_E PP X 115 18 [(0, .ref x0)] (w3.toList ++ []) h4) :=
  (sm_blk PP X 115 [0, 18, 34, 48, 88, 133] 105 0 _ _ _).trans rfl
set_option maxRecDepth 4000 in
theorem b115_18 (X : smX) (x0 : Nat) (s0 : Int32) (h : smH) : sm_E PP X 115 18 [(0, .ref x0)] [.int s0] h =
    if s0 = (-nI 9) then (sm_vc h x0 8 (sm_cR (sm_C PP X 114 [.ref x0] h) fun w1 h2 => sm_E PP X 115 34 [(0, .ref x0)] (w1.toList ++ []) h2)) else some (some (.int ((-nI 10) - s0)), h) :=
  (sm_blk PP X 115 [0, 18, 34, 48, 88, 133] 105 18 _ _ _).trans rfl
set_option maxRecDepth 4000 in
theorem b115_34 (X : smX) (x0 : Nat) (h : smH) : sm_E PP X 115 34 [(0, .ref x0)] [] h =
    sm_gR (sm_f h x0 8 0) fun v1 => sm_ld (sm_ar PP X h (.ref v1)) .int (nI 0) fun v2 => sm_E PP X 115 48 [(0, .ref x0), (2, .int ((nI 3) + ((nI 36) * v2))), (3, .int (nI 0))] [] h :=
  (sm_blk PP X 115 [0, 18, 34, 48, 88, 133] 105 34 _ _ _).trans rfl
set_option maxRecDepth 4000 in
theorem b115_48 (X : smX) (x0 : Nat) (x2 : Int32) (x3 : Int32) (h : smH) : sm_E PP X 115 48 [(0, .ref x0), (2, .int x2), (3, .int x3)] [] h =
    sm_gR (sm_f h x0 8 5) fun v1 => sm_ld (sm_ar PP X h (.ref v1)) .int x3 fun v2 => if v2 = (nI 61) then (sm_gR (sm_f h x0 8 0) fun v3 => sm_st h v3 .int x2 x3 fun h4 => sm_gR (sm_f h4 x0 8 5) fun v5 => sm_gR (sm_f h4 x0 8 0) fun v6 => sm_cR (sm_C PP X 113 [.ref v5, .int (nI 0), .ref v6, .int (x2 + (nI 1)), .int x3] h4) fun w7 h8 => sm_E PP X 115 88 [(0, .ref x0), (2, .int x2), (3, .int x3)] (w7.toList ++ []) h8) else sm_E PP X 115 48 [(0, .ref x0), (2, .int x2), (3, .int (x3 + (nI 1)))] [] h :=
  (sm_blk PP X 115 [0, 18, 34, 48, 88, 133] 105 48 _ _ _).trans rfl
set_option maxRecDepth 4000 in
theorem b115_88 (X : smX) (x0 : Nat) (x2 : Int32) (x3 : Int32) (h : smH) : sm_E PP X 115 88 [(0, .ref x0), (2, .int x2), (3, .int x3)] [] h =
    sm_gR (sm_f h x0 8 0) fun v1 => sm_gI (sm_f h x0 8 6) fun v2 => sm_st h v1 .int (x2 + (nI 32)) ((v2 - x3) - (nI 1)) fun h3 => sm_gR (sm_f h3 x0 8 5) fun v4 => sm_gR (sm_f h3 x0 8 0) fun v5 => sm_gI (sm_f h3 x0 8 6) fun v6 => sm_cR (sm_C PP X 113 [.ref v4, .int (x3 + (nI 1)), .ref v5, .int ((x2 + (nI 32)) + (nI 1)), .int ((v6 - x3) - (nI 1))] h3) fun w7 h8 => sm_E PP X 115 133 [(0, .ref x0)] (w7.toList ++ []) h8 :=
  (sm_blk PP X 115 [0, 18, 34, 48, 88, 133] 105 88 _ _ _).trans rfl
set_option maxRecDepth 4000 in
theorem b115_133 (X : smX) (x0 : Nat) (h : smH) : sm_E PP X 115 133 [(0, .ref x0)] [] h =
    sm_gR (sm_f h x0 8 0) fun v1 => sm_ld (sm_ar PP X h (.ref v1)) .int (nI 0) fun v2 => sm_st h v1 .int (nI 0) (v2 + (nI 1)) fun h3 => sm_fP h3 x0 8 6 (.int (nI 0)) fun h4 => sm_gR (sm_f h4 x0 8 0) fun v5 => sm_ld (sm_ar PP X h4 (.ref v5)) .int (nI 0) fun v6 => some (some (.int (v6 - (nI 1))), h4) :=
  (sm_blk PP X 115 [0, 18, 34, 48, 88, 133] 105 133 _ _ _).trans rfl
/-! 116: WornSumsModel.isEntry(I)Z -/
theorem c116 (X : smX) (x0 : Nat) (x1 : Int32) (h : smH) : sm_C PP X 116 [.ref x0, .int x1] h = sm_E PP X 116 0 [(0, .ref x0), (1, .int x1)] [] h := rfl
set_option maxRecDepth 4000 in
theorem b116_0 (X : smX) (x0 : Nat) (x1 : Int32) (h : smH) : sm_E PP X 116 0 [(0, .ref x0), (1, .int x1)] [] h =
    sm_gR (sm_f h x0 8 0) fun v1 => sm_ld (sm_ar PP X h (.ref v1)) .int (nI 0) fun v2 => sm_cR (sm_C PP X 107 [.int x1, .int (nI 0), .int (v2 - (nI 1))] h) fun w3 h4 => sm_E PP X 116 13 [] (w3.toList ++ []) h4 :=
  (sm_blk PP X 116 [0, 13] 12 0 _ _ _).trans rfl
set_option maxRecDepth 4000 in
theorem b116_13 (X : smX) (s0 : Int32) (h : smH) : sm_E PP X 116 13 [] [.int s0] h =
    if narrow (sm_nk 1) (.int s0) = .int s0 then some (some (.int s0), h) else none :=
  (sm_blk PP X 116 [0, 13] 12 13 _ _ _).trans rfl
/-! 117: WornSumsModel.drops(I)I -/
theorem c117 (X : smX) (x0 : Nat) (x1 : Int32) (h : smH) : sm_C PP X 117 [.ref x0, .int x1] h = sm_E PP X 117 0 [(0, .ref x0), (1, .int x1)] [] h := rfl
set_option maxRecDepth 4000 in
theorem b117_0 (X : smX) (x0 : Nat) (x1 : Int32) (h : smH) : sm_E PP X 117 0 [(0, .ref x0), (1, .int x1)] [] h =
    sm_vc h x0 8 (sm_cR (sm_C PP X 116 [.ref x0, .int x1] h) fun w1 h2 => sm_E PP X 117 5 [(0, .ref x0), (1, .int x1)] (w1.toList ++ []) h2) :=
  (sm_blk PP X 117 [0, 5, 14, 21] 46 0 _ _ _).trans rfl
set_option maxRecDepth 4000 in
theorem b117_5 (X : smX) (x0 : Nat) (x1 : Int32) (s0 : Int32) (h : smH) : sm_E PP X 117 5 [(0, .ref x0), (1, .int x1)] [.int s0] h =
    if s0 = 0 then (some (some (.int (-nI 1)), h)) else sm_vc h x0 8 (sm_cR (sm_C PP X 114 [.ref x0] h) fun w1 h2 => sm_E PP X 117 14 [(0, .ref x0), (1, .int x1)] (w1.toList ++ []) h2) :=
  (sm_blk PP X 117 [0, 5, 14, 21] 46 5 _ _ _).trans rfl
set_option maxRecDepth 4000 in
theorem b117_14 (X : smX) (x0 : Nat) (x1 : Int32) (h : smH) : sm_E PP X 117 14 [(0, .ref x0), (1, .int x1)] [] h =
    sm_E PP X 117 21 [(0, .ref x0), (2, .int ((nI 3) + ((nI 36) * x1)))] [] h :=
  (sm_blk PP X 117 [0, 5, 14, 21] 46 14 _ _ _).trans rfl
set_option maxRecDepth 4000 in
theorem b117_21 (X : smX) (x0 : Nat) (x2 : Int32) (h : smH) : sm_E PP X 117 21 [(0, .ref x0), (2, .int x2)] [] h =
    if (nI 219) ≤ (x2 + (nI 36)) then (sm_gR (sm_f h x0 8 0) fun v1 => sm_ld (sm_ar PP X h (.ref v1)) .int (nI 0) fun v2 => sm_st h v1 .int (nI 0) (v2 - (nI 1)) fun h3 => sm_gR (sm_f h3 x0 8 0) fun v4 => sm_ld (sm_ar PP X h3 (.ref v4)) .int (nI 0) fun v5 => some (some (.int v5), h3)) else sm_gR (sm_f h x0 8 0) fun v6 => sm_gR (sm_f h x0 8 0) fun v7 => sm_ld (sm_ar PP X h (.ref v7)) .int (x2 + (nI 36)) fun v8 => sm_st h v6 .int x2 v8 fun h9 => sm_E PP X 117 21 [(0, .ref x0), (2, .int (x2 + (nI 1)))] [] h9 :=
  (sm_blk PP X 117 [0, 5, 14, 21] 46 21 _ _ _).trans rfl
/-! 118: WornSumsModel.partOf(II)I -/
theorem c118 (X : smX) (x0 : Int32) (x1 : Int32) (h : smH) : sm_C PP X 118 [.int x0, .int x1] h = sm_E PP X 118 0 [(0, .int x0), (1, .int x1)] [] h := rfl
set_option maxRecDepth 4000 in
theorem b118_0 (X : smX) (x0 : Int32) (x1 : Int32) (h : smH) : sm_E PP X 118 0 [(0, .int x0), (1, .int x1)] [] h =
    if x1 = (nI 1) then (sm_E PP X 118 17 [] [.int (nI 32), .int ((nI 3) + ((nI 36) * x0))] h) else sm_E PP X 118 17 [] [.int (nI 0), .int ((nI 3) + ((nI 36) * x0))] h :=
  (sm_blk PP X 118 [0, 17] 15 0 _ _ _).trans rfl
set_option maxRecDepth 4000 in
theorem b118_17 (X : smX) (s0 : Int32) (s1 : Int32) (h : smH) : sm_E PP X 118 17 [] [.int s0, .int s1] h =
    some (some (.int (s1 + s0)), h) :=
  (sm_blk PP X 118 [0, 17] 15 17 _ _ _).trans rfl
/-! 119: WornSumsModel.isPlace(III)Z -/
theorem c119 (X : smX) (x0 : Nat) (x1 : Int32) (x2 : Int32) (x3 : Int32) (h : smH) : sm_C PP X 119 [.ref x0, .int x1, .int x2, .int x3] h = sm_E PP X 119 0 [(0, .ref x0), (1, .int x1), (2, .int x2), (3, .int x3)] [] h := rfl
set_option maxRecDepth 4000 in
theorem b119_0 (X : smX) (x0 : Nat) (x1 : Int32) (x2 : Int32) (x3 : Int32) (h : smH) : sm_E PP X 119 0 [(0, .ref x0), (1, .int x1), (2, .int x2), (3, .int x3)] [] h =
    sm_vc h x0 8 (sm_cR (sm_C PP X 116 [.ref x0, .int x1] h) fun w1 h2 => sm_E PP X 119 5 [(0, .ref x0), (1, .int x1), (2, .int x2), (3, .int x3)] (w1.toList ++ []) h2) :=
  (sm_blk PP X 119 [0, 5, 14, 28, 34, 41, 42] 27 0 _ _ _).trans rfl
set_option maxRecDepth 4000 in
theorem b119_5 (X : smX) (x0 : Nat) (x1 : Int32) (x2 : Int32) (x3 : Int32) (s0 : Int32) (h : smH) : sm_E PP X 119 5 [(0, .ref x0), (1, .int x1), (2, .int x2), (3, .int x3)] [.int s0] h =
    if s0 = 0 then (sm_E PP X 119 41 [] [] h) else sm_cR (sm_C PP X 107 [.int x2, .int (nI 0), .int (nI 1)] h) fun w1 h2 => sm_E PP X 119 14 [(0, .ref x0), (1, .int x1), (2, .int x2), (3, .int x3)] (w1.toList ++ []) h2 :=
  (sm_blk PP X 119 [0, 5, 14, 28, 34, 41, 42] 27 5 _ _ _).trans rfl
set_option maxRecDepth 4000 in
theorem b119_41 (X : smX) (h : smH) : sm_E PP X 119 41 [] [] h =
    sm_E PP X 119 42 [] [.int (nI 0)] h :=
  (sm_blk PP X 119 [0, 5, 14, 28, 34, 41, 42] 27 41 _ _ _).trans rfl
set_option maxRecDepth 4000 in
theorem b119_14 (X : smX) (x0 : Nat) (x1 : Int32) (x2 : Int32) (x3 : Int32) (s0 : Int32) (h : smH) : sm_E PP X 119 14 [(0, .ref x0), (1, .int x1), (2, .int x2), (3, .int x3)] [.int s0] h =
    if s0 = 0 then (sm_E PP X 119 41 [] [] h) else sm_gR (sm_f h x0 8 0) fun v1 => sm_cR (sm_C PP X 118 [.int x1, .int x2] h) fun w2 h3 => sm_E PP X 119 28 [] (w2.toList ++ [.ref v1, .int (nI 0), .int x3]) h3 :=
  (sm_blk PP X 119 [0, 5, 14, 28, 34, 41, 42] 27 14 _ _ _).trans rfl
set_option maxRecDepth 4000 in
theorem b119_42 (X : smX) (s0 : Int32) (h : smH) : sm_E PP X 119 42 [] [.int s0] h =
    if narrow (sm_nk 1) (.int s0) = .int s0 then some (some (.int s0), h) else none :=
  (sm_blk PP X 119 [0, 5, 14, 28, 34, 41, 42] 27 42 _ _ _).trans rfl
set_option maxRecDepth 4000 in
theorem b119_28 (X : smX) (s0 : Int32) (s1 : Nat) (s2 : Int32) (s3 : Int32) (h : smH) : sm_E PP X 119 28 [] [.int s0, .ref s1, .int s2, .int s3] h =
    sm_ld (sm_ar PP X h (.ref s1)) .int s0 fun v1 => sm_cR (sm_C PP X 107 [.int s3, .int s2, .int (v1 - (nI 1))] h) fun w2 h3 => sm_E PP X 119 34 [] (w2.toList ++ []) h3 :=
  (sm_blk PP X 119 [0, 5, 14, 28, 34, 41, 42] 27 28 _ _ _).trans rfl
set_option maxRecDepth 4000 in
theorem b119_34 (X : smX) (s0 : Int32) (h : smH) : sm_E PP X 119 34 [] [.int s0] h =
    if s0 = 0 then (sm_E PP X 119 41 [] [] h) else sm_E PP X 119 42 [] [.int (nI 1)] h :=
  (sm_blk PP X 119 [0, 5, 14, 28, 34, 41, 42] 27 34 _ _ _).trans rfl
/-! 120: WornSumsModel.wears(III)I -/
theorem c120 (X : smX) (x0 : Nat) (x1 : Int32) (x2 : Int32) (x3 : Int32) (h : smH) : sm_C PP X 120 [.ref x0, .int x1, .int x2, .int x3] h = sm_E PP X 120 0 [(0, .ref x0), (1, .int x1), (2, .int x2), (3, .int x3)] [] h := rfl
set_option maxRecDepth 4000 in
theorem b120_0 (X : smX) (x0 : Nat) (x1 : Int32) (x2 : Int32) (x3 : Int32) (h : smH) : sm_E PP X 120 0 [(0, .ref x0), (1, .int x1), (2, .int x2), (3, .int x3)] [] h =
    sm_vc h x0 8 (sm_cR (sm_C PP X 119 [.ref x0, .int x1, .int x2, .int x3] h) fun w1 h2 => sm_E PP X 120 7 [(0, .ref x0), (1, .int x1), (2, .int x2), (3, .int x3)] (w1.toList ++ []) h2) :=
  (sm_blk PP X 120 [0, 7, 17, 46, 53] 40 0 _ _ _).trans rfl
set_option maxRecDepth 4000 in
theorem b120_7 (X : smX) (x0 : Nat) (x1 : Int32) (x2 : Int32) (x3 : Int32) (s0 : Int32) (h : smH) : sm_E PP X 120 7 [(0, .ref x0), (1, .int x1), (2, .int x2), (3, .int x3)] [.int s0] h =
    if s0 = 0 then (some (some (.int (-nI 1)), h)) else sm_cR (sm_C PP X 118 [.int x1, .int x2] h) fun w1 h2 => sm_E PP X 120 17 [(0, .ref x0), (3, .int x3)] (w1.toList ++ []) h2 :=
  (sm_blk PP X 120 [0, 7, 17, 46, 53] 40 7 _ _ _).trans rfl
set_option maxRecDepth 4000 in
theorem b120_17 (X : smX) (x0 : Nat) (x3 : Int32) (s0 : Int32) (h : smH) : sm_E PP X 120 17 [(0, .ref x0), (3, .int x3)] [.int s0] h =
    sm_gR (sm_f h x0 8 0) fun v1 => sm_ld (sm_ar PP X h (.ref v1)) .int ((s0 + (nI 1)) + x3) fun v2 => if v2 = (nI 63) then (sm_E PP X 120 46 [] [] h) else if v2 = (nI 32) then (sm_E PP X 120 46 [] [] h) else sm_vc h x0 8 (sm_cR (sm_C PP X 114 [.ref x0] h) fun w3 h4 => sm_E PP X 120 53 [(0, .ref x0), (4, .int ((s0 + (nI 1)) + x3)), (5, .int v2)] (w3.toList ++ []) h4) :=
  (sm_blk PP X 120 [0, 7, 17, 46, 53] 40 17 _ _ _).trans rfl
set_option maxRecDepth 4000 in
theorem b120_46 (X : smX) (h : smH) : sm_E PP X 120 46 [] [] h =
    some (some (.int (-nI 2)), h) :=
  (sm_blk PP X 120 [0, 7, 17, 46, 53] 40 46 _ _ _).trans rfl
set_option maxRecDepth 4000 in
theorem b120_53 (X : smX) (x0 : Nat) (x4 : Int32) (x5 : Int32) (h : smH) : sm_E PP X 120 53 [(0, .ref x0), (4, .int x4), (5, .int x5)] [] h =
    sm_gR (sm_f h x0 8 0) fun v1 => sm_st h v1 .int x4 (nI 63) fun h2 => some (some (.int x5), h2) :=
  (sm_blk PP X 120 [0, 7, 17, 46, 53] 40 53 _ _ _).trans rfl
/-! 121: WornSumsModel.wornIn(I)I -/
theorem c121 (X : smX) (x0 : Nat) (x1 : Int32) (h : smH) : sm_C PP X 121 [.ref x0, .int x1] h = sm_E PP X 121 0 [(0, .ref x0), (1, .int x1)] [] h := rfl
set_option maxRecDepth 4000 in
theorem b121_0 (X : smX) (x0 : Nat) (x1 : Int32) (h : smH) : sm_E PP X 121 0 [(0, .ref x0), (1, .int x1)] [] h =
    sm_E PP X 121 4 [(0, .ref x0), (1, .int x1), (2, .int (nI 0)), (3, .int (nI 0))] [] h :=
  (sm_blk PP X 121 [0, 4, 14, 19, 52] 41 0 _ _ _).trans rfl
set_option maxRecDepth 4000 in
theorem b121_4 (X : smX) (x0 : Nat) (x1 : Int32) (x2 : Int32) (x3 : Int32) (h : smH) : sm_E PP X 121 4 [(0, .ref x0), (1, .int x1), (2, .int x2), (3, .int x3)] [] h =
    if (nI 2) ≤ x3 then (some (some (.int x2), h)) else sm_cR (sm_C PP X 118 [.int x1, .int x3] h) fun w1 h2 => sm_E PP X 121 14 [(0, .ref x0), (1, .int x1), (2, .int x2), (3, .int x3)] (w1.toList ++ []) h2 :=
  (sm_blk PP X 121 [0, 4, 14, 19, 52] 41 4 _ _ _).trans rfl
set_option maxRecDepth 4000 in
theorem b121_14 (X : smX) (x0 : Nat) (x1 : Int32) (x2 : Int32) (x3 : Int32) (s0 : Int32) (h : smH) : sm_E PP X 121 14 [(0, .ref x0), (1, .int x1), (2, .int x2), (3, .int x3)] [.int s0] h =
    sm_E PP X 121 19 [(0, .ref x0), (1, .int x1), (2, .int x2), (3, .int x3), (4, .int s0), (5, .int (nI 1))] [] h :=
  (sm_blk PP X 121 [0, 4, 14, 19, 52] 41 14 _ _ _).trans rfl
set_option maxRecDepth 4000 in
theorem b121_19 (X : smX) (x0 : Nat) (x1 : Int32) (x2 : Int32) (x3 : Int32) (x4 : Int32) (x5 : Int32) (h : smH) : sm_E PP X 121 19 [(0, .ref x0), (1, .int x1), (2, .int x2), (3, .int x3), (4, .int x4), (5, .int x5)] [] h =
    sm_gR (sm_f h x0 8 0) fun v1 => sm_ld (sm_ar PP X h (.ref v1)) .int x4 fun v2 => if v2 < x5 then (sm_E PP X 121 4 [(0, .ref x0), (1, .int x1), (2, .int x2), (3, .int (x3 + (nI 1)))] [] h) else sm_gR (sm_f h x0 8 0) fun v3 => sm_ld (sm_ar PP X h (.ref v3)) .int (x4 + x5) fun v4 => if v4 = (nI 63) then (sm_E PP X 121 52 [(0, .ref x0), (1, .int x1), (3, .int x3), (4, .int x4), (5, .int x5)] [.int (nI 1), .int x2] h) else sm_E PP X 121 52 [(0, .ref x0), (1, .int x1), (3, .int x3), (4, .int x4), (5, .int x5)] [.int (nI 0), .int x2] h :=
  (sm_blk PP X 121 [0, 4, 14, 19, 52] 41 19 _ _ _).trans rfl
set_option maxRecDepth 4000 in
theorem b121_52 (X : smX) (x0 : Nat) (x1 : Int32) (x3 : Int32) (x4 : Int32) (x5 : Int32) (s0 : Int32) (s1 : Int32) (h : smH) : sm_E PP X 121 52 [(0, .ref x0), (1, .int x1), (3, .int x3), (4, .int x4), (5, .int x5)] [.int s0, .int s1] h =
    sm_E PP X 121 19 [(0, .ref x0), (1, .int x1), (2, .int (s1 + s0)), (3, .int x3), (4, .int x4), (5, .int (x5 + (nI 1)))] [] h :=
  (sm_blk PP X 121 [0, 4, 14, 19, 52] 41 52 _ _ _).trans rfl
/-! 122: WornSumsModel.makes(IIII)I -/
theorem c122 (X : smX) (x0 : Nat) (x1 : Int32) (x2 : Int32) (x3 : Int32) (x4 : Int32) (h : smH) : sm_C PP X 122 [.ref x0, .int x1, .int x2, .int x3, .int x4] h = sm_E PP X 122 0 [(0, .ref x0), (1, .int x1), (2, .int x2), (3, .int x3), (4, .int x4)] [] h := rfl
set_option maxRecDepth 4000 in
theorem b122_0 (X : smX) (x0 : Nat) (x1 : Int32) (x2 : Int32) (x3 : Int32) (x4 : Int32) (h : smH) : sm_E PP X 122 0 [(0, .ref x0), (1, .int x1), (2, .int x2), (3, .int x3), (4, .int x4)] [] h =
    if x2 = 0 then (sm_cR (sm_C PP X 107 [.int x4, .int (nI 97), .int (nI 122)] h) fun w1 h2 => sm_E PP X 122 13 [(0, .ref x0), (1, .int x1), (2, .int x2), (3, .int x3), (4, .int x4)] (w1.toList ++ []) h2) else sm_cR (sm_C PP X 107 [.int x4, .int (nI 48), .int (nI 57)] h) fun w3 h4 => sm_E PP X 122 25 [(0, .ref x0), (1, .int x1), (2, .int x2), (3, .int x3), (4, .int x4)] (w3.toList ++ []) h4 :=
  (sm_blk PP X 122 [0, 13, 25, 34, 42, 49, 74, 88] 51 0 _ _ _).trans rfl
set_option maxRecDepth 4000 in
theorem b122_13 (X : smX) (x0 : Nat) (x1 : Int32) (x2 : Int32) (x3 : Int32) (x4 : Int32) (s0 : Int32) (h : smH) : sm_E PP X 122 13 [(0, .ref x0), (1, .int x1), (2, .int x2), (3, .int x3), (4, .int x4)] [.int s0] h =
    sm_E PP X 122 25 [(0, .ref x0), (1, .int x1), (2, .int x2), (3, .int x3), (4, .int x4)] [.int s0] h :=
  (sm_blk PP X 122 [0, 13, 25, 34, 42, 49, 74, 88] 51 13 _ _ _).trans rfl
set_option maxRecDepth 4000 in
theorem b122_25 (X : smX) (x0 : Nat) (x1 : Int32) (x2 : Int32) (x3 : Int32) (x4 : Int32) (s0 : Int32) (h : smH) : sm_E PP X 122 25 [(0, .ref x0), (1, .int x1), (2, .int x2), (3, .int x3), (4, .int x4)] [.int s0] h =
    sm_vc h x0 8 (sm_cR (sm_C PP X 119 [.ref x0, .int x1, .int x2, .int x3] h) fun w1 h2 => sm_E PP X 122 34 [(0, .ref x0), (1, .int x1), (2, .int x2), (3, .int x3), (4, .int x4), (5, .int s0)] (w1.toList ++ []) h2) :=
  (sm_blk PP X 122 [0, 13, 25, 34, 42, 49, 74, 88] 51 25 _ _ _).trans rfl
set_option maxRecDepth 4000 in
theorem b122_34 (X : smX) (x0 : Nat) (x1 : Int32) (x2 : Int32) (x3 : Int32) (x4 : Int32) (x5 : Int32) (s0 : Int32) (h : smH) : sm_E PP X 122 34 [(0, .ref x0), (1, .int x1), (2, .int x2), (3, .int x3), (4, .int x4), (5, .int x5)] [.int s0] h =
    if s0 = 0 then (sm_E PP X 122 42 [] [] h) else if x5 = 0 then (sm_E PP X 122 42 [] [] h) else sm_cR (sm_C PP X 118 [.int x1, .int x2] h) fun w1 h2 => sm_E PP X 122 49 [(0, .ref x0), (1, .int x1), (3, .int x3), (4, .int x4)] (w1.toList ++ []) h2 :=
  (sm_blk PP X 122 [0, 13, 25, 34, 42, 49, 74, 88] 51 34 _ _ _).trans rfl
set_option maxRecDepth 4000 in
theorem b122_42 (X : smX) (h : smH) : sm_E PP X 122 42 [] [] h =
    some (some (.int (-nI 1)), h) :=
  (sm_blk PP X 122 [0, 13, 25, 34, 42, 49, 74, 88] 51 42 _ _ _).trans rfl
set_option maxRecDepth 4000 in
theorem b122_49 (X : smX) (x0 : Nat) (x1 : Int32) (x3 : Int32) (x4 : Int32) (s0 : Int32) (h : smH) : sm_E PP X 122 49 [(0, .ref x0), (1, .int x1), (3, .int x3), (4, .int x4)] [.int s0] h =
    sm_gR (sm_f h x0 8 0) fun v1 => sm_ld (sm_ar PP X h (.ref v1)) .int ((s0 + (nI 1)) + x3) fun v2 => if v2 = (nI 63) then (sm_vc h x0 8 (sm_cR (sm_C PP X 114 [.ref x0] h) fun w3 h4 => sm_E PP X 122 74 [(0, .ref x0), (1, .int x1), (4, .int x4), (6, .int ((s0 + (nI 1)) + x3))] (w3.toList ++ []) h4)) else some (some (.int (-nI 2)), h) :=
  (sm_blk PP X 122 [0, 13, 25, 34, 42, 49, 74, 88] 51 49 _ _ _).trans rfl
set_option maxRecDepth 4000 in
theorem b122_74 (X : smX) (x0 : Nat) (x1 : Int32) (x4 : Int32) (x6 : Int32) (h : smH) : sm_E PP X 122 74 [(0, .ref x0), (1, .int x1), (4, .int x4), (6, .int x6)] [] h =
    sm_gR (sm_f h x0 8 0) fun v1 => sm_st h v1 .int x6 x4 fun h2 => sm_vc h2 x0 8 (sm_cR (sm_C PP X 121 [.ref x0, .int x1] h2) fun w3 h4 => sm_E PP X 122 88 [] (w3.toList ++ []) h4) :=
  (sm_blk PP X 122 [0, 13, 25, 34, 42, 49, 74, 88] 51 74 _ _ _).trans rfl
set_option maxRecDepth 4000 in
theorem b122_88 (X : smX) (s0 : Int32) (h : smH) : sm_E PP X 122 88 [] [.int s0] h =
    some (some (.int s0), h) :=
  (sm_blk PP X 122 [0, 13, 25, 34, 42, 49, 74, 88] 51 88 _ _ _).trans rfl
/-! 123: WornSumsModel.change(II)I -/
theorem c123 (X : smX) (x0 : Nat) (x1 : Int32) (x2 : Int32) (h : smH) : sm_C PP X 123 [.ref x0, .int x1, .int x2] h = sm_E PP X 123 0 [(0, .ref x0), (1, .int x1), (2, .int x2)] [] h := rfl
set_option maxRecDepth 4000 in
theorem b123_0 (X : smX) (x0 : Nat) (x1 : Int32) (x2 : Int32) (h : smH) : sm_E PP X 123 0 [(0, .ref x0), (1, .int x1), (2, .int x2)] [] h =
    sm_gR (sm_f h x0 8 0) fun v1 => sm_ld (sm_ar PP X h (.ref v1)) .int x1 fun v2 => if v2 = x2 then (some (some (.int (-nI 2)), h)) else sm_vc h x0 8 (sm_cR (sm_C PP X 114 [.ref x0] h) fun w3 h4 => sm_E PP X 123 19 [(0, .ref x0), (1, .int x1), (2, .int x2), (3, .int v2)] (w3.toList ++ []) h4) :=
  (sm_blk PP X 123 [0, 19] 21 0 _ _ _).trans rfl
set_option maxRecDepth 4000 in
theorem b123_19 (X : smX) (x0 : Nat) (x1 : Int32) (x2 : Int32) (x3 : Int32) (h : smH) : sm_E PP X 123 19 [(0, .ref x0), (1, .int x1), (2, .int x2), (3, .int x3)] [] h =
    sm_gR (sm_f h x0 8 0) fun v1 => sm_st h v1 .int x1 x2 fun h2 => some (some (.int x3), h2) :=
  (sm_blk PP X 123 [0, 19] 21 19 _ _ _).trans rfl
/-! 124: WornSumsModel.slacks(I)I -/
theorem c124 (X : smX) (x0 : Nat) (x1 : Int32) (h : smH) : sm_C PP X 124 [.ref x0, .int x1] h = sm_E PP X 124 0 [(0, .ref x0), (1, .int x1)] [] h := rfl
set_option maxRecDepth 4000 in
theorem b124_0 (X : smX) (x0 : Nat) (x1 : Int32) (h : smH) : sm_E PP X 124 0 [(0, .ref x0), (1, .int x1)] [] h =
    sm_cR (sm_C PP X 107 [.int x1, .int (nI 0), .int (nI 2)] h) fun w1 h2 => sm_E PP X 124 6 [(0, .ref x0), (1, .int x1)] (w1.toList ++ []) h2 :=
  (sm_blk PP X 124 [0, 6, 15, 19] 14 0 _ _ _).trans rfl
set_option maxRecDepth 4000 in
theorem b124_6 (X : smX) (x0 : Nat) (x1 : Int32) (s0 : Int32) (h : smH) : sm_E PP X 124 6 [(0, .ref x0), (1, .int x1)] [.int s0] h =
    if s0 = 0 then (sm_E PP X 124 19 [] [.int (-nI 1)] h) else sm_vc h x0 8 (sm_cR (sm_C PP X 123 [.ref x0, .int (nI 1), .int x1] h) fun w1 h2 => sm_E PP X 124 15 [] (w1.toList ++ []) h2) :=
  (sm_blk PP X 124 [0, 6, 15, 19] 14 6 _ _ _).trans rfl
set_option maxRecDepth 4000 in
theorem b124_19 (X : smX) (s0 : Int32) (h : smH) : sm_E PP X 124 19 [] [.int s0] h =
    some (some (.int s0), h) :=
  (sm_blk PP X 124 [0, 6, 15, 19] 14 19 _ _ _).trans rfl
set_option maxRecDepth 4000 in
theorem b124_15 (X : smX) (s0 : Int32) (h : smH) : sm_E PP X 124 15 [] [.int s0] h =
    sm_E PP X 124 19 [] [.int s0] h :=
  (sm_blk PP X 124 [0, 6, 15, 19] 14 15 _ _ _).trans rfl
/-! 125: WornSumsModel.totals(I)I -/
theorem c125 (X : smX) (x0 : Nat) (x1 : Int32) (h : smH) : sm_C PP X 125 [.ref x0, .int x1] h = sm_E PP X 125 0 [(0, .ref x0), (1, .int x1)] [] h := rfl
set_option maxRecDepth 4000 in
theorem b125_0 (X : smX) (x0 : Nat) (x1 : Int32) (h : smH) : sm_E PP X 125 0 [(0, .ref x0), (1, .int x1)] [] h =
    sm_cR (sm_C PP X 107 [.int x1, .int (nI 0), .int (nI 9999)] h) fun w1 h2 => sm_E PP X 125 8 [(0, .ref x0), (1, .int x1)] (w1.toList ++ []) h2 :=
  (sm_blk PP X 125 [0, 8, 17, 23, 27] 17 0 _ _ _).trans rfl
set_option maxRecDepth 4000 in
theorem b125_8 (X : smX) (x0 : Nat) (x1 : Int32) (s0 : Int32) (h : smH) : sm_E PP X 125 8 [(0, .ref x0), (1, .int x1)] [.int s0] h =
    if s0 = 0 then (if x1 = (-nI 9) then (sm_E PP X 125 17 [(0, .ref x0), (1, .int x1)] [] h) else sm_E PP X 125 27 [] [.int (-nI 1)] h) else sm_E PP X 125 17 [(0, .ref x0), (1, .int x1)] [] h :=
  (sm_blk PP X 125 [0, 8, 17, 23, 27] 17 8 _ _ _).trans rfl
set_option maxRecDepth 4000 in
theorem b125_17 (X : smX) (x0 : Nat) (x1 : Int32) (h : smH) : sm_E PP X 125 17 [(0, .ref x0), (1, .int x1)] [] h =
    sm_vc h x0 8 (sm_cR (sm_C PP X 123 [.ref x0, .int (nI 2), .int x1] h) fun w1 h2 => sm_E PP X 125 23 [] (w1.toList ++ []) h2) :=
  (sm_blk PP X 125 [0, 8, 17, 23, 27] 17 17 _ _ _).trans rfl
set_option maxRecDepth 4000 in
theorem b125_27 (X : smX) (s0 : Int32) (h : smH) : sm_E PP X 125 27 [] [.int s0] h =
    some (some (.int s0), h) :=
  (sm_blk PP X 125 [0, 8, 17, 23, 27] 17 27 _ _ _).trans rfl
set_option maxRecDepth 4000 in
theorem b125_23 (X : smX) (s0 : Int32) (h : smH) : sm_E PP X 125 23 [] [.int s0] h =
    sm_E PP X 125 27 [] [.int s0] h :=
  (sm_blk PP X 125 [0, 8, 17, 23, 27] 17 23 _ _ _).trans rfl
/-! 126: WornSumsModel.undo()I -/
theorem c126 (X : smX) (x0 : Nat) (h : smH) : sm_C PP X 126 [.ref x0] h = sm_E PP X 126 0 [(0, .ref x0)] [] h := rfl
set_option maxRecDepth 4000 in
theorem b126_0 (X : smX) (x0 : Nat) (h : smH) : sm_E PP X 126 0 [(0, .ref x0)] [] h =
    sm_gI (sm_f h x0 8 2) fun v1 => if v1 = 0 then (some (some (.int (-nI 2)), h)) else sm_gI (sm_f h x0 8 2) fun v2 => sm_fP h x0 8 2 (.int (v2 - (nI 1))) fun h3 => sm_gR (sm_f h3 x0 8 1) fun v4 => sm_gI (sm_f h3 x0 8 2) fun v5 => sm_gR (sm_f h3 x0 8 0) fun v6 => sm_cR (sm_C PP X 113 [.ref v4, .int ((nI 219) * v5), .ref v6, .int (nI 0), .int (nI 219)] h3) fun w7 h8 => sm_E PP X 126 43 [(0, .ref x0)] (w7.toList ++ []) h8 :=
  (sm_blk PP X 126 [0, 43] 27 0 _ _ _).trans rfl
set_option maxRecDepth 4000 in
theorem b126_43 (X : smX) (x0 : Nat) (h : smH) : sm_E PP X 126 43 [(0, .ref x0)] [] h =
    sm_gI (sm_f h x0 8 2) fun v1 => some (some (.int v1), h) :=
  (sm_blk PP X 126 [0, 43] 27 43 _ _ _).trans rfl
/-! 127: WornSumsModel.lettersOf(I)J -/
theorem c127 (X : smX) (x0 : Int32) (h : smH) : sm_C PP X 127 [.int x0] h = sm_E PP X 127 0 [(0, .int x0)] [] h := rfl
set_option maxRecDepth 4000 in
theorem b127_0 (X : smX) (x0 : Int32) (h : smH) : sm_E PP X 127 0 [(0, .int x0)] [] h =
    sm_E PP X 127 1 [(0, .int x0)] [.int x0] h :=
  (sm_blk PP X 127 [0, 1, 136, 140, 144, 148, 152, 156, 160, 164, 168, 172, 176, 180, 184, 188, 192, 196, 200, 204, 208, 212, 216, 220, 224, 228, 232, 236, 240, 244, 248, 252, 256] 66 0 _ _ _).trans rfl
set_option maxRecDepth 4000 in
theorem b127_1 (X : smX) (x0 : Int32) (s0 : Int32) (h : smH) : sm_E PP X 127 1 [(0, .int x0)] [.int s0] h =
    if s0.toInt < 0 ∨ 29 < s0.toInt then (sm_E PP X 127 256 [] [] h) else sm_sw (#[135, 139, 143, 147, 151, 155, 159, 163, 167, 171, 175, 179, 183, 187, 191, 195, 199, 203, 207, 211, 215, 219, 223, 227, 231, 235, 239, 243, 247, 251] : Array Int)[(s0.toInt - 0).toNat]? fun o1 => sm_E PP X 127 (sm_tg 1 o1) (sm_tr PP 127 (sm_tg 1 o1) [(0, .int x0)]) [] h :=
  (sm_blk PP X 127 [0, 1, 136, 140, 144, 148, 152, 156, 160, 164, 168, 172, 176, 180, 184, 188, 192, 196, 200, 204, 208, 212, 216, 220, 224, 228, 232, 236, 240, 244, 248, 252, 256] 0 1 _ _ _).trans rfl
set_option maxRecDepth 4000 in
theorem b127_136 (X : smX) (h : smH) : sm_E PP X 127 136 [] [] h =
    some (some (.long (lN 510138)), h) :=
  (sm_blk PP X 127 [0, 1, 136, 140, 144, 148, 152, 156, 160, 164, 168, 172, 176, 180, 184, 188, 192, 196, 200, 204, 208, 212, 216, 220, 224, 228, 232, 236, 240, 244, 248, 252, 256] 66 136 _ _ _).trans rfl
set_option maxRecDepth 4000 in
theorem b127_140 (X : smX) (h : smH) : sm_E PP X 127 140 [] [] h =
    some (some (.long (lN 5583)), h) :=
  (sm_blk PP X 127 [0, 1, 136, 140, 144, 148, 152, 156, 160, 164, 168, 172, 176, 180, 184, 188, 192, 196, 200, 204, 208, 212, 216, 220, 224, 228, 232, 236, 240, 244, 248, 252, 256] 66 140 _ _ _).trans rfl
set_option maxRecDepth 4000 in
theorem b127_144 (X : smX) (h : smH) : sm_E PP X 127 144 [] [] h =
    some (some (.long (lN 16116)), h) :=
  (sm_blk PP X 127 [0, 1, 136, 140, 144, 148, 152, 156, 160, 164, 168, 172, 176, 180, 184, 188, 192, 196, 200, 204, 208, 212, 216, 220, 224, 228, 232, 236, 240, 244, 248, 252, 256] 66 144 _ _ _).trans rfl
set_option maxRecDepth 4000 in
theorem b127_148 (X : smX) (h : smH) : sm_E PP X 127 148 [] [] h =
    some (some (.long (lN 5425428)), h) :=
  (sm_blk PP X 127 [0, 1, 136, 140, 144, 148, 152, 156, 160, 164, 168, 172, 176, 180, 184, 188, 192, 196, 200, 204, 208, 212, 216, 220, 224, 228, 232, 236, 240, 244, 248, 252, 256] 66 148 _ _ _).trans rfl
set_option maxRecDepth 4000 in
theorem b127_152 (X : smX) (h : smH) : sm_E PP X 127 152 [] [] h =
    some (some (.long (lN 611814)), h) :=
  (sm_blk PP X 127 [0, 1, 136, 140, 144, 148, 152, 156, 160, 164, 168, 172, 176, 180, 184, 188, 192, 196, 200, 204, 208, 212, 216, 220, 224, 228, 232, 236, 240, 244, 248, 252, 256] 66 152 _ _ _).trans rfl
set_option maxRecDepth 4000 in
theorem b127_156 (X : smX) (h : smH) : sm_E PP X 127 156 [] [] h =
    some (some (.long (lN 186662)), h) :=
  (sm_blk PP X 127 [0, 1, 136, 140, 144, 148, 152, 156, 160, 164, 168, 172, 176, 180, 184, 188, 192, 196, 200, 204, 208, 212, 216, 220, 224, 228, 232, 236, 240, 244, 248, 252, 256] 66 156 _ _ _).trans rfl
set_option maxRecDepth 4000 in
theorem b127_160 (X : smX) (h : smH) : sm_E PP X 127 160 [] [] h =
    some (some (.long (lN 24883)), h) :=
  (sm_blk PP X 127 [0, 1, 136, 140, 144, 148, 152, 156, 160, 164, 168, 172, 176, 180, 184, 188, 192, 196, 200, 204, 208, 212, 216, 220, 224, 228, 232, 236, 240, 244, 248, 252, 256] 66 160 _ _ _).trans rfl
set_option maxRecDepth 4000 in
theorem b127_164 (X : smX) (h : smH) : sm_E PP X 127 164 [] [] h =
    some (some (.long (lN 14866611)), h) :=
  (sm_blk PP X 127 [0, 1, 136, 140, 144, 148, 152, 156, 160, 164, 168, 172, 176, 180, 184, 188, 192, 196, 200, 204, 208, 212, 216, 220, 224, 228, 232, 236, 240, 244, 248, 252, 256] 66 164 _ _ _).trans rfl
set_option maxRecDepth 4000 in
theorem b127_168 (X : smX) (h : smH) : sm_E PP X 127 168 [] [] h =
    some (some (.long (lN 21241125)), h) :=
  (sm_blk PP X 127 [0, 1, 136, 140, 144, 148, 152, 156, 160, 164, 168, 172, 176, 180, 184, 188, 192, 196, 200, 204, 208, 212, 216, 220, 224, 228, 232, 236, 240, 244, 248, 252, 256] 66 168 _ _ _).trans rfl
set_option maxRecDepth 4000 in
theorem b127_172 (X : smX) (h : smH) : sm_E PP X 127 172 [] [] h =
    some (some (.long (lN 178478)), h) :=
  (sm_blk PP X 127 [0, 1, 136, 140, 144, 148, 152, 156, 160, 164, 168, 172, 176, 180, 184, 188, 192, 196, 200, 204, 208, 212, 216, 220, 224, 228, 232, 236, 240, 244, 248, 252, 256] 66 172 _ _ _).trans rfl
set_option maxRecDepth 4000 in
theorem b127_176 (X : smX) (h : smH) : sm_E PP X 127 176 [] [] h =
    some (some (.long (lN 14516)), h) :=
  (sm_blk PP X 127 [0, 1, 136, 140, 144, 148, 152, 156, 160, 164, 168, 172, 176, 180, 184, 188, 192, 196, 200, 204, 208, 212, 216, 220, 224, 228, 232, 236, 240, 244, 248, 252, 256] 66 176 _ _ _).trans rfl
set_option maxRecDepth 4000 in
theorem b127_180 (X : smX) (h : smH) : sm_E PP X 127 180 [] [] h =
    some (some (.long (lN 475731333)), h) :=
  (sm_blk PP X 127 [0, 1, 136, 140, 144, 148, 152, 156, 160, 164, 168, 172, 176, 180, 184, 188, 192, 196, 200, 204, 208, 212, 216, 220, 224, 228, 232, 236, 240, 244, 248, 252, 256] 66 180 _ _ _).trans rfl
set_option maxRecDepth 4000 in
theorem b127_184 (X : smX) (h : smH) : sm_E PP X 127 184 [] [] h =
    some (some (.long (lN 191239924)), h) :=
  (sm_blk PP X 127 [0, 1, 136, 140, 144, 148, 152, 156, 160, 164, 168, 172, 176, 180, 184, 188, 192, 196, 200, 204, 208, 212, 216, 220, 224, 228, 232, 236, 240, 244, 248, 252, 256] 66 184 _ _ _).trans rfl
set_option maxRecDepth 4000 in
theorem b127_188 (X : smX) (h : smH) : sm_E PP X 127 188 [] [] h =
    some (some (.long (lN 486594389268)), h) :=
  (sm_blk PP X 127 [0, 1, 136, 140, 144, 148, 152, 156, 160, 164, 168, 172, 176, 180, 184, 188, 192, 196, 200, 204, 208, 212, 216, 220, 224, 228, 232, 236, 240, 244, 248, 252, 256] 66 188 _ _ _).trans rfl
set_option maxRecDepth 4000 in
theorem b127_192 (X : smX) (h : smH) : sm_E PP X 127 192 [] [] h =
    some (some (.long (lN 486594401766)), h) :=
  (sm_blk PP X 127 [0, 1, 136, 140, 144, 148, 152, 156, 160, 164, 168, 172, 176, 180, 184, 188, 192, 196, 200, 204, 208, 212, 216, 220, 224, 228, 232, 236, 240, 244, 248, 252, 256] 66 192 _ _ _).trans rfl
set_option maxRecDepth 4000 in
theorem b127_196 (X : smX) (h : smH) : sm_E PP X 127 196 [] [] h =
    some (some (.long (lN 15206062374)), h) :=
  (sm_blk PP X 127 [0, 1, 136, 140, 144, 148, 152, 156, 160, 164, 168, 172, 176, 180, 184, 188, 192, 196, 200, 204, 208, 212, 216, 220, 224, 228, 232, 236, 240, 244, 248, 252, 256] 66 196 _ _ _).trans rfl
set_option maxRecDepth 4000 in
theorem b127_200 (X : smX) (h : smH) : sm_E PP X 127 200 [] [] h =
    some (some (.long (lN 15206080819)), h) :=
  (sm_blk PP X 127 [0, 1, 136, 140, 144, 148, 152, 156, 160, 164, 168, 172, 176, 180, 184, 188, 192, 196, 200, 204, 208, 212, 216, 220, 224, 228, 232, 236, 240, 244, 248, 252, 256] 66 200 _ _ _).trans rfl
set_option maxRecDepth 4000 in
theorem b127_204 (X : smX) (h : smH) : sm_E PP X 127 204 [] [] h =
    some (some (.long (lN 15571016145075)), h) :=
  (sm_blk PP X 127 [0, 1, 136, 140, 144, 148, 152, 156, 160, 164, 168, 172, 176, 180, 184, 188, 192, 196, 200, 204, 208, 212, 216, 220, 224, 228, 232, 236, 240, 244, 248, 252, 256] 66 204 _ _ _).trans rfl
set_option maxRecDepth 4000 in
theorem b127_208 (X : smX) (h : smH) : sm_E PP X 127 208 [] [] h =
    some (some (.long (lN 486594059557)), h) :=
  (sm_blk PP X 127 [0, 1, 136, 140, 144, 148, 152, 156, 160, 164, 168, 172, 176, 180, 184, 188, 192, 196, 200, 204, 208, 212, 216, 220, 224, 228, 232, 236, 240, 244, 248, 252, 256] 66 208 _ _ _).trans rfl
set_option maxRecDepth 4000 in
theorem b127_212 (X : smX) (h : smH) : sm_E PP X 127 212 [] [] h =
    some (some (.long (lN 486593968430)), h) :=
  (sm_blk PP X 127 [0, 1, 136, 140, 144, 148, 152, 156, 160, 164, 168, 172, 176, 180, 184, 188, 192, 196, 200, 204, 208, 212, 216, 220, 224, 228, 232, 236, 240, 244, 248, 252, 256] 66 212 _ _ _).trans rfl
set_option maxRecDepth 4000 in
theorem b127_216 (X : smX) (h : smH) : sm_E PP X 127 216 [] [] h =
    some (some (.long (lN 860296948)), h) :=
  (sm_blk PP X 127 [0, 1, 136, 140, 144, 148, 152, 156, 160, 164, 168, 172, 176, 180, 184, 188, 192, 196, 200, 204, 208, 212, 216, 220, 224, 228, 232, 236, 240, 244, 248, 252, 256] 66 216 _ _ _).trans rfl
set_option maxRecDepth 4000 in
theorem b127_220 (X : smX) (h : smH) : sm_E PP X 127 220 [] [] h =
    some (some (.long (lN 860431636)), h) :=
  (sm_blk PP X 127 [0, 1, 136, 140, 144, 148, 152, 156, 160, 164, 168, 172, 176, 180, 184, 188, 192, 196, 200, 204, 208, 212, 216, 220, 224, 228, 232, 236, 240, 244, 248, 252, 256] 66 220 _ _ _).trans rfl
set_option maxRecDepth 4000 in
theorem b127_224 (X : smX) (h : smH) : sm_E PP X 127 224 [] [] h =
    some (some (.long (lN 26888678)), h) :=
  (sm_blk PP X 127 [0, 1, 136, 140, 144, 148, 152, 156, 160, 164, 168, 172, 176, 180, 184, 188, 192, 196, 200, 204, 208, 212, 216, 220, 224, 228, 232, 236, 240, 244, 248, 252, 256] 66 224 _ _ _).trans rfl
set_option maxRecDepth 4000 in
theorem b127_228 (X : smX) (h : smH) : sm_E PP X 127 228 [] [] h =
    some (some (.long (lN 26876198)), h) :=
  (sm_blk PP X 127 [0, 1, 136, 140, 144, 148, 152, 156, 160, 164, 168, 172, 176, 180, 184, 188, 192, 196, 200, 204, 208, 212, 216, 220, 224, 228, 232, 236, 240, 244, 248, 252, 256] 66 228 _ _ _).trans rfl
set_option maxRecDepth 4000 in
theorem b127_232 (X : smX) (h : smH) : sm_E PP X 127 232 [] [] h =
    some (some (.long (lN 26894643)), h) :=
  (sm_blk PP X 127 [0, 1, 136, 140, 144, 148, 152, 156, 160, 164, 168, 172, 176, 180, 184, 188, 192, 196, 200, 204, 208, 212, 216, 220, 224, 228, 232, 236, 240, 244, 248, 252, 256] 66 232 _ _ _).trans rfl
set_option maxRecDepth 4000 in
theorem b127_236 (X : smX) (h : smH) : sm_E PP X 127 236 [] [] h =
    some (some (.long (lN 27529500851)), h) :=
  (sm_blk PP X 127 [0, 1, 136, 140, 144, 148, 152, 156, 160, 164, 168, 172, 176, 180, 184, 188, 192, 196, 200, 204, 208, 212, 216, 220, 224, 228, 232, 236, 240, 244, 248, 252, 256] 66 236 _ _ _).trans rfl
set_option maxRecDepth 4000 in
theorem b127_240 (X : smX) (h : smH) : sm_E PP X 127 240 [] [] h =
    some (some (.long (lN 860101925)), h) :=
  (sm_blk PP X 127 [0, 1, 136, 140, 144, 148, 152, 156, 160, 164, 168, 172, 176, 180, 184, 188, 192, 196, 200, 204, 208, 212, 216, 220, 224, 228, 232, 236, 240, 244, 248, 252, 256] 66 240 _ _ _).trans rfl
set_option maxRecDepth 4000 in
theorem b127_244 (X : smX) (h : smH) : sm_E PP X 127 244 [] [] h =
    some (some (.long (lN 860010798)), h) :=
  (sm_blk PP X 127 [0, 1, 136, 140, 144, 148, 152, 156, 160, 164, 168, 172, 176, 180, 184, 188, 192, 196, 200, 204, 208, 212, 216, 220, 224, 228, 232, 236, 240, 244, 248, 252, 256] 66 244 _ _ _).trans rfl
set_option maxRecDepth 4000 in
theorem b127_248 (X : smX) (h : smH) : sm_E PP X 127 248 [] [] h =
    some (some (.long (lN 4481759912)), h) :=
  (sm_blk PP X 127 [0, 1, 136, 140, 144, 148, 152, 156, 160, 164, 168, 172, 176, 180, 184, 188, 192, 196, 200, 204, 208, 212, 216, 220, 224, 228, 232, 236, 240, 244, 248, 252, 256] 66 248 _ _ _).trans rfl
set_option maxRecDepth 4000 in
theorem b127_252 (X : smX) (h : smH) : sm_E PP X 127 252 [] [] h =
    some (some (.long (lN 4545)), h) :=
  (sm_blk PP X 127 [0, 1, 136, 140, 144, 148, 152, 156, 160, 164, 168, 172, 176, 180, 184, 188, 192, 196, 200, 204, 208, 212, 216, 220, 224, 228, 232, 236, 240, 244, 248, 252, 256] 66 252 _ _ _).trans rfl
set_option maxRecDepth 4000 in
theorem b127_256 (X : smX) (h : smH) : sm_E PP X 127 256 [] [] h =
    some (some (.long (lN 0)), h) :=
  (sm_blk PP X 127 [0, 1, 136, 140, 144, 148, 152, 156, 160, 164, 168, 172, 176, 180, 184, 188, 192, 196, 200, 204, 208, 212, 216, 220, 224, 228, 232, 236, 240, 244, 248, 252, 256] 66 256 _ _ _).trans rfl
/-! 128: WornSumsModel.say(I)V -/
theorem c128 (X : smX) (x0 : Nat) (x1 : Int32) (h : smH) : sm_C PP X 128 [.ref x0, .int x1] h = sm_E PP X 128 0 [(0, .ref x0), (1, .int x1)] [] h := rfl
set_option maxRecDepth 4000 in
theorem b128_0 (X : smX) (x0 : Nat) (x1 : Int32) (h : smH) : sm_E PP X 128 0 [(0, .ref x0), (1, .int x1)] [] h =
    sm_gI (sm_f h x0 8 8) fun v1 => if v1 ≤ 0 then (sm_E PP X 128 28 [(0, .ref x0), (1, .int x1)] [] h) else sm_gR (sm_f h x0 8 7) fun v2 => sm_gI (sm_f h x0 8 8) fun v3 => sm_st h v2 .int v3 (nI 32) fun h4 => sm_gI (sm_f h4 x0 8 8) fun v5 => sm_fP h4 x0 8 8 (.int (v5 + (nI 1))) fun h6 => sm_E PP X 128 28 [(0, .ref x0), (1, .int x1)] [] h6 :=
  (sm_blk PP X 128 [0, 28, 32, 33] 49 0 _ _ _).trans rfl
set_option maxRecDepth 4000 in
theorem b128_28 (X : smX) (x0 : Nat) (x1 : Int32) (h : smH) : sm_E PP X 128 28 [(0, .ref x0), (1, .int x1)] [] h =
    sm_cR (sm_C PP X 127 [.int x1] h) fun w1 h2 => sm_E PP X 128 32 [(0, .ref x0)] (w1.toList ++ []) h2 :=
  (sm_blk PP X 128 [0, 28, 32, 33] 49 28 _ _ _).trans rfl
set_option maxRecDepth 4000 in
theorem b128_32 (X : smX) (x0 : Nat) (s0 : Int64) (h : smH) : sm_E PP X 128 32 [(0, .ref x0)] [.long s0] h =
    sm_E PP X 128 33 [(0, .ref x0), (2, .long s0)] [] h :=
  (sm_blk PP X 128 [0, 28, 32, 33] 49 32 _ _ _).trans rfl
set_option maxRecDepth 4000 in
theorem b128_33 (X : smX) (x0 : Nat) (x2 : Int64) (h : smH) : sm_E PP X 128 33 [(0, .ref x0), (2, .long x2)] [] h =
    if (lg_cmp x2 (lN 0)) ≤ 0 then (some (none, h)) else sm_gR (sm_f h x0 8 7) fun v1 => sm_gI (sm_f h x0 8 8) fun v2 => if (lN 32) = 0 then none else sm_st h v1 .int v2 (((nI 97) + ((x2 - x2 / (lN 32) * (lN 32)).toInt32)) - (nI 1)) fun h3 => sm_gI (sm_f h3 x0 8 8) fun v4 => sm_fP h3 x0 8 8 (.int (v4 + (nI 1))) fun h5 => if (lN 32) = 0 then none else sm_E PP X 128 33 [(0, .ref x0), (2, .long (x2 / (lN 32)))] [] h5 :=
  (sm_blk PP X 128 [0, 28, 32, 33] 49 33 _ _ _).trans rfl
/-! 129: WornSumsModel.spell(I)V -/
theorem c129 (X : smX) (x0 : Nat) (x1 : Int32) (h : smH) : sm_C PP X 129 [.ref x0, .int x1] h = sm_E PP X 129 0 [(0, .ref x0), (1, .int x1)] [] h := rfl
set_option maxRecDepth 4000 in
theorem b129_0 (X : smX) (x0 : Nat) (x1 : Int32) (h : smH) : sm_E PP X 129 0 [(0, .ref x0), (1, .int x1)] [] h =
    sm_fP h x0 8 8 (.int (nI 0)) fun h1 => if (nI 100) = 0 then none else if x1 < (nI 100) then (sm_E PP X 129 40 [(0, .ref x0), (1, .int x1), (2, .int (x1 - x1 / (nI 100) * (nI 100)))] [] h1) else if (nI 100) = 0 then none else sm_vc h1 x0 8 (sm_cR (sm_C PP X 128 [.ref x0, .int (x1 / (nI 100))] h1) fun w2 h3 => sm_E PP X 129 24 [(0, .ref x0), (1, .int x1), (2, .int (x1 - x1 / (nI 100) * (nI 100)))] (w2.toList ++ []) h3) :=
  (sm_blk PP X 129 [0, 24, 30, 40, 50, 68, 71, 92] 55 0 _ _ _).trans rfl
set_option maxRecDepth 4000 in
theorem b129_40 (X : smX) (x0 : Nat) (x1 : Int32) (x2 : Int32) (h : smH) : sm_E PP X 129 40 [(0, .ref x0), (1, .int x1), (2, .int x2)] [] h =
    if x1 < (nI 100) then (sm_E PP X 129 50 [(0, .ref x0), (2, .int x2)] [] h) else if x2 ≤ 0 then (sm_E PP X 129 71 [(0, .ref x0), (2, .int x2)] [] h) else sm_E PP X 129 50 [(0, .ref x0), (2, .int x2)] [] h :=
  (sm_blk PP X 129 [0, 24, 30, 40, 50, 68, 71, 92] 55 40 _ _ _).trans rfl
set_option maxRecDepth 4000 in
theorem b129_24 (X : smX) (x0 : Nat) (x1 : Int32) (x2 : Int32) (h : smH) : sm_E PP X 129 24 [(0, .ref x0), (1, .int x1), (2, .int x2)] [] h =
    sm_vc h x0 8 (sm_cR (sm_C PP X 128 [.ref x0, .int (nI 28)] h) fun w1 h2 => sm_E PP X 129 30 [(0, .ref x0), (1, .int x1), (2, .int x2)] (w1.toList ++ []) h2) :=
  (sm_blk PP X 129 [0, 24, 30, 40, 50, 68, 71, 92] 55 24 _ _ _).trans rfl
set_option maxRecDepth 4000 in
theorem b129_50 (X : smX) (x0 : Nat) (x2 : Int32) (h : smH) : sm_E PP X 129 50 [(0, .ref x0), (2, .int x2)] [] h =
    if (nI 20) ≤ x2 then (if (nI 10) = 0 then none else sm_E PP X 129 68 [(0, .ref x0), (2, .int x2)] [.int ((nI 18) + (x2 / (nI 10))), .ref x0] h) else sm_E PP X 129 68 [(0, .ref x0), (2, .int x2)] [.int x2, .ref x0] h :=
  (sm_blk PP X 129 [0, 24, 30, 40, 50, 68, 71, 92] 55 50 _ _ _).trans rfl
set_option maxRecDepth 4000 in
theorem b129_71 (X : smX) (x0 : Nat) (x2 : Int32) (h : smH) : sm_E PP X 129 71 [(0, .ref x0), (2, .int x2)] [] h =
    if x2 < (nI 20) then (sm_E PP X 129 92 [] [] h) else if (nI 10) = 0 then none else if (x2 - x2 / (nI 10) * (nI 10)) ≤ 0 then (sm_E PP X 129 92 [] [] h) else if (nI 10) = 0 then none else sm_vc h x0 8 (sm_cR (sm_C PP X 128 [.ref x0, .int (x2 - x2 / (nI 10) * (nI 10))] h) fun w1 h2 => sm_E PP X 129 92 [] (w1.toList ++ []) h2) :=
  (sm_blk PP X 129 [0, 24, 30, 40, 50, 68, 71, 92] 55 71 _ _ _).trans rfl
set_option maxRecDepth 4000 in
theorem b129_30 (X : smX) (x0 : Nat) (x1 : Int32) (x2 : Int32) (h : smH) : sm_E PP X 129 30 [(0, .ref x0), (1, .int x1), (2, .int x2)] [] h =
    if x2 ≤ 0 then (sm_E PP X 129 40 [(0, .ref x0), (1, .int x1), (2, .int x2)] [] h) else sm_vc h x0 8 (sm_cR (sm_C PP X 128 [.ref x0, .int (nI 29)] h) fun w1 h2 => sm_E PP X 129 40 [(0, .ref x0), (1, .int x1), (2, .int x2)] (w1.toList ++ []) h2) :=
  (sm_blk PP X 129 [0, 24, 30, 40, 50, 68, 71, 92] 55 30 _ _ _).trans rfl
set_option maxRecDepth 4000 in
theorem b129_68 (X : smX) (x0 : Nat) (x2 : Int32) (s0 : Int32) (s1 : Nat) (h : smH) : sm_E PP X 129 68 [(0, .ref x0), (2, .int x2)] [.int s0, .ref s1] h =
    sm_vc h s1 8 (sm_cR (sm_C PP X 128 [.ref s1, .int s0] h) fun w1 h2 => sm_E PP X 129 71 [(0, .ref x0), (2, .int x2)] (w1.toList ++ []) h2) :=
  (sm_blk PP X 129 [0, 24, 30, 40, 50, 68, 71, 92] 55 68 _ _ _).trans rfl
set_option maxRecDepth 4000 in
theorem b129_92 (X : smX) (h : smH) : sm_E PP X 129 92 [] [] h =
    some (none, h) :=
  (sm_blk PP X 129 [0, 24, 30, 40, 50, 68, 71, 92] 55 92 _ _ _).trans rfl
/-! 130: WornSumsModel.doubtByWords(II)I -/
theorem c130 (X : smX) (x0 : Nat) (x1 : Int32) (x2 : Int32) (h : smH) : sm_C PP X 130 [.ref x0, .int x1, .int x2] h = sm_E PP X 130 0 [(0, .ref x0), (1, .int x1), (2, .int x2)] [] h := rfl
set_option maxRecDepth 4000 in
theorem b130_0 (X : smX) (x0 : Nat) (x1 : Int32) (x2 : Int32) (h : smH) : sm_E PP X 130 0 [(0, .ref x0), (1, .int x1), (2, .int x2)] [] h =
    sm_cR (sm_C PP X 118 [.int x1, .int (nI 0)] h) fun w1 h2 => sm_E PP X 130 5 [(0, .ref x0), (2, .int x2)] (w1.toList ++ []) h2 :=
  (sm_blk PP X 130 [0, 5, 11, 36, 70, 87, 118, 119, 152, 179] 99 0 _ _ _).trans rfl
set_option maxRecDepth 4000 in
theorem b130_5 (X : smX) (x0 : Nat) (x2 : Int32) (s0 : Int32) (h : smH) : sm_E PP X 130 5 [(0, .ref x0), (2, .int x2)] [.int s0] h =
    sm_vc h x0 8 (sm_cR (sm_C PP X 129 [.ref x0, .int x2] h) fun w1 h2 => sm_E PP X 130 11 [(0, .ref x0), (3, .int s0)] (w1.toList ++ []) h2) :=
  (sm_blk PP X 130 [0, 5, 11, 36, 70, 87, 118, 119, 152, 179] 99 5 _ _ _).trans rfl
set_option maxRecDepth 4000 in
theorem b130_11 (X : smX) (x0 : Nat) (x3 : Int32) (h : smH) : sm_E PP X 130 11 [(0, .ref x0), (3, .int x3)] [] h =
    sm_gI (sm_f h x0 8 8) fun v1 => sm_gR (sm_f h x0 8 0) fun v2 => sm_ld (sm_ar PP X h (.ref v2)) .int x3 fun v3 => if v1 = v3 then (sm_E PP X 130 36 [(0, .ref x0), (3, .int x3), (4, .int (nI 0)), (5, .int (nI 0)), (6, .int (nI 0))] [] h) else some (some (.int (-nI 9)), h) :=
  (sm_blk PP X 130 [0, 5, 11, 36, 70, 87, 118, 119, 152, 179] 99 11 _ _ _).trans rfl
set_option maxRecDepth 4000 in
theorem b130_36 (X : smX) (x0 : Nat) (x3 : Int32) (x4 : Int32) (x5 : Int32) (x6 : Int32) (h : smH) : sm_E PP X 130 36 [(0, .ref x0), (3, .int x3), (4, .int x4), (5, .int x5), (6, .int x6)] [] h =
    sm_gI (sm_f h x0 8 8) fun v1 => if v1 ≤ x6 then (sm_gR (sm_f h x0 8 0) fun v2 => sm_ld (sm_ar PP X h (.ref v2)) .int (nI 1) fun v3 => if x5 ≤ v3 then (sm_E PP X 130 179 [] [.int x4] h) else sm_E PP X 130 179 [] [.int (-nI 9)] h) else sm_gR (sm_f h x0 8 0) fun v4 => sm_ld (sm_ar PP X h (.ref v4)) .int ((x3 + (nI 1)) + x6) fun v5 => if v5 = (nI 32) then (sm_E PP X 130 70 [(0, .ref x0), (3, .int x3), (4, .int x4), (5, .int x5), (6, .int x6), (7, .int v5)] [.int (nI 1)] h) else sm_E PP X 130 70 [(0, .ref x0), (3, .int x3), (4, .int x4), (5, .int x5), (6, .int x6), (7, .int v5)] [.int (nI 0)] h :=
  (sm_blk PP X 130 [0, 5, 11, 36, 70, 87, 118, 119, 152, 179] 99 36 _ _ _).trans rfl
set_option maxRecDepth 4000 in
theorem b130_179 (X : smX) (s0 : Int32) (h : smH) : sm_E PP X 130 179 [] [.int s0] h =
    some (some (.int s0), h) :=
  (sm_blk PP X 130 [0, 5, 11, 36, 70, 87, 118, 119, 152, 179] 99 179 _ _ _).trans rfl
set_option maxRecDepth 4000 in
theorem b130_70 (X : smX) (x0 : Nat) (x3 : Int32) (x4 : Int32) (x5 : Int32) (x6 : Int32) (x7 : Int32) (s0 : Int32) (h : smH) : sm_E PP X 130 70 [(0, .ref x0), (3, .int x3), (4, .int x4), (5, .int x5), (6, .int x6), (7, .int x7)] [.int s0] h =
    sm_gR (sm_f h x0 8 7) fun v1 => sm_ld (sm_ar PP X h (.ref v1)) .int x6 fun v2 => if v2 = (nI 32) then (sm_E PP X 130 87 [(0, .ref x0), (3, .int x3), (4, .int x4), (5, .int x5), (6, .int x6), (7, .int x7)] [.int (nI 1), .int s0] h) else sm_E PP X 130 87 [(0, .ref x0), (3, .int x3), (4, .int x4), (5, .int x5), (6, .int x6), (7, .int x7)] [.int (nI 0), .int s0] h :=
  (sm_blk PP X 130 [0, 5, 11, 36, 70, 87, 118, 119, 152, 179] 99 70 _ _ _).trans rfl
set_option maxRecDepth 4000 in
theorem b130_87 (X : smX) (x0 : Nat) (x3 : Int32) (x4 : Int32) (x5 : Int32) (x6 : Int32) (x7 : Int32) (s0 : Int32) (s1 : Int32) (h : smH) : sm_E PP X 130 87 [(0, .ref x0), (3, .int x3), (4, .int x4), (5, .int x5), (6, .int x6), (7, .int x7)] [.int s0, .int s1] h =
    if s1 = s0 then (if x7 = (nI 63) then (sm_E PP X 130 118 [(0, .ref x0), (3, .int x3), (4, .int x4), (6, .int x6), (7, .int x7)] [.int x5] h) else sm_gR (sm_f h x0 8 7) fun v1 => sm_ld (sm_ar PP X h (.ref v1)) .int x6 fun v2 => if x7 = v2 then (sm_E PP X 130 118 [(0, .ref x0), (3, .int x3), (4, .int x4), (6, .int x6), (7, .int x7)] [.int x5] h) else sm_E PP X 130 119 [(0, .ref x0), (3, .int x3), (4, .int x4), (6, .int x6), (7, .int x7)] [.int (nI 1), .int x5] h) else some (some (.int (-nI 9)), h) :=
  (sm_blk PP X 130 [0, 5, 11, 36, 70, 87, 118, 119, 152, 179] 99 87 _ _ _).trans rfl
set_option maxRecDepth 4000 in
theorem b130_118 (X : smX) (x0 : Nat) (x3 : Int32) (x4 : Int32) (x6 : Int32) (x7 : Int32) (s0 : Int32) (h : smH) : sm_E PP X 130 118 [(0, .ref x0), (3, .int x3), (4, .int x4), (6, .int x6), (7, .int x7)] [.int s0] h =
    sm_E PP X 130 119 [(0, .ref x0), (3, .int x3), (4, .int x4), (6, .int x6), (7, .int x7)] [.int (nI 0), .int s0] h :=
  (sm_blk PP X 130 [0, 5, 11, 36, 70, 87, 118, 119, 152, 179] 99 118 _ _ _).trans rfl
set_option maxRecDepth 4000 in
theorem b130_119 (X : smX) (x0 : Nat) (x3 : Int32) (x4 : Int32) (x6 : Int32) (x7 : Int32) (s0 : Int32) (s1 : Int32) (h : smH) : sm_E PP X 130 119 [(0, .ref x0), (3, .int x3), (4, .int x4), (6, .int x6), (7, .int x7)] [.int s0, .int s1] h =
    if x7 = (nI 63) then (sm_E PP X 130 152 [(0, .ref x0), (3, .int x3), (5, .int (s1 + s0)), (6, .int x6)] [.int (nI 1), .int x4] h) else sm_gR (sm_f h x0 8 7) fun v1 => sm_ld (sm_ar PP X h (.ref v1)) .int x6 fun v2 => if x7 = v2 then (sm_E PP X 130 152 [(0, .ref x0), (3, .int x3), (5, .int (s1 + s0)), (6, .int x6)] [.int (nI 0), .int x4] h) else sm_E PP X 130 152 [(0, .ref x0), (3, .int x3), (5, .int (s1 + s0)), (6, .int x6)] [.int (nI 3), .int x4] h :=
  (sm_blk PP X 130 [0, 5, 11, 36, 70, 87, 118, 119, 152, 179] 99 119 _ _ _).trans rfl
set_option maxRecDepth 4000 in
theorem b130_152 (X : smX) (x0 : Nat) (x3 : Int32) (x5 : Int32) (x6 : Int32) (s0 : Int32) (s1 : Int32) (h : smH) : sm_E PP X 130 152 [(0, .ref x0), (3, .int x3), (5, .int x5), (6, .int x6)] [.int s0, .int s1] h =
    sm_E PP X 130 36 [(0, .ref x0), (3, .int x3), (4, .int (s1 + s0)), (5, .int x5), (6, .int (x6 + (nI 1)))] [] h :=
  (sm_blk PP X 130 [0, 5, 11, 36, 70, 87, 118, 119, 152, 179] 99 152 _ _ _).trans rfl
