/-! blocks, printed by wip/whole/mkblocks.py -/
/-! 131: WornSumsModel.areAlike(II)Z -/
theorem c131 (X : smX) (x0 : Int32) (x1 : Int32) (h : smH) : sm_C PP X 131 [.int x0, .int x1] h = sm_E PP X 131 0 [(0, .int x0), (1, .int x1)] [] h := rfl
set_option maxRecDepth 4000 in
theorem b131_0 (X : smX) (x0 : Int32) (x1 : Int32) (h : smH) : sm_E PP X 131 0 [(0, .int x0), (1, .int x1)] [] h =
    if x1 ≤ x0 then (sm_E PP X 131 10 [(0, .int x0), (1, .int x1)] [.int x1] h) else sm_E PP X 131 10 [(0, .int x0), (1, .int x1)] [.int x0] h :=
  (sm_blk PP X 131 [0, 10, 21, 79, 84] 47 0 _ _ _).trans rfl
set_option maxRecDepth 4000 in
theorem b131_10 (X : smX) (x0 : Int32) (x1 : Int32) (s0 : Int32) (h : smH) : sm_E PP X 131 10 [(0, .int x0), (1, .int x1)] [.int s0] h =
    if x1 ≤ x0 then (sm_E PP X 131 21 [(2, .int s0)] [.int x0] h) else sm_E PP X 131 21 [(2, .int s0)] [.int x1] h :=
  (sm_blk PP X 131 [0, 10, 21, 79, 84] 47 10 _ _ _).trans rfl
set_option maxRecDepth 4000 in
theorem b131_21 (X : smX) (x2 : Int32) (s0 : Int32) (h : smH) : sm_E PP X 131 21 [(2, .int x2)] [.int s0] h =
    if (((nI 10) * x2) + s0) = (nI 6) then (sm_E PP X 131 79 [] [] h) else if (((nI 10) * x2) + s0) = (nI 8) then (sm_E PP X 131 79 [] [] h) else if (((nI 10) * x2) + s0) = (nI 17) then (sm_E PP X 131 79 [] [] h) else if (((nI 10) * x2) + s0) = (nI 38) then (sm_E PP X 131 79 [] [] h) else if (((nI 10) * x2) + s0) = (nI 49) then (sm_E PP X 131 79 [] [] h) else if (((nI 10) * x2) + s0) = (nI 56) then (sm_E PP X 131 79 [] [] h) else if (((nI 10) * x2) + s0) = (nI 68) then (sm_E PP X 131 79 [] [] h) else sm_E PP X 131 84 [] [.int (nI 0)] h :=
  (sm_blk PP X 131 [0, 10, 21, 79, 84] 47 21 _ _ _).trans rfl
set_option maxRecDepth 4000 in
theorem b131_79 (X : smX) (h : smH) : sm_E PP X 131 79 [] [] h =
    sm_E PP X 131 84 [] [.int (nI 1)] h :=
  (sm_blk PP X 131 [0, 10, 21, 79, 84] 47 79 _ _ _).trans rfl
set_option maxRecDepth 4000 in
theorem b131_84 (X : smX) (s0 : Int32) (h : smH) : sm_E PP X 131 84 [] [.int s0] h =
    if narrow (sm_nk 1) (.int s0) = .int s0 then some (some (.int s0), h) else none :=
  (sm_blk PP X 131 [0, 10, 21, 79, 84] 47 84 _ _ _).trans rfl
/-! 132: WornSumsModel.doubtByFigures(II)I -/
theorem c132 (X : smX) (x0 : Nat) (x1 : Int32) (x2 : Int32) (h : smH) : sm_C PP X 132 [.ref x0, .int x1, .int x2] h = sm_E PP X 132 0 [(0, .ref x0), (1, .int x1), (2, .int x2)] [] h := rfl
set_option maxRecDepth 4000 in
theorem b132_0 (X : smX) (x0 : Nat) (x1 : Int32) (x2 : Int32) (h : smH) : sm_E PP X 132 0 [(0, .ref x0), (1, .int x1), (2, .int x2)] [] h =
    sm_cR (sm_C PP X 118 [.int x1, .int (nI 1)] h) fun w1 h2 => sm_E PP X 132 5 [(0, .ref x0), (2, .int x2)] (w1.toList ++ []) h2 :=
  (sm_blk PP X 132 [0, 5, 27, 53, 110, 116, 144] 85 0 _ _ _).trans rfl
set_option maxRecDepth 4000 in
theorem b132_5 (X : smX) (x0 : Nat) (x2 : Int32) (s0 : Int32) (h : smH) : sm_E PP X 132 5 [(0, .ref x0), (2, .int x2)] [.int s0] h =
    if (nI 10) ≤ x2 then (if (nI 100) ≤ x2 then (sm_E PP X 132 27 [(0, .ref x0), (2, .int x2), (3, .int s0)] [.int (nI 3)] h) else sm_E PP X 132 27 [(0, .ref x0), (2, .int x2), (3, .int s0)] [.int (nI 2)] h) else sm_E PP X 132 27 [(0, .ref x0), (2, .int x2), (3, .int s0)] [.int (nI 1)] h :=
  (sm_blk PP X 132 [0, 5, 27, 53, 110, 116, 144] 85 5 _ _ _).trans rfl
set_option maxRecDepth 4000 in
theorem b132_27 (X : smX) (x0 : Nat) (x2 : Int32) (x3 : Int32) (s0 : Int32) (h : smH) : sm_E PP X 132 27 [(0, .ref x0), (2, .int x2), (3, .int x3)] [.int s0] h =
    sm_gR (sm_f h x0 8 0) fun v1 => sm_ld (sm_ar PP X h (.ref v1)) .int x3 fun v2 => if s0 = v2 then (sm_E PP X 132 53 [(0, .ref x0), (3, .int x3), (5, .int (nI 0)), (6, .int x2), (7, .int s0)] [] h) else some (some (.int (-nI 9)), h) :=
  (sm_blk PP X 132 [0, 5, 27, 53, 110, 116, 144] 85 27 _ _ _).trans rfl
set_option maxRecDepth 4000 in
theorem b132_53 (X : smX) (x0 : Nat) (x3 : Int32) (x5 : Int32) (x6 : Int32) (x7 : Int32) (h : smH) : sm_E PP X 132 53 [(0, .ref x0), (3, .int x3), (5, .int x5), (6, .int x6), (7, .int x7)] [] h =
    if x7 ≤ 0 then (some (some (.int x5), h)) else if (nI 10) = 0 then none else sm_gR (sm_f h x0 8 0) fun v1 => sm_ld (sm_ar PP X h (.ref v1)) .int (x3 + x7) fun v2 => if (nI 10) = 0 then none else if v2 = (nI 63) then (sm_E PP X 132 116 [(0, .ref x0), (3, .int x3), (5, .int x5), (6, .int (x6 / (nI 10))), (7, .int x7), (8, .int (x6 - x6 / (nI 10) * (nI 10))), (9, .int v2)] [] h) else if (v2 - (nI 48)) = (x6 - x6 / (nI 10) * (nI 10)) then (sm_E PP X 132 116 [(0, .ref x0), (3, .int x3), (5, .int x5), (6, .int (x6 / (nI 10))), (7, .int x7), (8, .int (x6 - x6 / (nI 10) * (nI 10))), (9, .int v2)] [] h) else sm_cR (sm_C PP X 131 [.int (v2 - (nI 48)), .int (x6 - x6 / (nI 10) * (nI 10))] h) fun w3 h4 => sm_E PP X 132 110 [(0, .ref x0), (3, .int x3), (5, .int x5), (6, .int (x6 / (nI 10))), (7, .int x7), (8, .int (x6 - x6 / (nI 10) * (nI 10))), (9, .int v2)] (w3.toList ++ []) h4 :=
  (sm_blk PP X 132 [0, 5, 27, 53, 110, 116, 144] 85 53 _ _ _).trans rfl
set_option maxRecDepth 4000 in
theorem b132_116 (X : smX) (x0 : Nat) (x3 : Int32) (x5 : Int32) (x6 : Int32) (x7 : Int32) (x8 : Int32) (x9 : Int32) (h : smH) : sm_E PP X 132 116 [(0, .ref x0), (3, .int x3), (5, .int x5), (6, .int x6), (7, .int x7), (8, .int x8), (9, .int x9)] [] h =
    if x9 = (nI 63) then (sm_E PP X 132 144 [(0, .ref x0), (3, .int x3), (6, .int x6), (7, .int x7)] [.int (nI 1), .int x5] h) else if (x9 - (nI 48)) = x8 then (sm_E PP X 132 144 [(0, .ref x0), (3, .int x3), (6, .int x6), (7, .int x7)] [.int (nI 0), .int x5] h) else sm_E PP X 132 144 [(0, .ref x0), (3, .int x3), (6, .int x6), (7, .int x7)] [.int (nI 2), .int x5] h :=
  (sm_blk PP X 132 [0, 5, 27, 53, 110, 116, 144] 85 116 _ _ _).trans rfl
set_option maxRecDepth 4000 in
theorem b132_110 (X : smX) (x0 : Nat) (x3 : Int32) (x5 : Int32) (x6 : Int32) (x7 : Int32) (x8 : Int32) (x9 : Int32) (s0 : Int32) (h : smH) : sm_E PP X 132 110 [(0, .ref x0), (3, .int x3), (5, .int x5), (6, .int x6), (7, .int x7), (8, .int x8), (9, .int x9)] [.int s0] h =
    if s0 = 0 then (some (some (.int (-nI 9)), h)) else sm_E PP X 132 116 [(0, .ref x0), (3, .int x3), (5, .int x5), (6, .int x6), (7, .int x7), (8, .int x8), (9, .int x9)] [] h :=
  (sm_blk PP X 132 [0, 5, 27, 53, 110, 116, 144] 85 110 _ _ _).trans rfl
set_option maxRecDepth 4000 in
theorem b132_144 (X : smX) (x0 : Nat) (x3 : Int32) (x6 : Int32) (x7 : Int32) (s0 : Int32) (s1 : Int32) (h : smH) : sm_E PP X 132 144 [(0, .ref x0), (3, .int x3), (6, .int x6), (7, .int x7)] [.int s0, .int s1] h =
    sm_E PP X 132 53 [(0, .ref x0), (3, .int x3), (5, .int (s1 + s0)), (6, .int x6), (7, .int (x7 + (-nI 1)))] [] h :=
  (sm_blk PP X 132 [0, 5, 27, 53, 110, 116, 144] 85 144 _ _ _).trans rfl
/-! 133: WornSumsModel.manyBy(II)I -/
theorem c133 (X : smX) (x0 : Nat) (x1 : Int32) (x2 : Int32) (h : smH) : sm_C PP X 133 [.ref x0, .int x1, .int x2] h = sm_E PP X 133 0 [(0, .ref x0), (1, .int x1), (2, .int x2)] [] h := rfl
set_option maxRecDepth 4000 in
theorem b133_0 (X : smX) (x0 : Nat) (x1 : Int32) (x2 : Int32) (h : smH) : sm_E PP X 133 0 [(0, .ref x0), (1, .int x1), (2, .int x2)] [] h =
    sm_E PP X 133 5 [(0, .ref x0), (1, .int x1), (2, .int x2), (3, .int (nI 0)), (4, .int (nI 0))] [] h :=
  (sm_blk PP X 133 [0, 5, 25, 35, 45] 32 0 _ _ _).trans rfl
set_option maxRecDepth 4000 in
theorem b133_5 (X : smX) (x0 : Nat) (x1 : Int32) (x2 : Int32) (x3 : Int32) (x4 : Int32) (h : smH) : sm_E PP X 133 5 [(0, .ref x0), (1, .int x1), (2, .int x2), (3, .int x3), (4, .int x4)] [] h =
    if (nI 1000) ≤ x4 then (some (some (.int x3), h)) else if x2 = 0 then (sm_vc h x0 8 (sm_cR (sm_C PP X 130 [.ref x0, .int x1, .int x4] h) fun w1 h2 => sm_E PP X 133 25 [(0, .ref x0), (1, .int x1), (2, .int x2), (4, .int x4)] (w1.toList ++ [.int x3]) h2)) else sm_vc h x0 8 (sm_cR (sm_C PP X 132 [.ref x0, .int x1, .int x4] h) fun w3 h4 => sm_E PP X 133 35 [(0, .ref x0), (1, .int x1), (2, .int x2), (4, .int x4)] (w3.toList ++ [.int x3]) h4) :=
  (sm_blk PP X 133 [0, 5, 25, 35, 45] 32 5 _ _ _).trans rfl
set_option maxRecDepth 4000 in
theorem b133_25 (X : smX) (x0 : Nat) (x1 : Int32) (x2 : Int32) (x4 : Int32) (s0 : Int32) (s1 : Int32) (h : smH) : sm_E PP X 133 25 [(0, .ref x0), (1, .int x1), (2, .int x2), (4, .int x4)] [.int s0, .int s1] h =
    sm_E PP X 133 35 [(0, .ref x0), (1, .int x1), (2, .int x2), (4, .int x4)] [.int s0, .int s1] h :=
  (sm_blk PP X 133 [0, 5, 25, 35, 45] 32 25 _ _ _).trans rfl
set_option maxRecDepth 4000 in
theorem b133_35 (X : smX) (x0 : Nat) (x1 : Int32) (x2 : Int32) (x4 : Int32) (s0 : Int32) (s1 : Int32) (h : smH) : sm_E PP X 133 35 [(0, .ref x0), (1, .int x1), (2, .int x2), (4, .int x4)] [.int s0, .int s1] h =
    if s0 = (-nI 9) then (sm_E PP X 133 45 [(0, .ref x0), (1, .int x1), (2, .int x2), (4, .int x4)] [.int (nI 0), .int s1] h) else sm_E PP X 133 45 [(0, .ref x0), (1, .int x1), (2, .int x2), (4, .int x4)] [.int (nI 1), .int s1] h :=
  (sm_blk PP X 133 [0, 5, 25, 35, 45] 32 35 _ _ _).trans rfl
set_option maxRecDepth 4000 in
theorem b133_45 (X : smX) (x0 : Nat) (x1 : Int32) (x2 : Int32) (x4 : Int32) (s0 : Int32) (s1 : Int32) (h : smH) : sm_E PP X 133 45 [(0, .ref x0), (1, .int x1), (2, .int x2), (4, .int x4)] [.int s0, .int s1] h =
    sm_E PP X 133 5 [(0, .ref x0), (1, .int x1), (2, .int x2), (3, .int (s1 + s0)), (4, .int (x4 + (nI 1)))] [] h :=
  (sm_blk PP X 133 [0, 5, 25, 35, 45] 32 45 _ _ _).trans rfl
/-! 134: WornSumsModel.findAgreeing(I)V -/
theorem c134 (X : smX) (x0 : Nat) (x1 : Int32) (h : smH) : sm_C PP X 134 [.ref x0, .int x1] h = sm_E PP X 134 0 [(0, .ref x0), (1, .int x1)] [] h := rfl
set_option maxRecDepth 4000 in
theorem b134_0 (X : smX) (x0 : Nat) (x1 : Int32) (h : smH) : sm_E PP X 134 0 [(0, .ref x0), (1, .int x1)] [] h =
    sm_E PP X 134 4 [(0, .ref x0), (1, .int x1), (2, .int (nI 0)), (3, .int (nI 0))] [] h :=
  (sm_blk PP X 134 [0, 4, 17, 37, 79] 56 0 _ _ _).trans rfl
set_option maxRecDepth 4000 in
theorem b134_4 (X : smX) (x0 : Nat) (x1 : Int32) (x2 : Int32) (x3 : Int32) (h : smH) : sm_E PP X 134 4 [(0, .ref x0), (1, .int x1), (2, .int x2), (3, .int x3)] [] h =
    if (nI 1000) ≤ x3 then (sm_gR (sm_f h x0 8 11) fun v1 => sm_st h v1 .int x1 x2 fun h2 => some (none, h2)) else sm_vc h x0 8 (sm_cR (sm_C PP X 132 [.ref x0, .int x1, .int x3] h) fun w3 h4 => sm_E PP X 134 17 [(0, .ref x0), (1, .int x1), (2, .int x2), (3, .int x3)] (w3.toList ++ []) h4) :=
  (sm_blk PP X 134 [0, 4, 17, 37, 79] 56 4 _ _ _).trans rfl
set_option maxRecDepth 4000 in
theorem b134_17 (X : smX) (x0 : Nat) (x1 : Int32) (x2 : Int32) (x3 : Int32) (s0 : Int32) (h : smH) : sm_E PP X 134 17 [(0, .ref x0), (1, .int x1), (2, .int x2), (3, .int x3)] [.int s0] h =
    if s0 = (-nI 9) then (sm_E PP X 134 37 [(0, .ref x0), (1, .int x1), (2, .int x2), (3, .int x3), (4, .int s0)] [.int (-nI 9)] h) else sm_vc h x0 8 (sm_cR (sm_C PP X 130 [.ref x0, .int x1, .int x3] h) fun w1 h2 => sm_E PP X 134 37 [(0, .ref x0), (1, .int x1), (2, .int x2), (3, .int x3), (4, .int s0)] (w1.toList ++ []) h2) :=
  (sm_blk PP X 134 [0, 4, 17, 37, 79] 56 17 _ _ _).trans rfl
set_option maxRecDepth 4000 in
theorem b134_37 (X : smX) (x0 : Nat) (x1 : Int32) (x2 : Int32) (x3 : Int32) (x4 : Int32) (s0 : Int32) (h : smH) : sm_E PP X 134 37 [(0, .ref x0), (1, .int x1), (2, .int x2), (3, .int x3), (4, .int x4)] [.int s0] h =
    if s0 = (-nI 9) then (sm_E PP X 134 79 [(0, .ref x0), (1, .int x1), (2, .int x2), (3, .int x3)] [] h) else sm_gR (sm_f h x0 8 9) fun v1 => sm_st h v1 .int (((nI 1000) * x1) + x2) x3 fun h2 => sm_gR (sm_f h2 x0 8 10) fun v3 => sm_st h2 v3 .int (((nI 1000) * x1) + x2) (x4 + s0) fun h4 => sm_E PP X 134 79 [(0, .ref x0), (1, .int x1), (2, .int (x2 + (nI 1))), (3, .int x3)] [] h4 :=
  (sm_blk PP X 134 [0, 4, 17, 37, 79] 56 37 _ _ _).trans rfl
set_option maxRecDepth 4000 in
theorem b134_79 (X : smX) (x0 : Nat) (x1 : Int32) (x2 : Int32) (x3 : Int32) (h : smH) : sm_E PP X 134 79 [(0, .ref x0), (1, .int x1), (2, .int x2), (3, .int x3)] [] h =
    sm_E PP X 134 4 [(0, .ref x0), (1, .int x1), (2, .int x2), (3, .int (x3 + (nI 1)))] [] h :=
  (sm_blk PP X 134 [0, 4, 17, 37, 79] 56 79 _ _ _).trans rfl
/-! 135: WornSumsModel.entry(II)I -/
theorem c135 (X : smX) (x0 : Nat) (x1 : Int32) (x2 : Int32) (h : smH) : sm_C PP X 135 [.ref x0, .int x1, .int x2] h = sm_E PP X 135 0 [(0, .ref x0), (1, .int x1), (2, .int x2)] [] h := rfl
set_option maxRecDepth 4000 in
theorem b135_0 (X : smX) (x0 : Nat) (x1 : Int32) (x2 : Int32) (h : smH) : sm_E PP X 135 0 [(0, .ref x0), (1, .int x1), (2, .int x2)] [] h =
    sm_vc h x0 8 (sm_cR (sm_C PP X 116 [.ref x0, .int x1] h) fun w1 h2 => sm_E PP X 135 5 [(0, .ref x0), (1, .int x1), (2, .int x2)] (w1.toList ++ []) h2) :=
  (sm_blk PP X 135 [0, 5, 14, 17, 33, 45, 59, 65] 48 0 _ _ _).trans rfl
set_option maxRecDepth 4000 in
theorem b135_5 (X : smX) (x0 : Nat) (x1 : Int32) (x2 : Int32) (s0 : Int32) (h : smH) : sm_E PP X 135 5 [(0, .ref x0), (1, .int x1), (2, .int x2)] [.int s0] h =
    if s0 = 0 then (sm_E PP X 135 17 [] [] h) else sm_cR (sm_C PP X 107 [.int x2, .int (nI 0), .int (nI 5)] h) fun w1 h2 => sm_E PP X 135 14 [(0, .ref x0), (1, .int x1), (2, .int x2)] (w1.toList ++ []) h2 :=
  (sm_blk PP X 135 [0, 5, 14, 17, 33, 45, 59, 65] 48 5 _ _ _).trans rfl
set_option maxRecDepth 4000 in
theorem b135_17 (X : smX) (h : smH) : sm_E PP X 135 17 [] [] h =
    some (some (.int (-nI 1)), h) :=
  (sm_blk PP X 135 [0, 5, 14, 17, 33, 45, 59, 65] 48 17 _ _ _).trans rfl
set_option maxRecDepth 4000 in
theorem b135_14 (X : smX) (x0 : Nat) (x1 : Int32) (x2 : Int32) (s0 : Int32) (h : smH) : sm_E PP X 135 14 [(0, .ref x0), (1, .int x1), (2, .int x2)] [.int s0] h =
    if s0 = 0 then (sm_E PP X 135 17 [] [] h) else if (nI 2) ≤ x2 then (if x2 = (nI 2) then (sm_vc h x0 8 (sm_cR (sm_C PP X 121 [.ref x0, .int x1] h) fun w1 h2 => sm_E PP X 135 45 [] (w1.toList ++ []) h2)) else if (nI 5) ≤ x2 then (sm_vc h x0 8 (sm_cR (sm_C PP X 134 [.ref x0, .int x1] h) fun w3 h4 => sm_E PP X 135 65 [(0, .ref x0), (1, .int x1)] (w3.toList ++ []) h4)) else sm_vc h x0 8 (sm_cR (sm_C PP X 133 [.ref x0, .int x1, .int (x2 - (nI 3))] h) fun w5 h6 => sm_E PP X 135 59 [] (w5.toList ++ []) h6)) else sm_gR (sm_f h x0 8 0) fun v7 => sm_cR (sm_C PP X 118 [.int x1, .int x2] h) fun w8 h9 => sm_E PP X 135 33 [] (w8.toList ++ [.ref v7]) h9 :=
  (sm_blk PP X 135 [0, 5, 14, 17, 33, 45, 59, 65] 48 14 _ _ _).trans rfl
set_option maxRecDepth 4000 in
theorem b135_45 (X : smX) (s0 : Int32) (h : smH) : sm_E PP X 135 45 [] [.int s0] h =
    some (some (.int s0), h) :=
  (sm_blk PP X 135 [0, 5, 14, 17, 33, 45, 59, 65] 48 45 _ _ _).trans rfl
set_option maxRecDepth 4000 in
theorem b135_65 (X : smX) (x0 : Nat) (x1 : Int32) (h : smH) : sm_E PP X 135 65 [(0, .ref x0), (1, .int x1)] [] h =
    sm_gR (sm_f h x0 8 11) fun v1 => sm_ld (sm_ar PP X h (.ref v1)) .int x1 fun v2 => some (some (.int v2), h) :=
  (sm_blk PP X 135 [0, 5, 14, 17, 33, 45, 59, 65] 48 65 _ _ _).trans rfl
set_option maxRecDepth 4000 in
theorem b135_59 (X : smX) (s0 : Int32) (h : smH) : sm_E PP X 135 59 [] [.int s0] h =
    some (some (.int s0), h) :=
  (sm_blk PP X 135 [0, 5, 14, 17, 33, 45, 59, 65] 48 59 _ _ _).trans rfl
set_option maxRecDepth 4000 in
theorem b135_33 (X : smX) (s0 : Int32) (s1 : Nat) (h : smH) : sm_E PP X 135 33 [] [.int s0, .ref s1] h =
    sm_ld (sm_ar PP X h (.ref s1)) .int s0 fun v1 => some (some (.int v1), h) :=
  (sm_blk PP X 135 [0, 5, 14, 17, 33, 45, 59, 65] 48 33 _ _ _).trans rfl
/-! 136: WornSumsModel.sign(III)I -/
theorem c136 (X : smX) (x0 : Nat) (x1 : Int32) (x2 : Int32) (x3 : Int32) (h : smH) : sm_C PP X 136 [.ref x0, .int x1, .int x2, .int x3] h = sm_E PP X 136 0 [(0, .ref x0), (1, .int x1), (2, .int x2), (3, .int x3)] [] h := rfl
set_option maxRecDepth 4000 in
theorem b136_0 (X : smX) (x0 : Nat) (x1 : Int32) (x2 : Int32) (x3 : Int32) (h : smH) : sm_E PP X 136 0 [(0, .ref x0), (1, .int x1), (2, .int x2), (3, .int x3)] [] h =
    sm_vc h x0 8 (sm_cR (sm_C PP X 119 [.ref x0, .int x1, .int x2, .int x3] h) fun w1 h2 => sm_E PP X 136 7 [(0, .ref x0), (1, .int x1), (2, .int x2), (3, .int x3)] (w1.toList ++ []) h2) :=
  (sm_blk PP X 136 [0, 7, 19, 28] 21 0 _ _ _).trans rfl
set_option maxRecDepth 4000 in
theorem b136_7 (X : smX) (x0 : Nat) (x1 : Int32) (x2 : Int32) (x3 : Int32) (s0 : Int32) (h : smH) : sm_E PP X 136 7 [(0, .ref x0), (1, .int x1), (2, .int x2), (3, .int x3)] [.int s0] h =
    if s0 = 0 then (sm_E PP X 136 28 [] [.int (-nI 1)] h) else sm_gR (sm_f h x0 8 0) fun v1 => sm_cR (sm_C PP X 118 [.int x1, .int x2] h) fun w2 h3 => sm_E PP X 136 19 [(3, .int x3)] (w2.toList ++ [.ref v1]) h3 :=
  (sm_blk PP X 136 [0, 7, 19, 28] 21 7 _ _ _).trans rfl
set_option maxRecDepth 4000 in
theorem b136_28 (X : smX) (s0 : Int32) (h : smH) : sm_E PP X 136 28 [] [.int s0] h =
    some (some (.int s0), h) :=
  (sm_blk PP X 136 [0, 7, 19, 28] 21 28 _ _ _).trans rfl
set_option maxRecDepth 4000 in
theorem b136_19 (X : smX) (x3 : Int32) (s0 : Int32) (s1 : Nat) (h : smH) : sm_E PP X 136 19 [(3, .int x3)] [.int s0, .ref s1] h =
    sm_ld (sm_ar PP X h (.ref s1)) .int ((s0 + (nI 1)) + x3) fun v1 => sm_E PP X 136 28 [] [.int v1] h :=
  (sm_blk PP X 136 [0, 7, 19, 28] 21 19 _ _ _).trans rfl
/-! 137: WornSumsModel.doubt(III)I -/
theorem c137 (X : smX) (x0 : Nat) (x1 : Int32) (x2 : Int32) (x3 : Int32) (h : smH) : sm_C PP X 137 [.ref x0, .int x1, .int x2, .int x3] h = sm_E PP X 137 0 [(0, .ref x0), (1, .int x1), (2, .int x2), (3, .int x3)] [] h := rfl
set_option maxRecDepth 4000 in
theorem b137_0 (X : smX) (x0 : Nat) (x1 : Int32) (x2 : Int32) (x3 : Int32) (h : smH) : sm_E PP X 137 0 [(0, .ref x0), (1, .int x1), (2, .int x2), (3, .int x3)] [] h =
    sm_vc h x0 8 (sm_cR (sm_C PP X 116 [.ref x0, .int x1] h) fun w1 h2 => sm_E PP X 137 5 [(0, .ref x0), (1, .int x1), (2, .int x2), (3, .int x3)] (w1.toList ++ []) h2) :=
  (sm_blk PP X 137 [0, 5, 16, 25, 28, 40, 49] 30 0 _ _ _).trans rfl
set_option maxRecDepth 4000 in
theorem b137_5 (X : smX) (x0 : Nat) (x1 : Int32) (x2 : Int32) (x3 : Int32) (s0 : Int32) (h : smH) : sm_E PP X 137 5 [(0, .ref x0), (1, .int x1), (2, .int x2), (3, .int x3)] [.int s0] h =
    if s0 = 0 then (sm_E PP X 137 28 [] [] h) else sm_cR (sm_C PP X 107 [.int x2, .int (nI 0), .int (nI 999)] h) fun w1 h2 => sm_E PP X 137 16 [(0, .ref x0), (1, .int x1), (2, .int x2), (3, .int x3)] (w1.toList ++ []) h2 :=
  (sm_blk PP X 137 [0, 5, 16, 25, 28, 40, 49] 30 5 _ _ _).trans rfl
set_option maxRecDepth 4000 in
theorem b137_28 (X : smX) (h : smH) : sm_E PP X 137 28 [] [] h =
    some (some (.int (-nI 1)), h) :=
  (sm_blk PP X 137 [0, 5, 16, 25, 28, 40, 49] 30 28 _ _ _).trans rfl
set_option maxRecDepth 4000 in
theorem b137_16 (X : smX) (x0 : Nat) (x1 : Int32) (x2 : Int32) (x3 : Int32) (s0 : Int32) (h : smH) : sm_E PP X 137 16 [(0, .ref x0), (1, .int x1), (2, .int x2), (3, .int x3)] [.int s0] h =
    if s0 = 0 then (sm_E PP X 137 28 [] [] h) else sm_cR (sm_C PP X 107 [.int x3, .int (nI 0), .int (nI 1)] h) fun w1 h2 => sm_E PP X 137 25 [(0, .ref x0), (1, .int x1), (2, .int x2), (3, .int x3)] (w1.toList ++ []) h2 :=
  (sm_blk PP X 137 [0, 5, 16, 25, 28, 40, 49] 30 16 _ _ _).trans rfl
set_option maxRecDepth 4000 in
theorem b137_25 (X : smX) (x0 : Nat) (x1 : Int32) (x2 : Int32) (x3 : Int32) (s0 : Int32) (h : smH) : sm_E PP X 137 25 [(0, .ref x0), (1, .int x1), (2, .int x2), (3, .int x3)] [.int s0] h =
    if s0 = 0 then (sm_E PP X 137 28 [] [] h) else if x3 = 0 then (sm_vc h x0 8 (sm_cR (sm_C PP X 130 [.ref x0, .int x1, .int x2] h) fun w1 h2 => sm_E PP X 137 40 [] (w1.toList ++ []) h2)) else sm_vc h x0 8 (sm_cR (sm_C PP X 132 [.ref x0, .int x1, .int x2] h) fun w3 h4 => sm_E PP X 137 49 [] (w3.toList ++ []) h4) :=
  (sm_blk PP X 137 [0, 5, 16, 25, 28, 40, 49] 30 25 _ _ _).trans rfl
set_option maxRecDepth 4000 in
theorem b137_40 (X : smX) (s0 : Int32) (h : smH) : sm_E PP X 137 40 [] [.int s0] h =
    sm_E PP X 137 49 [] [.int s0] h :=
  (sm_blk PP X 137 [0, 5, 16, 25, 28, 40, 49] 30 40 _ _ _).trans rfl
set_option maxRecDepth 4000 in
theorem b137_49 (X : smX) (s0 : Int32) (h : smH) : sm_E PP X 137 49 [] [.int s0] h =
    some (some (.int s0), h) :=
  (sm_blk PP X 137 [0, 5, 16, 25, 28, 40, 49] 30 49 _ _ _).trans rfl
/-! 138: WornSumsModel.ranked(III)I -/
theorem c138 (X : smX) (x0 : Nat) (x1 : Int32) (x2 : Int32) (x3 : Int32) (h : smH) : sm_C PP X 138 [.ref x0, .int x1, .int x2, .int x3] h = sm_E PP X 138 0 [(0, .ref x0), (1, .int x1), (2, .int x2), (3, .int x3)] [] h := rfl
set_option maxRecDepth 4000 in
theorem b138_0 (X : smX) (x0 : Nat) (x1 : Int32) (x2 : Int32) (x3 : Int32) (h : smH) : sm_E PP X 138 0 [(0, .ref x0), (1, .int x1), (2, .int x2), (3, .int x3)] [] h =
    sm_vc h x0 8 (sm_cR (sm_C PP X 116 [.ref x0, .int x1] h) fun w1 h2 => sm_E PP X 138 5 [(0, .ref x0), (1, .int x1), (2, .int x2), (3, .int x3)] (w1.toList ++ []) h2) :=
  (sm_blk PP X 138 [0, 5, 18, 21, 28, 39, 60, 117, 121, 122, 158] 92 0 _ _ _).trans rfl
set_option maxRecDepth 4000 in
theorem b138_5 (X : smX) (x0 : Nat) (x1 : Int32) (x2 : Int32) (x3 : Int32) (s0 : Int32) (h : smH) : sm_E PP X 138 5 [(0, .ref x0), (1, .int x1), (2, .int x2), (3, .int x3)] [.int s0] h =
    if s0 = 0 then (sm_E PP X 138 21 [] [] h) else if x2 < 0 then (sm_E PP X 138 21 [] [] h) else sm_cR (sm_C PP X 107 [.int x3, .int (nI 0), .int (nI 1)] h) fun w1 h2 => sm_E PP X 138 18 [(0, .ref x0), (1, .int x1), (2, .int x2), (3, .int x3)] (w1.toList ++ []) h2 :=
  (sm_blk PP X 138 [0, 5, 18, 21, 28, 39, 60, 117, 121, 122, 158] 92 5 _ _ _).trans rfl
set_option maxRecDepth 4000 in
theorem b138_21 (X : smX) (h : smH) : sm_E PP X 138 21 [] [] h =
    some (some (.int (-nI 1)), h) :=
  (sm_blk PP X 138 [0, 5, 18, 21, 28, 39, 60, 117, 121, 122, 158] 92 21 _ _ _).trans rfl
set_option maxRecDepth 4000 in
theorem b138_18 (X : smX) (x0 : Nat) (x1 : Int32) (x2 : Int32) (x3 : Int32) (s0 : Int32) (h : smH) : sm_E PP X 138 18 [(0, .ref x0), (1, .int x1), (2, .int x2), (3, .int x3)] [.int s0] h =
    if s0 = 0 then (sm_E PP X 138 21 [] [] h) else sm_vc h x0 8 (sm_cR (sm_C PP X 134 [.ref x0, .int x1] h) fun w1 h2 => sm_E PP X 138 28 [(0, .ref x0), (1, .int x1), (2, .int x2), (3, .int x3)] (w1.toList ++ []) h2) :=
  (sm_blk PP X 138 [0, 5, 18, 21, 28, 39, 60, 117, 121, 122, 158] 92 18 _ _ _).trans rfl
set_option maxRecDepth 4000 in
theorem b138_28 (X : smX) (x0 : Nat) (x1 : Int32) (x2 : Int32) (x3 : Int32) (h : smH) : sm_E PP X 138 28 [(0, .ref x0), (1, .int x1), (2, .int x2), (3, .int x3)] [] h =
    sm_E PP X 138 39 [(0, .ref x0), (1, .int x1), (2, .int x2), (3, .int x3), (4, .int ((nI 1000) * x1)), (5, .int ((nI 1000) * x1))] [] h :=
  (sm_blk PP X 138 [0, 5, 18, 21, 28, 39, 60, 117, 121, 122, 158] 92 28 _ _ _).trans rfl
set_option maxRecDepth 4000 in
theorem b138_39 (X : smX) (x0 : Nat) (x1 : Int32) (x2 : Int32) (x3 : Int32) (x4 : Int32) (x5 : Int32) (h : smH) : sm_E PP X 138 39 [(0, .ref x0), (1, .int x1), (2, .int x2), (3, .int x3), (4, .int x4), (5, .int x5)] [] h =
    sm_gR (sm_f h x0 8 11) fun v1 => sm_ld (sm_ar PP X h (.ref v1)) .int x1 fun v2 => if (x4 + v2) ≤ x5 then (some (some (.int (-nI 9)), h)) else sm_E PP X 138 60 [(0, .ref x0), (1, .int x1), (2, .int x2), (3, .int x3), (4, .int x4), (5, .int x5), (6, .int (nI 0)), (7, .int x4)] [] h :=
  (sm_blk PP X 138 [0, 5, 18, 21, 28, 39, 60, 117, 121, 122, 158] 92 39 _ _ _).trans rfl
set_option maxRecDepth 4000 in
theorem b138_60 (X : smX) (x0 : Nat) (x1 : Int32) (x2 : Int32) (x3 : Int32) (x4 : Int32) (x5 : Int32) (x6 : Int32) (x7 : Int32) (h : smH) : sm_E PP X 138 60 [(0, .ref x0), (1, .int x1), (2, .int x2), (3, .int x3), (4, .int x4), (5, .int x5), (6, .int x6), (7, .int x7)] [] h =
    sm_gR (sm_f h x0 8 11) fun v1 => sm_ld (sm_ar PP X h (.ref v1)) .int x1 fun v2 => if (x4 + v2) ≤ x7 then (if x6 = x2 then (if x3 = 0 then (sm_gR (sm_f h x0 8 9) fun v3 => sm_ld (sm_ar PP X h (.ref v3)) .int x5 fun v4 => sm_E PP X 138 158 [] [.int v4] h) else sm_gR (sm_f h x0 8 10) fun v5 => sm_ld (sm_ar PP X h (.ref v5)) .int x5 fun v6 => sm_E PP X 138 158 [] [.int v6] h) else sm_E PP X 138 39 [(0, .ref x0), (1, .int x1), (2, .int x2), (3, .int x3), (4, .int x4), (5, .int (x5 + (nI 1)))] [] h) else sm_gR (sm_f h x0 8 10) fun v7 => sm_ld (sm_ar PP X h (.ref v7)) .int x7 fun v8 => sm_gR (sm_f h x0 8 10) fun v9 => sm_ld (sm_ar PP X h (.ref v9)) .int x5 fun v10 => if v8 < v10 then (sm_E PP X 138 117 [(0, .ref x0), (1, .int x1), (2, .int x2), (3, .int x3), (4, .int x4), (5, .int x5), (7, .int x7)] [.int x6] h) else sm_gR (sm_f h x0 8 10) fun v11 => sm_ld (sm_ar PP X h (.ref v11)) .int x7 fun v12 => sm_gR (sm_f h x0 8 10) fun v13 => sm_ld (sm_ar PP X h (.ref v13)) .int x5 fun v14 => if v12 = v14 then (if x5 ≤ x7 then (sm_E PP X 138 121 [(0, .ref x0), (1, .int x1), (2, .int x2), (3, .int x3), (4, .int x4), (5, .int x5), (7, .int x7)] [.int x6] h) else sm_E PP X 138 117 [(0, .ref x0), (1, .int x1), (2, .int x2), (3, .int x3), (4, .int x4), (5, .int x5), (7, .int x7)] [.int x6] h) else sm_E PP X 138 121 [(0, .ref x0), (1, .int x1), (2, .int x2), (3, .int x3), (4, .int x4), (5, .int x5), (7, .int x7)] [.int x6] h :=
  (sm_blk PP X 138 [0, 5, 18, 21, 28, 39, 60, 117, 121, 122, 158] 92 60 _ _ _).trans rfl
set_option maxRecDepth 4000 in
theorem b138_158 (X : smX) (s0 : Int32) (h : smH) : sm_E PP X 138 158 [] [.int s0] h =
    some (some (.int s0), h) :=
  (sm_blk PP X 138 [0, 5, 18, 21, 28, 39, 60, 117, 121, 122, 158] 92 158 _ _ _).trans rfl
set_option maxRecDepth 4000 in
theorem b138_117 (X : smX) (x0 : Nat) (x1 : Int32) (x2 : Int32) (x3 : Int32) (x4 : Int32) (x5 : Int32) (x7 : Int32) (s0 : Int32) (h : smH) : sm_E PP X 138 117 [(0, .ref x0), (1, .int x1), (2, .int x2), (3, .int x3), (4, .int x4), (5, .int x5), (7, .int x7)] [.int s0] h =
    sm_E PP X 138 122 [(0, .ref x0), (1, .int x1), (2, .int x2), (3, .int x3), (4, .int x4), (5, .int x5), (7, .int x7)] [.int (nI 1), .int s0] h :=
  (sm_blk PP X 138 [0, 5, 18, 21, 28, 39, 60, 117, 121, 122, 158] 92 117 _ _ _).trans rfl
set_option maxRecDepth 4000 in
theorem b138_121 (X : smX) (x0 : Nat) (x1 : Int32) (x2 : Int32) (x3 : Int32) (x4 : Int32) (x5 : Int32) (x7 : Int32) (s0 : Int32) (h : smH) : sm_E PP X 138 121 [(0, .ref x0), (1, .int x1), (2, .int x2), (3, .int x3), (4, .int x4), (5, .int x5), (7, .int x7)] [.int s0] h =
    sm_E PP X 138 122 [(0, .ref x0), (1, .int x1), (2, .int x2), (3, .int x3), (4, .int x4), (5, .int x5), (7, .int x7)] [.int (nI 0), .int s0] h :=
  (sm_blk PP X 138 [0, 5, 18, 21, 28, 39, 60, 117, 121, 122, 158] 92 121 _ _ _).trans rfl
set_option maxRecDepth 4000 in
theorem b138_122 (X : smX) (x0 : Nat) (x1 : Int32) (x2 : Int32) (x3 : Int32) (x4 : Int32) (x5 : Int32) (x7 : Int32) (s0 : Int32) (s1 : Int32) (h : smH) : sm_E PP X 138 122 [(0, .ref x0), (1, .int x1), (2, .int x2), (3, .int x3), (4, .int x4), (5, .int x5), (7, .int x7)] [.int s0, .int s1] h =
    sm_E PP X 138 60 [(0, .ref x0), (1, .int x1), (2, .int x2), (3, .int x3), (4, .int x4), (5, .int x5), (6, .int (s1 + s0)), (7, .int (x7 + (nI 1)))] [] h :=
  (sm_blk PP X 138 [0, 5, 18, 21, 28, 39, 60, 117, 121, 122, 158] 92 122 _ _ _).trans rfl
/-! 139: WornSumsModel.word(II)I -/
theorem c139 (X : smX) (x0 : Nat) (x1 : Int32) (x2 : Int32) (h : smH) : sm_C PP X 139 [.ref x0, .int x1, .int x2] h = sm_E PP X 139 0 [(0, .ref x0), (1, .int x1), (2, .int x2)] [] h := rfl
set_option maxRecDepth 4000 in
theorem b139_0 (X : smX) (x0 : Nat) (x1 : Int32) (x2 : Int32) (h : smH) : sm_E PP X 139 0 [(0, .ref x0), (1, .int x1), (2, .int x2)] [] h =
    sm_cR (sm_C PP X 107 [.int x1, .int (nI 0), .int (nI 999)] h) fun w1 h2 => sm_E PP X 139 8 [(0, .ref x0), (1, .int x1), (2, .int x2)] (w1.toList ++ []) h2 :=
  (sm_blk PP X 139 [0, 8, 16, 23, 54] 32 0 _ _ _).trans rfl
set_option maxRecDepth 4000 in
theorem b139_8 (X : smX) (x0 : Nat) (x1 : Int32) (x2 : Int32) (s0 : Int32) (h : smH) : sm_E PP X 139 8 [(0, .ref x0), (1, .int x1), (2, .int x2)] [.int s0] h =
    if s0 = 0 then (sm_E PP X 139 16 [] [] h) else if (-nI 1) ≤ x2 then (sm_vc h x0 8 (sm_cR (sm_C PP X 129 [.ref x0, .int x1] h) fun w1 h2 => sm_E PP X 139 23 [(0, .ref x0), (2, .int x2)] (w1.toList ++ []) h2)) else sm_E PP X 139 16 [] [] h :=
  (sm_blk PP X 139 [0, 8, 16, 23, 54] 32 8 _ _ _).trans rfl
set_option maxRecDepth 4000 in
theorem b139_16 (X : smX) (h : smH) : sm_E PP X 139 16 [] [] h =
    some (some (.int (-nI 1)), h) :=
  (sm_blk PP X 139 [0, 8, 16, 23, 54] 32 16 _ _ _).trans rfl
set_option maxRecDepth 4000 in
theorem b139_23 (X : smX) (x0 : Nat) (x2 : Int32) (h : smH) : sm_E PP X 139 23 [(0, .ref x0), (2, .int x2)] [] h =
    if x2 = (-nI 1) then (sm_gI (sm_f h x0 8 8) fun v1 => sm_E PP X 139 54 [] [.int v1] h) else sm_gI (sm_f h x0 8 8) fun v2 => if v2 ≤ x2 then (sm_E PP X 139 54 [] [.int (-nI 9)] h) else sm_gR (sm_f h x0 8 7) fun v3 => sm_ld (sm_ar PP X h (.ref v3)) .int x2 fun v4 => sm_E PP X 139 54 [] [.int v4] h :=
  (sm_blk PP X 139 [0, 8, 16, 23, 54] 32 23 _ _ _).trans rfl
set_option maxRecDepth 4000 in
theorem b139_54 (X : smX) (s0 : Int32) (h : smH) : sm_E PP X 139 54 [] [.int s0] h =
    some (some (.int s0), h) :=
  (sm_blk PP X 139 [0, 8, 16, 23, 54] 32 54 _ _ _).trans rfl
/-! 140: WornSumsModel.findAll()V -/
theorem c140 (X : smX) (x0 : Nat) (h : smH) : sm_C PP X 140 [.ref x0] h = sm_E PP X 140 0 [(0, .ref x0)] [] h := rfl
set_option maxRecDepth 4000 in
theorem b140_0 (X : smX) (x0 : Nat) (h : smH) : sm_E PP X 140 0 [(0, .ref x0)] [] h =
    sm_E PP X 140 2 [(0, .ref x0), (1, .int (nI 0))] [] h :=
  (sm_blk PP X 140 [0, 2, 17] 16 0 _ _ _).trans rfl
set_option maxRecDepth 4000 in
theorem b140_2 (X : smX) (x0 : Nat) (x1 : Int32) (h : smH) : sm_E PP X 140 2 [(0, .ref x0), (1, .int x1)] [] h =
    sm_gR (sm_f h x0 8 0) fun v1 => sm_ld (sm_ar PP X h (.ref v1)) .int (nI 0) fun v2 => if v2 ≤ x1 then (some (none, h)) else sm_vc h x0 8 (sm_cR (sm_C PP X 134 [.ref x0, .int x1] h) fun w3 h4 => sm_E PP X 140 17 [(0, .ref x0), (1, .int x1)] (w3.toList ++ []) h4) :=
  (sm_blk PP X 140 [0, 2, 17] 16 2 _ _ _).trans rfl
set_option maxRecDepth 4000 in
theorem b140_17 (X : smX) (x0 : Nat) (x1 : Int32) (h : smH) : sm_E PP X 140 17 [(0, .ref x0), (1, .int x1)] [] h =
    sm_E PP X 140 2 [(0, .ref x0), (1, .int (x1 + (nI 1)))] [] h :=
  (sm_blk PP X 140 [0, 2, 17] 16 17 _ _ _).trans rfl
/-! 141: WornSumsModel.findFree()I -/
theorem c141 (X : smX) (x0 : Nat) (h : smH) : sm_C PP X 141 [.ref x0] h = sm_E PP X 141 0 [(0, .ref x0)] [] h := rfl
set_option maxRecDepth 4000 in
theorem b141_0 (X : smX) (x0 : Nat) (h : smH) : sm_E PP X 141 0 [(0, .ref x0)] [] h =
    sm_E PP X 141 4 [(0, .ref x0), (1, .int (nI 0)), (2, .int (nI 0))] [] h :=
  (sm_blk PP X 141 [0, 4, 24, 73, 96, 125] 75 0 _ _ _).trans rfl
set_option maxRecDepth 4000 in
theorem b141_4 (X : smX) (x0 : Nat) (x1 : Int32) (x2 : Int32) (h : smH) : sm_E PP X 141 4 [(0, .ref x0), (1, .int x1), (2, .int x2)] [] h =
    sm_gR (sm_f h x0 8 0) fun v1 => sm_ld (sm_ar PP X h (.ref v1)) .int (nI 0) fun v2 => if v2 ≤ x2 then (if x1 < (nI 100000) then (sm_E PP X 141 125 [] [.int x1] h) else sm_E PP X 141 125 [] [.int (-nI 9)] h) else sm_E PP X 141 24 [(0, .ref x0), (1, .int x1), (2, .int x2), (3, .int (nI 100000)), (4, .int ((nI 1000) * x2))] [] h :=
  (sm_blk PP X 141 [0, 4, 24, 73, 96, 125] 75 4 _ _ _).trans rfl
set_option maxRecDepth 4000 in
theorem b141_125 (X : smX) (s0 : Int32) (h : smH) : sm_E PP X 141 125 [] [.int s0] h =
    some (some (.int s0), h) :=
  (sm_blk PP X 141 [0, 4, 24, 73, 96, 125] 75 125 _ _ _).trans rfl
set_option maxRecDepth 4000 in
theorem b141_24 (X : smX) (x0 : Nat) (x1 : Int32) (x2 : Int32) (x3 : Int32) (x4 : Int32) (h : smH) : sm_E PP X 141 24 [(0, .ref x0), (1, .int x1), (2, .int x2), (3, .int x3), (4, .int x4)] [] h =
    sm_gR (sm_f h x0 8 11) fun v1 => sm_ld (sm_ar PP X h (.ref v1)) .int x2 fun v2 => if (((nI 1000) * x2) + v2) ≤ x4 then (sm_E PP X 141 4 [(0, .ref x0), (1, .int (x1 + x3)), (2, .int (x2 + (nI 1)))] [] h) else sm_gR (sm_f h x0 8 14) fun v3 => sm_gR (sm_f h x0 8 10) fun v4 => sm_ld (sm_ar PP X h (.ref v4)) .int x4 fun v5 => if x3 ≤ v5 then (sm_gR (sm_f h x0 8 14) fun v6 => sm_ld (sm_ar PP X h (.ref v6)) .int x2 fun v7 => sm_E PP X 141 73 [(0, .ref x0), (1, .int x1), (2, .int x2), (3, .int x3), (4, .int x4)] [.int v7, .int x2, .ref v3] h) else sm_gR (sm_f h x0 8 9) fun v8 => sm_ld (sm_ar PP X h (.ref v8)) .int x4 fun v9 => sm_E PP X 141 73 [(0, .ref x0), (1, .int x1), (2, .int x2), (3, .int x3), (4, .int x4)] [.int v9, .int x2, .ref v3] h :=
  (sm_blk PP X 141 [0, 4, 24, 73, 96, 125] 75 24 _ _ _).trans rfl
set_option maxRecDepth 4000 in
theorem b141_73 (X : smX) (x0 : Nat) (x1 : Int32) (x2 : Int32) (x3 : Int32) (x4 : Int32) (s0 : Int32) (s1 : Int32) (s2 : Nat) (h : smH) : sm_E PP X 141 73 [(0, .ref x0), (1, .int x1), (2, .int x2), (3, .int x3), (4, .int x4)] [.int s0, .int s1, .ref s2] h =
    sm_st h s2 .int s1 s0 fun h1 => sm_gR (sm_f h1 x0 8 10) fun v2 => sm_ld (sm_ar PP X h1 (.ref v2)) .int x4 fun v3 => if x3 ≤ v3 then (sm_E PP X 141 96 [(0, .ref x0), (1, .int x1), (2, .int x2), (4, .int x4)] [.int x3] h1) else sm_gR (sm_f h1 x0 8 10) fun v4 => sm_ld (sm_ar PP X h1 (.ref v4)) .int x4 fun v5 => sm_E PP X 141 96 [(0, .ref x0), (1, .int x1), (2, .int x2), (4, .int x4)] [.int v5] h1 :=
  (sm_blk PP X 141 [0, 4, 24, 73, 96, 125] 75 73 _ _ _).trans rfl
set_option maxRecDepth 4000 in
theorem b141_96 (X : smX) (x0 : Nat) (x1 : Int32) (x2 : Int32) (x4 : Int32) (s0 : Int32) (h : smH) : sm_E PP X 141 96 [(0, .ref x0), (1, .int x1), (2, .int x2), (4, .int x4)] [.int s0] h =
    sm_E PP X 141 24 [(0, .ref x0), (1, .int x1), (2, .int x2), (3, .int s0), (4, .int (x4 + (nI 1)))] [] h :=
  (sm_blk PP X 141 [0, 4, 24, 73, 96, 125] 75 96 _ _ _).trans rfl
/-! 142: WornSumsModel.leastAt(II)I -/
theorem c142 (X : smX) (x0 : Nat) (x1 : Int32) (x2 : Int32) (h : smH) : sm_C PP X 142 [.ref x0, .int x1, .int x2] h = sm_E PP X 142 0 [(0, .ref x0), (1, .int x1), (2, .int x2)] [] h := rfl
set_option maxRecDepth 4000 in
theorem b142_0 (X : smX) (x0 : Nat) (x1 : Int32) (x2 : Int32) (h : smH) : sm_E PP X 142 0 [(0, .ref x0), (1, .int x1), (2, .int x2)] [] h =
    sm_gR (sm_f h x0 8 0) fun v1 => sm_ld (sm_ar PP X h (.ref v1)) .int (nI 0) fun v2 => if x1 = v2 then (if x2 = 0 then (sm_E PP X 142 20 [] [.int (nI 0)] h) else sm_E PP X 142 20 [] [.int (nI 100000)] h) else if (nI 3) ≤ x1 then (sm_gR (sm_f h x0 8 13) fun v3 => sm_ld (sm_ar PP X h (.ref v3)) .int (((nI 5995) * (x1 - (nI 3))) + x2) fun v4 => sm_E PP X 142 55 [] [.int v4] h) else sm_gR (sm_f h x0 8 12) fun v5 => sm_ld (sm_ar PP X h (.ref v5)) .int (((nI 5995) * x1) + x2) fun v6 => sm_E PP X 142 55 [] [.int v6] h :=
  (sm_blk PP X 142 [0, 20, 55] 37 0 _ _ _).trans rfl
set_option maxRecDepth 4000 in
theorem b142_20 (X : smX) (s0 : Int32) (h : smH) : sm_E PP X 142 20 [] [.int s0] h =
    some (some (.int s0), h) :=
  (sm_blk PP X 142 [0, 20, 55] 37 20 _ _ _).trans rfl
set_option maxRecDepth 4000 in
theorem b142_55 (X : smX) (s0 : Int32) (h : smH) : sm_E PP X 142 55 [] [.int s0] h =
    some (some (.int s0), h) :=
  (sm_blk PP X 142 [0, 20, 55] 37 55 _ _ _).trans rfl
/-! 143: WornSumsModel.layLeast(II)V -/
theorem c143 (X : smX) (x0 : Nat) (x1 : Int32) (x2 : Int32) (h : smH) : sm_C PP X 143 [.ref x0, .int x1, .int x2] h = sm_E PP X 143 0 [(0, .ref x0), (1, .int x1), (2, .int x2)] [] h := rfl
set_option maxRecDepth 4000 in
theorem b143_0 (X : smX) (x0 : Nat) (x1 : Int32) (x2 : Int32) (h : smH) : sm_E PP X 143 0 [(0, .ref x0), (1, .int x1), (2, .int x2)] [] h =
    sm_E PP X 143 14 [(0, .ref x0), (1, .int x1), (2, .int x2), (3, .int (nI 100000)), (4, .int ((nI 1000) * x1)), (5, .int ((nI 1000) * x1))] [] h :=
  (sm_blk PP X 143 [0, 14, 55, 77, 84, 120] 75 0 _ _ _).trans rfl
set_option maxRecDepth 4000 in
theorem b143_14 (X : smX) (x0 : Nat) (x1 : Int32) (x2 : Int32) (x3 : Int32) (x4 : Int32) (x5 : Int32) (h : smH) : sm_E PP X 143 14 [(0, .ref x0), (1, .int x1), (2, .int x2), (3, .int x3), (4, .int x4), (5, .int x5)] [] h =
    sm_gR (sm_f h x0 8 11) fun v1 => sm_ld (sm_ar PP X h (.ref v1)) .int x1 fun v2 => if (x4 + v2) ≤ x5 then (sm_E PP X 143 84 [(0, .ref x0), (1, .int x1), (2, .int x2), (3, .int x3)] [] h) else sm_gR (sm_f h x0 8 9) fun v3 => sm_ld (sm_ar PP X h (.ref v3)) .int x5 fun v4 => if x2 < v4 then (sm_E PP X 143 84 [(0, .ref x0), (1, .int x1), (2, .int x2), (3, .int x3)] [] h) else sm_gR (sm_f h x0 8 9) fun v5 => sm_ld (sm_ar PP X h (.ref v5)) .int x5 fun v6 => sm_vc h x0 8 (sm_cR (sm_C PP X 142 [.ref x0, .int (x1 + (nI 1)), .int (x2 - v6)] h) fun w7 h8 => sm_E PP X 143 55 [(0, .ref x0), (1, .int x1), (2, .int x2), (3, .int x3), (4, .int x4), (5, .int x5)] (w7.toList ++ []) h8) :=
  (sm_blk PP X 143 [0, 14, 55, 77, 84, 120] 75 14 _ _ _).trans rfl
set_option maxRecDepth 4000 in
theorem b143_84 (X : smX) (x0 : Nat) (x1 : Int32) (x2 : Int32) (x3 : Int32) (h : smH) : sm_E PP X 143 84 [(0, .ref x0), (1, .int x1), (2, .int x2), (3, .int x3)] [] h =
    if (nI 3) ≤ x1 then (sm_gR (sm_f h x0 8 13) fun v1 => sm_st h v1 .int (((nI 5995) * (x1 - (nI 3))) + x2) x3 fun h2 => sm_E PP X 143 120 [] [] h2) else sm_gR (sm_f h x0 8 12) fun v3 => sm_st h v3 .int (((nI 5995) * x1) + x2) x3 fun h4 => sm_E PP X 143 120 [] [] h4 :=
  (sm_blk PP X 143 [0, 14, 55, 77, 84, 120] 75 84 _ _ _).trans rfl
set_option maxRecDepth 4000 in
theorem b143_55 (X : smX) (x0 : Nat) (x1 : Int32) (x2 : Int32) (x3 : Int32) (x4 : Int32) (x5 : Int32) (s0 : Int32) (h : smH) : sm_E PP X 143 55 [(0, .ref x0), (1, .int x1), (2, .int x2), (3, .int x3), (4, .int x4), (5, .int x5)] [.int s0] h =
    sm_gR (sm_f h x0 8 10) fun v1 => sm_ld (sm_ar PP X h (.ref v1)) .int x5 fun v2 => if x3 ≤ (s0 + v2) then (sm_E PP X 143 77 [(0, .ref x0), (1, .int x1), (2, .int x2), (4, .int x4), (5, .int x5)] [.int x3] h) else sm_E PP X 143 77 [(0, .ref x0), (1, .int x1), (2, .int x2), (4, .int x4), (5, .int x5)] [.int (s0 + v2)] h :=
  (sm_blk PP X 143 [0, 14, 55, 77, 84, 120] 75 55 _ _ _).trans rfl
set_option maxRecDepth 4000 in
theorem b143_120 (X : smX) (h : smH) : sm_E PP X 143 120 [] [] h =
    some (none, h) :=
  (sm_blk PP X 143 [0, 14, 55, 77, 84, 120] 75 120 _ _ _).trans rfl
set_option maxRecDepth 4000 in
theorem b143_77 (X : smX) (x0 : Nat) (x1 : Int32) (x2 : Int32) (x4 : Int32) (x5 : Int32) (s0 : Int32) (h : smH) : sm_E PP X 143 77 [(0, .ref x0), (1, .int x1), (2, .int x2), (4, .int x4), (5, .int x5)] [.int s0] h =
    sm_E PP X 143 14 [(0, .ref x0), (1, .int x1), (2, .int x2), (3, .int s0), (4, .int x4), (5, .int (x5 + (nI 1)))] [] h :=
  (sm_blk PP X 143 [0, 14, 55, 77, 84, 120] 75 77 _ _ _).trans rfl
/-! 144: WornSumsModel.findSum()I -/
theorem c144 (X : smX) (x0 : Nat) (h : smH) : sm_C PP X 144 [.ref x0] h = sm_E PP X 144 0 [(0, .ref x0)] [] h := rfl
set_option maxRecDepth 4000 in
theorem b144_0 (X : smX) (x0 : Nat) (h : smH) : sm_E PP X 144 0 [(0, .ref x0)] [] h =
    sm_gR (sm_f h x0 8 0) fun v1 => sm_ld (sm_ar PP X h (.ref v1)) .int (nI 2) fun v2 => if v2 < (nI 5995) then (sm_gR (sm_f h x0 8 0) fun v3 => sm_ld (sm_ar PP X h (.ref v3)) .int (nI 0) fun v4 => sm_E PP X 144 26 [(0, .ref x0), (1, .int v2), (2, .int (v4 - (nI 1)))] [] h) else some (some (.int (-nI 9)), h) :=
  (sm_blk PP X 144 [0, 26, 32, 43, 61, 76, 95, 123, 138, 141] 106 0 _ _ _).trans rfl
set_option maxRecDepth 4000 in
theorem b144_26 (X : smX) (x0 : Nat) (x1 : Int32) (x2 : Int32) (h : smH) : sm_E PP X 144 26 [(0, .ref x0), (1, .int x1), (2, .int x2)] [] h =
    if x2 < 0 then (sm_vc h x0 8 (sm_cR (sm_C PP X 142 [.ref x0, .int (nI 0), .int x1] h) fun w1 h2 => sm_E PP X 144 61 [(0, .ref x0), (1, .int x1)] (w1.toList ++ []) h2)) else sm_E PP X 144 32 [(0, .ref x0), (1, .int x1), (2, .int x2), (3, .int (nI 0))] [] h :=
  (sm_blk PP X 144 [0, 26, 32, 43, 61, 76, 95, 123, 138, 141] 106 26 _ _ _).trans rfl
set_option maxRecDepth 4000 in
theorem b144_61 (X : smX) (x0 : Nat) (x1 : Int32) (s0 : Int32) (h : smH) : sm_E PP X 144 61 [(0, .ref x0), (1, .int x1)] [.int s0] h =
    if s0 < (nI 100000) then (sm_E PP X 144 76 [(0, .ref x0), (2, .int s0), (3, .int x1), (4, .int (nI 0))] [] h) else some (some (.int (-nI 9)), h) :=
  (sm_blk PP X 144 [0, 26, 32, 43, 61, 76, 95, 123, 138, 141] 106 61 _ _ _).trans rfl
set_option maxRecDepth 4000 in
theorem b144_32 (X : smX) (x0 : Nat) (x1 : Int32) (x2 : Int32) (x3 : Int32) (h : smH) : sm_E PP X 144 32 [(0, .ref x0), (1, .int x1), (2, .int x2), (3, .int x3)] [] h =
    if x1 < x3 then (sm_E PP X 144 26 [(0, .ref x0), (1, .int x1), (2, .int (x2 + (-nI 1)))] [] h) else sm_vc h x0 8 (sm_cR (sm_C PP X 143 [.ref x0, .int x2, .int x3] h) fun w1 h2 => sm_E PP X 144 43 [(0, .ref x0), (1, .int x1), (2, .int x2), (3, .int x3)] (w1.toList ++ []) h2) :=
  (sm_blk PP X 144 [0, 26, 32, 43, 61, 76, 95, 123, 138, 141] 106 32 _ _ _).trans rfl
set_option maxRecDepth 4000 in
theorem b144_76 (X : smX) (x0 : Nat) (x2 : Int32) (x3 : Int32) (x4 : Int32) (h : smH) : sm_E PP X 144 76 [(0, .ref x0), (2, .int x2), (3, .int x3), (4, .int x4)] [] h =
    sm_gR (sm_f h x0 8 0) fun v1 => sm_ld (sm_ar PP X h (.ref v1)) .int (nI 0) fun v2 => if v2 ≤ x4 then (some (some (.int x2), h)) else sm_E PP X 144 95 [(0, .ref x0), (2, .int x2), (3, .int x3), (4, .int x4), (5, .int ((nI 1000) * x4))] [] h :=
  (sm_blk PP X 144 [0, 26, 32, 43, 61, 76, 95, 123, 138, 141] 106 76 _ _ _).trans rfl
set_option maxRecDepth 4000 in
theorem b144_43 (X : smX) (x0 : Nat) (x1 : Int32) (x2 : Int32) (x3 : Int32) (h : smH) : sm_E PP X 144 43 [(0, .ref x0), (1, .int x1), (2, .int x2), (3, .int x3)] [] h =
    sm_E PP X 144 32 [(0, .ref x0), (1, .int x1), (2, .int x2), (3, .int (x3 + (nI 1)))] [] h :=
  (sm_blk PP X 144 [0, 26, 32, 43, 61, 76, 95, 123, 138, 141] 106 43 _ _ _).trans rfl
set_option maxRecDepth 4000 in
theorem b144_95 (X : smX) (x0 : Nat) (x2 : Int32) (x3 : Int32) (x4 : Int32) (x5 : Int32) (h : smH) : sm_E PP X 144 95 [(0, .ref x0), (2, .int x2), (3, .int x3), (4, .int x4), (5, .int x5)] [] h =
    sm_gR (sm_f h x0 8 9) fun v1 => sm_ld (sm_ar PP X h (.ref v1)) .int x5 fun v2 => if x3 < v2 then (sm_E PP X 144 141 [(0, .ref x0), (2, .int x2), (3, .int x3), (4, .int x4), (5, .int x5)] [] h) else sm_gR (sm_f h x0 8 9) fun v3 => sm_ld (sm_ar PP X h (.ref v3)) .int x5 fun v4 => sm_vc h x0 8 (sm_cR (sm_C PP X 142 [.ref x0, .int (x4 + (nI 1)), .int (x3 - v4)] h) fun w5 h6 => sm_E PP X 144 123 [(0, .ref x0), (2, .int x2), (3, .int x3), (4, .int x4), (5, .int x5)] (w5.toList ++ []) h6) :=
  (sm_blk PP X 144 [0, 26, 32, 43, 61, 76, 95, 123, 138, 141] 106 95 _ _ _).trans rfl
set_option maxRecDepth 4000 in
theorem b144_141 (X : smX) (x0 : Nat) (x2 : Int32) (x3 : Int32) (x4 : Int32) (x5 : Int32) (h : smH) : sm_E PP X 144 141 [(0, .ref x0), (2, .int x2), (3, .int x3), (4, .int x4), (5, .int x5)] [] h =
    sm_E PP X 144 95 [(0, .ref x0), (2, .int x2), (3, .int x3), (4, .int x4), (5, .int (x5 + (nI 1)))] [] h :=
  (sm_blk PP X 144 [0, 26, 32, 43, 61, 76, 95, 123, 138, 141] 106 141 _ _ _).trans rfl
set_option maxRecDepth 4000 in
theorem b144_123 (X : smX) (x0 : Nat) (x2 : Int32) (x3 : Int32) (x4 : Int32) (x5 : Int32) (s0 : Int32) (h : smH) : sm_E PP X 144 123 [(0, .ref x0), (2, .int x2), (3, .int x3), (4, .int x4), (5, .int x5)] [.int s0] h =
    sm_gR (sm_f h x0 8 10) fun v1 => sm_ld (sm_ar PP X h (.ref v1)) .int x5 fun v2 => sm_vc h x0 8 (sm_cR (sm_C PP X 142 [.ref x0, .int x4, .int x3] h) fun w3 h4 => sm_E PP X 144 138 [(0, .ref x0), (2, .int x2), (3, .int x3), (4, .int x4), (5, .int x5)] (w3.toList ++ [.int (s0 + v2)]) h4) :=
  (sm_blk PP X 144 [0, 26, 32, 43, 61, 76, 95, 123, 138, 141] 106 123 _ _ _).trans rfl
set_option maxRecDepth 4000 in
theorem b144_138 (X : smX) (x0 : Nat) (x2 : Int32) (x3 : Int32) (x4 : Int32) (x5 : Int32) (s0 : Int32) (s1 : Int32) (h : smH) : sm_E PP X 144 138 [(0, .ref x0), (2, .int x2), (3, .int x3), (4, .int x4), (5, .int x5)] [.int s0, .int s1] h =
    if s1 = s0 then (sm_gR (sm_f h x0 8 14) fun v1 => sm_gR (sm_f h x0 8 9) fun v2 => sm_ld (sm_ar PP X h (.ref v2)) .int x5 fun v3 => sm_st h v1 .int x4 v3 fun h4 => sm_gR (sm_f h4 x0 8 9) fun v5 => sm_ld (sm_ar PP X h4 (.ref v5)) .int x5 fun v6 => sm_E PP X 144 76 [(0, .ref x0), (2, .int x2), (3, .int (x3 - v6)), (4, .int (x4 + (nI 1)))] [] h4) else sm_E PP X 144 141 [(0, .ref x0), (2, .int x2), (3, .int x3), (4, .int x4), (5, .int x5)] [] h :=
  (sm_blk PP X 144 [0, 26, 32, 43, 61, 76, 95, 123, 138, 141] 106 138 _ _ _).trans rfl
/-! 145: WornSumsModel.findLeast()I -/
theorem c145 (X : smX) (x0 : Nat) (h : smH) : sm_C PP X 145 [.ref x0] h = sm_E PP X 145 0 [(0, .ref x0)] [] h := rfl
set_option maxRecDepth 4000 in
theorem b145_0 (X : smX) (x0 : Nat) (h : smH) : sm_E PP X 145 0 [(0, .ref x0)] [] h =
    sm_vc h x0 8 (sm_cR (sm_C PP X 140 [.ref x0] h) fun w1 h2 => sm_E PP X 145 4 [(0, .ref x0)] (w1.toList ++ []) h2) :=
  (sm_blk PP X 145 [0, 4, 19, 26] 16 0 _ _ _).trans rfl
set_option maxRecDepth 4000 in
theorem b145_4 (X : smX) (x0 : Nat) (h : smH) : sm_E PP X 145 4 [(0, .ref x0)] [] h =
    sm_gR (sm_f h x0 8 0) fun v1 => sm_ld (sm_ar PP X h (.ref v1)) .int (nI 2) fun v2 => if v2 = (-nI 9) then (sm_vc h x0 8 (sm_cR (sm_C PP X 141 [.ref x0] h) fun w3 h4 => sm_E PP X 145 19 [] (w3.toList ++ []) h4)) else sm_vc h x0 8 (sm_cR (sm_C PP X 144 [.ref x0] h) fun w5 h6 => sm_E PP X 145 26 [] (w5.toList ++ []) h6) :=
  (sm_blk PP X 145 [0, 4, 19, 26] 16 4 _ _ _).trans rfl
set_option maxRecDepth 4000 in
theorem b145_19 (X : smX) (s0 : Int32) (h : smH) : sm_E PP X 145 19 [] [.int s0] h =
    sm_E PP X 145 26 [] [.int s0] h :=
  (sm_blk PP X 145 [0, 4, 19, 26] 16 19 _ _ _).trans rfl
set_option maxRecDepth 4000 in
theorem b145_26 (X : smX) (s0 : Int32) (h : smH) : sm_E PP X 145 26 [] [.int s0] h =
    some (some (.int s0), h) :=
  (sm_blk PP X 145 [0, 4, 19, 26] 16 26 _ _ _).trans rfl
/-! 146: WornSumsModel.least(I)I -/
theorem c146 (X : smX) (x0 : Nat) (x1 : Int32) (h : smH) : sm_C PP X 146 [.ref x0, .int x1] h = sm_E PP X 146 0 [(0, .ref x0), (1, .int x1)] [] h := rfl
set_option maxRecDepth 4000 in
theorem b146_0 (X : smX) (x0 : Nat) (x1 : Int32) (h : smH) : sm_E PP X 146 0 [(0, .ref x0), (1, .int x1)] [] h =
    if x1 = (-nI 1) then (sm_E PP X 146 15 [(0, .ref x0), (1, .int x1)] [] h) else sm_vc h x0 8 (sm_cR (sm_C PP X 116 [.ref x0, .int x1] h) fun w1 h2 => sm_E PP X 146 10 [(0, .ref x0), (1, .int x1)] (w1.toList ++ []) h2) :=
  (sm_blk PP X 146 [0, 10, 15, 19, 31, 41] 27 0 _ _ _).trans rfl
set_option maxRecDepth 4000 in
theorem b146_15 (X : smX) (x0 : Nat) (x1 : Int32) (h : smH) : sm_E PP X 146 15 [(0, .ref x0), (1, .int x1)] [] h =
    sm_vc h x0 8 (sm_cR (sm_C PP X 145 [.ref x0] h) fun w1 h2 => sm_E PP X 146 19 [(0, .ref x0), (1, .int x1)] (w1.toList ++ []) h2) :=
  (sm_blk PP X 146 [0, 10, 15, 19, 31, 41] 27 15 _ _ _).trans rfl
set_option maxRecDepth 4000 in
theorem b146_10 (X : smX) (x0 : Nat) (x1 : Int32) (s0 : Int32) (h : smH) : sm_E PP X 146 10 [(0, .ref x0), (1, .int x1)] [.int s0] h =
    if s0 = 0 then (some (some (.int (-nI 1)), h)) else sm_E PP X 146 15 [(0, .ref x0), (1, .int x1)] [] h :=
  (sm_blk PP X 146 [0, 10, 15, 19, 31, 41] 27 10 _ _ _).trans rfl
set_option maxRecDepth 4000 in
theorem b146_19 (X : smX) (x0 : Nat) (x1 : Int32) (s0 : Int32) (h : smH) : sm_E PP X 146 19 [(0, .ref x0), (1, .int x1)] [.int s0] h =
    if s0 = (-nI 9) then (sm_E PP X 146 31 [(2, .int s0)] [] h) else if x1 = (-nI 1) then (sm_E PP X 146 31 [(2, .int s0)] [] h) else sm_gR (sm_f h x0 8 14) fun v1 => sm_ld (sm_ar PP X h (.ref v1)) .int x1 fun v2 => sm_E PP X 146 41 [] [.int v2] h :=
  (sm_blk PP X 146 [0, 10, 15, 19, 31, 41] 27 19 _ _ _).trans rfl
set_option maxRecDepth 4000 in
theorem b146_31 (X : smX) (x2 : Int32) (h : smH) : sm_E PP X 146 31 [(2, .int x2)] [] h =
    sm_E PP X 146 41 [] [.int x2] h :=
  (sm_blk PP X 146 [0, 10, 15, 19, 31, 41] 27 31 _ _ _).trans rfl
set_option maxRecDepth 4000 in
theorem b146_41 (X : smX) (s0 : Int32) (h : smH) : sm_E PP X 146 41 [] [.int s0] h =
    some (some (.int s0), h) :=
  (sm_blk PP X 146 [0, 10, 15, 19, 31, 41] 27 41 _ _ _).trans rfl
/-! 147: WornSumsModel.isAltered()Z -/
theorem c147 (X : smX) (x0 : Nat) (h : smH) : sm_C PP X 147 [.ref x0] h = sm_E PP X 147 0 [(0, .ref x0)] [] h := rfl
set_option maxRecDepth 4000 in
theorem b147_0 (X : smX) (x0 : Nat) (h : smH) : sm_E PP X 147 0 [(0, .ref x0)] [] h =
    sm_E PP X 147 4 [(0, .ref x0), (1, .int (nI 0)), (2, .int (nI 0))] [] h :=
  (sm_blk PP X 147 [0, 4, 27, 32] 27 0 _ _ _).trans rfl
set_option maxRecDepth 4000 in
theorem b147_4 (X : smX) (x0 : Nat) (x1 : Int32) (x2 : Int32) (h : smH) : sm_E PP X 147 4 [(0, .ref x0), (1, .int x1), (2, .int x2)] [] h =
    sm_gR (sm_f h x0 8 0) fun v1 => sm_ld (sm_ar PP X h (.ref v1)) .int (nI 0) fun v2 => if v2 ≤ x2 then (if narrow (sm_nk 1) (.int x1) = .int x1 then some (some (.int x1), h) else none) else if x1 = 0 then (sm_gR (sm_f h x0 8 11) fun v3 => sm_ld (sm_ar PP X h (.ref v3)) .int x2 fun v4 => if v4 = 0 then (sm_E PP X 147 27 [(0, .ref x0), (2, .int x2)] [] h) else sm_E PP X 147 32 [(0, .ref x0), (2, .int x2)] [.int (nI 0)] h) else sm_E PP X 147 27 [(0, .ref x0), (2, .int x2)] [] h :=
  (sm_blk PP X 147 [0, 4, 27, 32] 27 4 _ _ _).trans rfl
set_option maxRecDepth 4000 in
theorem b147_27 (X : smX) (x0 : Nat) (x2 : Int32) (h : smH) : sm_E PP X 147 27 [(0, .ref x0), (2, .int x2)] [] h =
    sm_E PP X 147 32 [(0, .ref x0), (2, .int x2)] [.int (nI 1)] h :=
  (sm_blk PP X 147 [0, 4, 27, 32] 27 27 _ _ _).trans rfl
set_option maxRecDepth 4000 in
theorem b147_32 (X : smX) (x0 : Nat) (x2 : Int32) (s0 : Int32) (h : smH) : sm_E PP X 147 32 [(0, .ref x0), (2, .int x2)] [.int s0] h =
    sm_E PP X 147 4 [(0, .ref x0), (1, .int s0), (2, .int (x2 + (nI 1)))] [] h :=
  (sm_blk PP X 147 [0, 4, 27, 32] 27 32 _ _ _).trans rfl
/-! 148: WornSumsModel.addOther(I)V -/
theorem c148 (X : smX) (x0 : Nat) (x1 : Int32) (h : smH) : sm_C PP X 148 [.ref x0, .int x1] h = sm_E PP X 148 0 [(0, .ref x0), (1, .int x1)] [] h := rfl
set_option maxRecDepth 4000 in
theorem b148_0 (X : smX) (x0 : Nat) (x1 : Int32) (h : smH) : sm_E PP X 148 0 [(0, .ref x0), (1, .int x1)] [] h =
    sm_E PP X 148 8 [(0, .ref x0), (1, .int x1), (2, .int ((nI 1000) * x1)), (3, .int (nI 0))] [] h :=
  (sm_blk PP X 148 [0, 8, 21, 72, 88] 66 0 _ _ _).trans rfl
set_option maxRecDepth 4000 in
theorem b148_8 (X : smX) (x0 : Nat) (x1 : Int32) (x2 : Int32) (x3 : Int32) (h : smH) : sm_E PP X 148 8 [(0, .ref x0), (1, .int x1), (2, .int x2), (3, .int x3)] [] h =
    if (nI 5995) ≤ x3 then (sm_E PP X 148 88 [(0, .ref x0), (3, .int (nI 0))] [] h) else sm_E PP X 148 21 [(0, .ref x0), (1, .int x1), (2, .int x2), (3, .int x3), (4, .int (nI 0)), (5, .int x2)] [] h :=
  (sm_blk PP X 148 [0, 8, 21, 72, 88] 66 8 _ _ _).trans rfl
set_option maxRecDepth 4000 in
theorem b148_88 (X : smX) (x0 : Nat) (x3 : Int32) (h : smH) : sm_E PP X 148 88 [(0, .ref x0), (3, .int x3)] [] h =
    if (nI 5995) ≤ x3 then (some (none, h)) else sm_gR (sm_f h x0 8 15) fun v1 => sm_gR (sm_f h x0 8 16) fun v2 => sm_ld (sm_ar PP X h (.ref v2)) .boolean x3 fun v3 => sm_st h v1 .boolean x3 (vp_nar .boolean v3) fun h4 => sm_E PP X 148 88 [(0, .ref x0), (3, .int (x3 + (nI 1)))] [] h4 :=
  (sm_blk PP X 148 [0, 8, 21, 72, 88] 66 88 _ _ _).trans rfl
set_option maxRecDepth 4000 in
theorem b148_21 (X : smX) (x0 : Nat) (x1 : Int32) (x2 : Int32) (x3 : Int32) (x4 : Int32) (x5 : Int32) (h : smH) : sm_E PP X 148 21 [(0, .ref x0), (1, .int x1), (2, .int x2), (3, .int x3), (4, .int x4), (5, .int x5)] [] h =
    sm_gR (sm_f h x0 8 11) fun v1 => sm_ld (sm_ar PP X h (.ref v1)) .int x1 fun v2 => if (x2 + v2) ≤ x5 then (sm_E PP X 148 72 [(0, .ref x0), (1, .int x1), (2, .int x2), (3, .int x3), (4, .int x4)] [] h) else sm_gR (sm_f h x0 8 9) fun v3 => sm_ld (sm_ar PP X h (.ref v3)) .int x5 fun v4 => if x3 < v4 then (sm_E PP X 148 72 [(0, .ref x0), (1, .int x1), (2, .int x2), (3, .int x3), (4, .int x4)] [] h) else if x4 = 0 then (sm_gR (sm_f h x0 8 15) fun v5 => sm_gR (sm_f h x0 8 9) fun v6 => sm_ld (sm_ar PP X h (.ref v6)) .int x5 fun v7 => sm_ld (sm_ar PP X h (.ref v5)) .boolean (x3 - v7) fun v8 => sm_E PP X 148 21 [(0, .ref x0), (1, .int x1), (2, .int x2), (3, .int x3), (4, .int v8), (5, .int (x5 + (nI 1)))] [] h) else sm_E PP X 148 72 [(0, .ref x0), (1, .int x1), (2, .int x2), (3, .int x3), (4, .int x4)] [] h :=
  (sm_blk PP X 148 [0, 8, 21, 72, 88] 66 21 _ _ _).trans rfl
set_option maxRecDepth 4000 in
theorem b148_72 (X : smX) (x0 : Nat) (x1 : Int32) (x2 : Int32) (x3 : Int32) (x4 : Int32) (h : smH) : sm_E PP X 148 72 [(0, .ref x0), (1, .int x1), (2, .int x2), (3, .int x3), (4, .int x4)] [] h =
    sm_gR (sm_f h x0 8 16) fun v1 => sm_st h v1 .boolean x3 (vp_nar .boolean x4) fun h2 => sm_E PP X 148 8 [(0, .ref x0), (1, .int x1), (2, .int x2), (3, .int (x3 + (nI 1)))] [] h2 :=
  (sm_blk PP X 148 [0, 8, 21, 72, 88] 66 72 _ _ _).trans rfl
/-! 149: WornSumsModel.findOthers(I)V -/
theorem c149 (X : smX) (x0 : Nat) (x1 : Int32) (h : smH) : sm_C PP X 149 [.ref x0, .int x1] h = sm_E PP X 149 0 [(0, .ref x0), (1, .int x1)] [] h := rfl
set_option maxRecDepth 4000 in
theorem b149_0 (X : smX) (x0 : Nat) (x1 : Int32) (h : smH) : sm_E PP X 149 0 [(0, .ref x0), (1, .int x1)] [] h =
    sm_E PP X 149 2 [(0, .ref x0), (1, .int x1), (2, .int (nI 0))] [] h :=
  (sm_blk PP X 149 [0, 2, 23, 32, 52] 35 0 _ _ _).trans rfl
set_option maxRecDepth 4000 in
theorem b149_2 (X : smX) (x0 : Nat) (x1 : Int32) (x2 : Int32) (h : smH) : sm_E PP X 149 2 [(0, .ref x0), (1, .int x1), (2, .int x2)] [] h =
    if (nI 5995) ≤ x2 then (sm_E PP X 149 32 [(0, .ref x0), (1, .int x1), (2, .int (nI 0))] [] h) else sm_gR (sm_f h x0 8 15) fun v1 => if x2 = 0 then (sm_E PP X 149 23 [(0, .ref x0), (1, .int x1), (2, .int x2)] [.int (nI 1), .int x2, .ref v1] h) else sm_E PP X 149 23 [(0, .ref x0), (1, .int x1), (2, .int x2)] [.int (nI 0), .int x2, .ref v1] h :=
  (sm_blk PP X 149 [0, 2, 23, 32, 52] 35 2 _ _ _).trans rfl
set_option maxRecDepth 4000 in
theorem b149_32 (X : smX) (x0 : Nat) (x1 : Int32) (x2 : Int32) (h : smH) : sm_E PP X 149 32 [(0, .ref x0), (1, .int x1), (2, .int x2)] [] h =
    sm_gR (sm_f h x0 8 0) fun v1 => sm_ld (sm_ar PP X h (.ref v1)) .int (nI 0) fun v2 => if v2 ≤ x2 then (some (none, h)) else if x2 = x1 then (sm_E PP X 149 52 [(0, .ref x0), (1, .int x1), (2, .int x2)] [] h) else sm_vc h x0 8 (sm_cR (sm_C PP X 148 [.ref x0, .int x2] h) fun w3 h4 => sm_E PP X 149 52 [(0, .ref x0), (1, .int x1), (2, .int x2)] (w3.toList ++ []) h4) :=
  (sm_blk PP X 149 [0, 2, 23, 32, 52] 35 32 _ _ _).trans rfl
set_option maxRecDepth 4000 in
theorem b149_23 (X : smX) (x0 : Nat) (x1 : Int32) (x2 : Int32) (s0 : Int32) (s1 : Int32) (s2 : Nat) (h : smH) : sm_E PP X 149 23 [(0, .ref x0), (1, .int x1), (2, .int x2)] [.int s0, .int s1, .ref s2] h =
    sm_st h s2 .boolean s1 (vp_nar .boolean s0) fun h1 => sm_E PP X 149 2 [(0, .ref x0), (1, .int x1), (2, .int (x2 + (nI 1)))] [] h1 :=
  (sm_blk PP X 149 [0, 2, 23, 32, 52] 35 23 _ _ _).trans rfl
set_option maxRecDepth 4000 in
theorem b149_52 (X : smX) (x0 : Nat) (x1 : Int32) (x2 : Int32) (h : smH) : sm_E PP X 149 52 [(0, .ref x0), (1, .int x1), (2, .int x2)] [] h =
    sm_E PP X 149 32 [(0, .ref x0), (1, .int x1), (2, .int (x2 + (nI 1)))] [] h :=
  (sm_blk PP X 149 [0, 2, 23, 32, 52] 35 52 _ _ _).trans rfl
/-! 150: WornSumsModel.sure(I)I -/
theorem c150 (X : smX) (x0 : Nat) (x1 : Int32) (h : smH) : sm_C PP X 150 [.ref x0, .int x1] h = sm_E PP X 150 0 [(0, .ref x0), (1, .int x1)] [] h := rfl
set_option maxRecDepth 4000 in
theorem b150_0 (X : smX) (x0 : Nat) (x1 : Int32) (h : smH) : sm_E PP X 150 0 [(0, .ref x0), (1, .int x1)] [] h =
    sm_vc h x0 8 (sm_cR (sm_C PP X 116 [.ref x0, .int x1] h) fun w1 h2 => sm_E PP X 150 5 [(0, .ref x0), (1, .int x1)] (w1.toList ++ []) h2) :=
  (sm_blk PP X 150 [0, 5, 14, 37, 50, 61, 67, 77, 110, 135, 154] 87 0 _ _ _).trans rfl
set_option maxRecDepth 4000 in
theorem b150_5 (X : smX) (x0 : Nat) (x1 : Int32) (s0 : Int32) (h : smH) : sm_E PP X 150 5 [(0, .ref x0), (1, .int x1)] [.int s0] h =
    if s0 = 0 then (some (some (.int (-nI 1)), h)) else sm_vc h x0 8 (sm_cR (sm_C PP X 140 [.ref x0] h) fun w1 h2 => sm_E PP X 150 14 [(0, .ref x0), (1, .int x1)] (w1.toList ++ []) h2) :=
  (sm_blk PP X 150 [0, 5, 14, 37, 50, 61, 67, 77, 110, 135, 154] 87 5 _ _ _).trans rfl
set_option maxRecDepth 4000 in
theorem b150_14 (X : smX) (x0 : Nat) (x1 : Int32) (h : smH) : sm_E PP X 150 14 [(0, .ref x0), (1, .int x1)] [] h =
    sm_gR (sm_f h x0 8 0) fun v1 => sm_ld (sm_ar PP X h (.ref v1)) .int (nI 2) fun v2 => if v2 = (-nI 9) then (sm_vc h x0 8 (sm_cR (sm_C PP X 147 [.ref x0] h) fun w3 h4 => sm_E PP X 150 37 [(0, .ref x0), (1, .int x1), (2, .int ((nI 1000) * x1))] (w3.toList ++ []) h4)) else sm_vc h x0 8 (sm_cR (sm_C PP X 149 [.ref x0, .int x1] h) fun w5 h6 => sm_E PP X 150 67 [(0, .ref x0), (1, .int x1), (2, .int ((nI 1000) * x1)), (3, .int v2)] (w5.toList ++ []) h6) :=
  (sm_blk PP X 150 [0, 5, 14, 37, 50, 61, 67, 77, 110, 135, 154] 87 14 _ _ _).trans rfl
set_option maxRecDepth 4000 in
theorem b150_37 (X : smX) (x0 : Nat) (x1 : Int32) (x2 : Int32) (s0 : Int32) (h : smH) : sm_E PP X 150 37 [(0, .ref x0), (1, .int x1), (2, .int x2)] [.int s0] h =
    if s0 = 0 then (sm_gR (sm_f h x0 8 11) fun v1 => sm_ld (sm_ar PP X h (.ref v1)) .int x1 fun v2 => if v2 = (nI 1) then (sm_gR (sm_f h x0 8 9) fun v3 => sm_ld (sm_ar PP X h (.ref v3)) .int x2 fun v4 => sm_E PP X 150 61 [] [.int v4] h) else sm_E PP X 150 50 [] [] h) else sm_E PP X 150 50 [] [] h :=
  (sm_blk PP X 150 [0, 5, 14, 37, 50, 61, 67, 77, 110, 135, 154] 87 37 _ _ _).trans rfl
set_option maxRecDepth 4000 in
theorem b150_67 (X : smX) (x0 : Nat) (x1 : Int32) (x2 : Int32) (x3 : Int32) (h : smH) : sm_E PP X 150 67 [(0, .ref x0), (1, .int x1), (2, .int x2), (3, .int x3)] [] h =
    sm_E PP X 150 77 [(0, .ref x0), (1, .int x1), (2, .int x2), (3, .int x3), (4, .int (nI 0)), (5, .int (-nI 9)), (6, .int x2)] [] h :=
  (sm_blk PP X 150 [0, 5, 14, 37, 50, 61, 67, 77, 110, 135, 154] 87 67 _ _ _).trans rfl
set_option maxRecDepth 4000 in
theorem b150_61 (X : smX) (s0 : Int32) (h : smH) : sm_E PP X 150 61 [] [.int s0] h =
    some (some (.int s0), h) :=
  (sm_blk PP X 150 [0, 5, 14, 37, 50, 61, 67, 77, 110, 135, 154] 87 61 _ _ _).trans rfl
set_option maxRecDepth 4000 in
theorem b150_50 (X : smX) (h : smH) : sm_E PP X 150 50 [] [] h =
    sm_E PP X 150 61 [] [.int (-nI 9)] h :=
  (sm_blk PP X 150 [0, 5, 14, 37, 50, 61, 67, 77, 110, 135, 154] 87 50 _ _ _).trans rfl
set_option maxRecDepth 4000 in
theorem b150_77 (X : smX) (x0 : Nat) (x1 : Int32) (x2 : Int32) (x3 : Int32) (x4 : Int32) (x5 : Int32) (x6 : Int32) (h : smH) : sm_E PP X 150 77 [(0, .ref x0), (1, .int x1), (2, .int x2), (3, .int x3), (4, .int x4), (5, .int x5), (6, .int x6)] [] h =
    sm_gR (sm_f h x0 8 11) fun v1 => sm_ld (sm_ar PP X h (.ref v1)) .int x1 fun v2 => if (x2 + v2) ≤ x6 then (if x4 = (nI 1) then (sm_E PP X 150 154 [] [.int x5] h) else sm_E PP X 150 154 [] [.int (-nI 9)] h) else sm_gR (sm_f h x0 8 9) fun v3 => sm_ld (sm_ar PP X h (.ref v3)) .int x6 fun v4 => sm_cR (sm_C PP X 107 [.int (x3 - v4), .int (nI 0), .int (nI 5994)] h) fun w5 h6 => sm_E PP X 150 110 [(0, .ref x0), (1, .int x1), (2, .int x2), (3, .int x3), (4, .int x4), (5, .int x5), (6, .int x6), (7, .int (x3 - v4))] (w5.toList ++ []) h6 :=
  (sm_blk PP X 150 [0, 5, 14, 37, 50, 61, 67, 77, 110, 135, 154] 87 77 _ _ _).trans rfl
set_option maxRecDepth 4000 in
theorem b150_154 (X : smX) (s0 : Int32) (h : smH) : sm_E PP X 150 154 [] [.int s0] h =
    some (some (.int s0), h) :=
  (sm_blk PP X 150 [0, 5, 14, 37, 50, 61, 67, 77, 110, 135, 154] 87 154 _ _ _).trans rfl
set_option maxRecDepth 4000 in
theorem b150_110 (X : smX) (x0 : Nat) (x1 : Int32) (x2 : Int32) (x3 : Int32) (x4 : Int32) (x5 : Int32) (x6 : Int32) (x7 : Int32) (s0 : Int32) (h : smH) : sm_E PP X 150 110 [(0, .ref x0), (1, .int x1), (2, .int x2), (3, .int x3), (4, .int x4), (5, .int x5), (6, .int x6), (7, .int x7)] [.int s0] h =
    if s0 = 0 then (sm_E PP X 150 135 [(0, .ref x0), (1, .int x1), (2, .int x2), (3, .int x3), (4, .int x4), (5, .int x5), (6, .int x6)] [] h) else sm_gR (sm_f h x0 8 15) fun v1 => sm_ld (sm_ar PP X h (.ref v1)) .boolean x7 fun v2 => if v2 = 0 then (sm_E PP X 150 135 [(0, .ref x0), (1, .int x1), (2, .int x2), (3, .int x3), (4, .int x4), (5, .int x5), (6, .int x6)] [] h) else sm_gR (sm_f h x0 8 9) fun v3 => sm_ld (sm_ar PP X h (.ref v3)) .int x6 fun v4 => sm_E PP X 150 135 [(0, .ref x0), (1, .int x1), (2, .int x2), (3, .int x3), (4, .int (x4 + (nI 1))), (5, .int v4), (6, .int x6)] [] h :=
  (sm_blk PP X 150 [0, 5, 14, 37, 50, 61, 67, 77, 110, 135, 154] 87 110 _ _ _).trans rfl
set_option maxRecDepth 4000 in
theorem b150_135 (X : smX) (x0 : Nat) (x1 : Int32) (x2 : Int32) (x3 : Int32) (x4 : Int32) (x5 : Int32) (x6 : Int32) (h : smH) : sm_E PP X 150 135 [(0, .ref x0), (1, .int x1), (2, .int x2), (3, .int x3), (4, .int x4), (5, .int x5), (6, .int x6)] [] h =
    sm_E PP X 150 77 [(0, .ref x0), (1, .int x1), (2, .int x2), (3, .int x3), (4, .int x4), (5, .int x5), (6, .int (x6 + (nI 1)))] [] h :=
  (sm_blk PP X 150 [0, 5, 14, 37, 50, 61, 67, 77, 110, 135, 154] 87 135 _ _ _).trans rfl
/-! 151: WornSumsModel.mostAt(II)I -/
theorem c151 (X : smX) (x0 : Nat) (x1 : Int32) (x2 : Int32) (h : smH) : sm_C PP X 151 [.ref x0, .int x1, .int x2] h = sm_E PP X 151 0 [(0, .ref x0), (1, .int x1), (2, .int x2)] [] h := rfl
set_option maxRecDepth 4000 in
theorem b151_0 (X : smX) (x0 : Nat) (x1 : Int32) (x2 : Int32) (h : smH) : sm_E PP X 151 0 [(0, .ref x0), (1, .int x1), (2, .int x2)] [] h =
    sm_E PP X 151 2 [(0, .ref x0), (1, .int x1), (2, .int x2), (3, .int (nI 0))] [] h :=
  (sm_blk PP X 151 [0, 2, 30, 58, 102] 68 0 _ _ _).trans rfl
set_option maxRecDepth 4000 in
theorem b151_2 (X : smX) (x0 : Nat) (x1 : Int32) (x2 : Int32) (x3 : Int32) (h : smH) : sm_E PP X 151 2 [(0, .ref x0), (1, .int x1), (2, .int x2), (3, .int x3)] [] h =
    if (nI 26) ≤ x3 then (sm_E PP X 151 30 [(0, .ref x0), (1, .int x1), (2, .int x2), (3, .int (nI 0)), (4, .int ((nI 1000) * x1))] [] h) else sm_gR (sm_f h x0 8 17) fun v1 => sm_st h v1 .int x3 (nI 0) fun h2 => sm_E PP X 151 2 [(0, .ref x0), (1, .int x1), (2, .int x2), (3, .int (x3 + (nI 1)))] [] h2 :=
  (sm_blk PP X 151 [0, 2, 30, 58, 102] 68 2 _ _ _).trans rfl
set_option maxRecDepth 4000 in
theorem b151_30 (X : smX) (x0 : Nat) (x1 : Int32) (x2 : Int32) (x3 : Int32) (x4 : Int32) (h : smH) : sm_E PP X 151 30 [(0, .ref x0), (1, .int x1), (2, .int x2), (3, .int x3), (4, .int x4)] [] h =
    sm_gR (sm_f h x0 8 11) fun v1 => sm_ld (sm_ar PP X h (.ref v1)) .int x1 fun v2 => if (((nI 1000) * x1) + v2) ≤ x4 then (some (some (.int x3), h)) else sm_gR (sm_f h x0 8 9) fun v3 => sm_ld (sm_ar PP X h (.ref v3)) .int x4 fun v4 => sm_vc h x0 8 (sm_cR (sm_C PP X 129 [.ref x0, .int v4] h) fun w5 h6 => sm_E PP X 151 58 [(0, .ref x0), (1, .int x1), (2, .int x2), (3, .int x3), (4, .int x4)] (w5.toList ++ []) h6) :=
  (sm_blk PP X 151 [0, 2, 30, 58, 102] 68 30 _ _ _).trans rfl
set_option maxRecDepth 4000 in
theorem b151_58 (X : smX) (x0 : Nat) (x1 : Int32) (x2 : Int32) (x3 : Int32) (x4 : Int32) (h : smH) : sm_E PP X 151 58 [(0, .ref x0), (1, .int x1), (2, .int x2), (3, .int x3), (4, .int x4)] [] h =
    sm_gR (sm_f h x0 8 7) fun v1 => sm_ld (sm_ar PP X h (.ref v1)) .int x2 fun v2 => sm_gR (sm_f h x0 8 17) fun v3 => sm_ld (sm_ar PP X h (.ref v3)) .int (v2 - (nI 97)) fun v4 => sm_st h v3 .int (v2 - (nI 97)) (v4 + (nI 1)) fun h5 => sm_gR (sm_f h5 x0 8 17) fun v6 => sm_ld (sm_ar PP X h5 (.ref v6)) .int (v2 - (nI 97)) fun v7 => if v7 ≤ x3 then (sm_E PP X 151 102 [(0, .ref x0), (1, .int x1), (2, .int x2), (4, .int x4)] [.int x3] h5) else sm_gR (sm_f h5 x0 8 17) fun v8 => sm_ld (sm_ar PP X h5 (.ref v8)) .int (v2 - (nI 97)) fun v9 => sm_E PP X 151 102 [(0, .ref x0), (1, .int x1), (2, .int x2), (4, .int x4)] [.int v9] h5 :=
  (sm_blk PP X 151 [0, 2, 30, 58, 102] 68 58 _ _ _).trans rfl
set_option maxRecDepth 4000 in
theorem b151_102 (X : smX) (x0 : Nat) (x1 : Int32) (x2 : Int32) (x4 : Int32) (s0 : Int32) (h : smH) : sm_E PP X 151 102 [(0, .ref x0), (1, .int x1), (2, .int x2), (4, .int x4)] [.int s0] h =
    sm_E PP X 151 30 [(0, .ref x0), (1, .int x1), (2, .int x2), (3, .int s0), (4, .int (x4 + (nI 1)))] [] h :=
  (sm_blk PP X 151 [0, 2, 30, 58, 102] 68 102 _ _ _).trans rfl
/-! 152: WornSumsModel.look(I)I -/
theorem c152 (X : smX) (x0 : Nat) (x1 : Int32) (h : smH) : sm_C PP X 152 [.ref x0, .int x1] h = sm_E PP X 152 0 [(0, .ref x0), (1, .int x1)] [] h := rfl
set_option maxRecDepth 4000 in
theorem b152_0 (X : smX) (x0 : Nat) (x1 : Int32) (h : smH) : sm_E PP X 152 0 [(0, .ref x0), (1, .int x1)] [] h =
    sm_vc h x0 8 (sm_cR (sm_C PP X 116 [.ref x0, .int x1] h) fun w1 h2 => sm_E PP X 152 5 [(0, .ref x0), (1, .int x1)] (w1.toList ++ []) h2) :=
  (sm_blk PP X 152 [0, 5, 15, 20, 32, 76, 91, 106, 108, 114] 66 0 _ _ _).trans rfl
set_option maxRecDepth 4000 in
theorem b152_5 (X : smX) (x0 : Nat) (x1 : Int32) (s0 : Int32) (h : smH) : sm_E PP X 152 5 [(0, .ref x0), (1, .int x1)] [.int s0] h =
    if s0 = 0 then (some (some (.int (-nI 1)), h)) else sm_vc h x0 8 (sm_cR (sm_C PP X 134 [.ref x0, .int x1] h) fun w1 h2 => sm_E PP X 152 15 [(0, .ref x0), (1, .int x1)] (w1.toList ++ []) h2) :=
  (sm_blk PP X 152 [0, 5, 15, 20, 32, 76, 91, 106, 108, 114] 66 5 _ _ _).trans rfl
set_option maxRecDepth 4000 in
theorem b152_15 (X : smX) (x0 : Nat) (x1 : Int32) (h : smH) : sm_E PP X 152 15 [(0, .ref x0), (1, .int x1)] [] h =
    sm_cR (sm_C PP X 118 [.int x1, .int (nI 0)] h) fun w1 h2 => sm_E PP X 152 20 [(0, .ref x0), (1, .int x1)] (w1.toList ++ []) h2 :=
  (sm_blk PP X 152 [0, 5, 15, 20, 32, 76, 91, 106, 108, 114] 66 15 _ _ _).trans rfl
set_option maxRecDepth 4000 in
theorem b152_20 (X : smX) (x0 : Nat) (x1 : Int32) (s0 : Int32) (h : smH) : sm_E PP X 152 20 [(0, .ref x0), (1, .int x1)] [.int s0] h =
    sm_E PP X 152 32 [(0, .ref x0), (1, .int x1), (2, .int s0), (3, .int (-nI 9)), (4, .int (nI 1001)), (5, .int (nI 0))] [] h :=
  (sm_blk PP X 152 [0, 5, 15, 20, 32, 76, 91, 106, 108, 114] 66 20 _ _ _).trans rfl
set_option maxRecDepth 4000 in
theorem b152_32 (X : smX) (x0 : Nat) (x1 : Int32) (x2 : Int32) (x3 : Int32) (x4 : Int32) (x5 : Int32) (h : smH) : sm_E PP X 152 32 [(0, .ref x0), (1, .int x1), (2, .int x2), (3, .int x3), (4, .int x4), (5, .int x5)] [] h =
    sm_gR (sm_f h x0 8 0) fun v1 => sm_ld (sm_ar PP X h (.ref v1)) .int x2 fun v2 => if v2 ≤ x5 then (sm_E PP X 152 114 [(3, .int x3)] [] h) else sm_gR (sm_f h x0 8 11) fun v3 => sm_ld (sm_ar PP X h (.ref v3)) .int x1 fun v4 => if v4 ≤ (nI 1) then (sm_E PP X 152 114 [(3, .int x3)] [] h) else sm_gR (sm_f h x0 8 0) fun v5 => sm_ld (sm_ar PP X h (.ref v5)) .int ((x2 + (nI 1)) + x5) fun v6 => if v6 = (nI 63) then (sm_vc h x0 8 (sm_cR (sm_C PP X 151 [.ref x0, .int x1, .int x5] h) fun w7 h8 => sm_E PP X 152 76 [(0, .ref x0), (1, .int x1), (2, .int x2), (3, .int x3), (4, .int x4), (5, .int x5)] (w7.toList ++ []) h8)) else sm_E PP X 152 108 [(0, .ref x0), (1, .int x1), (2, .int x2), (3, .int x3), (4, .int x4), (5, .int x5)] [] h :=
  (sm_blk PP X 152 [0, 5, 15, 20, 32, 76, 91, 106, 108, 114] 66 32 _ _ _).trans rfl
set_option maxRecDepth 4000 in
theorem b152_114 (X : smX) (x3 : Int32) (h : smH) : sm_E PP X 152 114 [(3, .int x3)] [] h =
    some (some (.int x3), h) :=
  (sm_blk PP X 152 [0, 5, 15, 20, 32, 76, 91, 106, 108, 114] 66 114 _ _ _).trans rfl
set_option maxRecDepth 4000 in
theorem b152_76 (X : smX) (x0 : Nat) (x1 : Int32) (x2 : Int32) (x3 : Int32) (x4 : Int32) (x5 : Int32) (s0 : Int32) (h : smH) : sm_E PP X 152 76 [(0, .ref x0), (1, .int x1), (2, .int x2), (3, .int x3), (4, .int x4), (5, .int x5)] [.int s0] h =
    if x4 ≤ s0 then (sm_E PP X 152 91 [(0, .ref x0), (1, .int x1), (2, .int x2), (4, .int x4), (5, .int x5), (6, .int s0)] [.int x3] h) else sm_E PP X 152 91 [(0, .ref x0), (1, .int x1), (2, .int x2), (4, .int x4), (5, .int x5), (6, .int s0)] [.int x5] h :=
  (sm_blk PP X 152 [0, 5, 15, 20, 32, 76, 91, 106, 108, 114] 66 76 _ _ _).trans rfl
set_option maxRecDepth 4000 in
theorem b152_108 (X : smX) (x0 : Nat) (x1 : Int32) (x2 : Int32) (x3 : Int32) (x4 : Int32) (x5 : Int32) (h : smH) : sm_E PP X 152 108 [(0, .ref x0), (1, .int x1), (2, .int x2), (3, .int x3), (4, .int x4), (5, .int x5)] [] h =
    sm_E PP X 152 32 [(0, .ref x0), (1, .int x1), (2, .int x2), (3, .int x3), (4, .int x4), (5, .int (x5 + (nI 1)))] [] h :=
  (sm_blk PP X 152 [0, 5, 15, 20, 32, 76, 91, 106, 108, 114] 66 108 _ _ _).trans rfl
set_option maxRecDepth 4000 in
theorem b152_91 (X : smX) (x0 : Nat) (x1 : Int32) (x2 : Int32) (x4 : Int32) (x5 : Int32) (x6 : Int32) (s0 : Int32) (h : smH) : sm_E PP X 152 91 [(0, .ref x0), (1, .int x1), (2, .int x2), (4, .int x4), (5, .int x5), (6, .int x6)] [.int s0] h =
    if x4 ≤ x6 then (sm_E PP X 152 106 [(0, .ref x0), (1, .int x1), (2, .int x2), (3, .int s0), (5, .int x5)] [.int x4] h) else sm_E PP X 152 106 [(0, .ref x0), (1, .int x1), (2, .int x2), (3, .int s0), (5, .int x5)] [.int x6] h :=
  (sm_blk PP X 152 [0, 5, 15, 20, 32, 76, 91, 106, 108, 114] 66 91 _ _ _).trans rfl
set_option maxRecDepth 4000 in
theorem b152_106 (X : smX) (x0 : Nat) (x1 : Int32) (x2 : Int32) (x3 : Int32) (x5 : Int32) (s0 : Int32) (h : smH) : sm_E PP X 152 106 [(0, .ref x0), (1, .int x1), (2, .int x2), (3, .int x3), (5, .int x5)] [.int s0] h =
    sm_E PP X 152 108 [(0, .ref x0), (1, .int x1), (2, .int x2), (3, .int x3), (4, .int s0), (5, .int x5)] [] h :=
  (sm_blk PP X 152 [0, 5, 15, 20, 32, 76, 91, 106, 108, 114] 66 106 _ _ _).trans rfl
/-! 153: WornSumsModel.keep(I)I -/
theorem c153 (X : smX) (x0 : Nat) (x1 : Int32) (h : smH) : sm_C PP X 153 [.ref x0, .int x1] h = sm_E PP X 153 0 [(0, .ref x0), (1, .int x1)] [] h := rfl
set_option maxRecDepth 4000 in
theorem b153_0 (X : smX) (x0 : Nat) (x1 : Int32) (h : smH) : sm_E PP X 153 0 [(0, .ref x0), (1, .int x1)] [] h =
    sm_cR (sm_C PP X 107 [.int x1, .int (nI 0), .int (nI 1)] h) fun w1 h2 => sm_E PP X 153 6 [(0, .ref x0), (1, .int x1)] (w1.toList ++ []) h2 :=
  (sm_blk PP X 153 [0, 6, 31] 29 0 _ _ _).trans rfl
set_option maxRecDepth 4000 in
theorem b153_6 (X : smX) (x0 : Nat) (x1 : Int32) (s0 : Int32) (h : smH) : sm_E PP X 153 6 [(0, .ref x0), (1, .int x1)] [.int s0] h =
    if s0 = 0 then (some (some (.int (-nI 1)), h)) else sm_gR (sm_f h x0 8 0) fun v1 => sm_gR (sm_f h x0 8 3) fun v2 => sm_cR (sm_C PP X 113 [.ref v1, .int (nI 0), .ref v2, .int ((nI 219) * x1), .int (nI 219)] h) fun w3 h4 => sm_E PP X 153 31 [(0, .ref x0), (1, .int x1)] (w3.toList ++ []) h4 :=
  (sm_blk PP X 153 [0, 6, 31] 29 6 _ _ _).trans rfl
set_option maxRecDepth 4000 in
theorem b153_31 (X : smX) (x0 : Nat) (x1 : Int32) (h : smH) : sm_E PP X 153 31 [(0, .ref x0), (1, .int x1)] [] h =
    sm_gR (sm_f h x0 8 4) fun v1 => sm_st h v1 .boolean x1 (vp_nar .boolean (nI 1)) fun h2 => sm_gR (sm_f h2 x0 8 0) fun v3 => sm_ld (sm_ar PP X h2 (.ref v3)) .int (nI 0) fun v4 => some (some (.int v4), h2) :=
  (sm_blk PP X 153 [0, 6, 31] 29 31 _ _ _).trans rfl
/-! 154: WornSumsModel.back(I)I -/
theorem c154 (X : smX) (x0 : Nat) (x1 : Int32) (h : smH) : sm_C PP X 154 [.ref x0, .int x1] h = sm_E PP X 154 0 [(0, .ref x0), (1, .int x1)] [] h := rfl
set_option maxRecDepth 4000 in
theorem b154_0 (X : smX) (x0 : Nat) (x1 : Int32) (h : smH) : sm_E PP X 154 0 [(0, .ref x0), (1, .int x1)] [] h =
    sm_cR (sm_C PP X 107 [.int x1, .int (nI 0), .int (nI 1)] h) fun w1 h2 => sm_E PP X 154 6 [(0, .ref x0), (1, .int x1)] (w1.toList ++ []) h2 :=
  (sm_blk PP X 154 [0, 6, 43] 34 0 _ _ _).trans rfl
set_option maxRecDepth 4000 in
theorem b154_6 (X : smX) (x0 : Nat) (x1 : Int32) (s0 : Int32) (h : smH) : sm_E PP X 154 6 [(0, .ref x0), (1, .int x1)] [.int s0] h =
    if s0 = 0 then (some (some (.int (-nI 1)), h)) else sm_gR (sm_f h x0 8 4) fun v1 => sm_ld (sm_ar PP X h (.ref v1)) .boolean x1 fun v2 => if v2 = 0 then (some (some (.int (-nI 2)), h)) else sm_gR (sm_f h x0 8 3) fun v3 => sm_gR (sm_f h x0 8 0) fun v4 => sm_cR (sm_C PP X 113 [.ref v3, .int ((nI 219) * x1), .ref v4, .int (nI 0), .int (nI 219)] h) fun w5 h6 => sm_E PP X 154 43 [(0, .ref x0)] (w5.toList ++ []) h6 :=
  (sm_blk PP X 154 [0, 6, 43] 34 6 _ _ _).trans rfl
set_option maxRecDepth 4000 in
theorem b154_43 (X : smX) (x0 : Nat) (h : smH) : sm_E PP X 154 43 [(0, .ref x0)] [] h =
    sm_fP h x0 8 2 (.int (nI 0)) fun h1 => sm_gR (sm_f h1 x0 8 0) fun v2 => sm_ld (sm_ar PP X h1 (.ref v2)) .int (nI 0) fun v3 => some (some (.int v3), h1) :=
  (sm_blk PP X 154 [0, 6, 43] 34 43 _ _ _).trans rfl
/-! 155: WornSumsModel.count(I)I -/
theorem c155 (X : smX) (x0 : Nat) (x1 : Int32) (h : smH) : sm_C PP X 155 [.ref x0, .int x1] h = sm_E PP X 155 0 [(0, .ref x0), (1, .int x1)] [] h := rfl
set_option maxRecDepth 4000 in
theorem b155_0 (X : smX) (x0 : Nat) (x1 : Int32) (h : smH) : sm_E PP X 155 0 [(0, .ref x0), (1, .int x1)] [] h =
    if x1 = (nI 1) then (sm_E PP X 155 14 [(0, .ref x0), (1, .int x1), (2, .int (nI 0)), (3, .int (nI 0))] [] h) else if x1 = (nI 4) then (sm_E PP X 155 14 [(0, .ref x0), (1, .int x1), (2, .int (nI 0)), (3, .int (nI 0))] [] h) else sm_E PP X 155 18 [(0, .ref x0), (1, .int x1), (2, .int (nI 0)), (3, .int (nI 0))] [] h :=
  (sm_blk PP X 155 [0, 14, 18, 21, 48, 57, 66, 108, 115, 117, 124, 131, 133, 138, 143] 70 0 _ _ _).trans rfl
set_option maxRecDepth 4000 in
theorem b155_14 (X : smX) (x0 : Nat) (x1 : Int32) (x2 : Int32) (x3 : Int32) (h : smH) : sm_E PP X 155 14 [(0, .ref x0), (1, .int x1), (2, .int x2), (3, .int x3)] [] h =
    sm_vc h x0 8 (sm_cR (sm_C PP X 140 [.ref x0] h) fun w1 h2 => sm_E PP X 155 18 [(0, .ref x0), (1, .int x1), (2, .int x2), (3, .int x3)] (w1.toList ++ []) h2) :=
  (sm_blk PP X 155 [0, 14, 18, 21, 48, 57, 66, 108, 115, 117, 124, 131, 133, 138, 143] 70 14 _ _ _).trans rfl
set_option maxRecDepth 4000 in
theorem b155_18 (X : smX) (x0 : Nat) (x1 : Int32) (x2 : Int32) (x3 : Int32) (h : smH) : sm_E PP X 155 18 [(0, .ref x0), (1, .int x1), (2, .int x2), (3, .int x3)] [] h =
    sm_E PP X 155 21 [(0, .ref x0), (1, .int x1), (2, .int x2), (3, .int x3), (4, .int (nI 0))] [] h :=
  (sm_blk PP X 155 [0, 14, 18, 21, 48, 57, 66, 108, 115, 117, 124, 131, 133, 138, 143] 70 18 _ _ _).trans rfl
set_option maxRecDepth 4000 in
theorem b155_21 (X : smX) (x0 : Nat) (x1 : Int32) (x2 : Int32) (x3 : Int32) (x4 : Int32) (h : smH) : sm_E PP X 155 21 [(0, .ref x0), (1, .int x1), (2, .int x2), (3, .int x3), (4, .int x4)] [] h =
    sm_gR (sm_f h x0 8 0) fun v1 => sm_ld (sm_ar PP X h (.ref v1)) .int (nI 0) fun v2 => if v2 ≤ x4 then (sm_E PP X 155 66 [(0, .ref x0), (1, .int x1), (2, .int x2), (3, .int x3), (4, .int x4)] [.int x1] h) else sm_gR (sm_f h x0 8 11) fun v3 => sm_ld (sm_ar PP X h (.ref v3)) .int x4 fun v4 => if v4 = 0 then (sm_E PP X 155 48 [(0, .ref x0), (1, .int x1), (3, .int x3), (4, .int x4)] [.int (nI 1), .int x2] h) else sm_E PP X 155 48 [(0, .ref x0), (1, .int x1), (3, .int x3), (4, .int x4)] [.int (nI 0), .int x2] h :=
  (sm_blk PP X 155 [0, 14, 18, 21, 48, 57, 66, 108, 115, 117, 124, 131, 133, 138, 143] 70 21 _ _ _).trans rfl
set_option maxRecDepth 4000 in
theorem b155_66 (X : smX) (x0 : Nat) (x1 : Int32) (x2 : Int32) (x3 : Int32) (x4 : Int32) (s0 : Int32) (h : smH) : sm_E PP X 155 66 [(0, .ref x0), (1, .int x1), (2, .int x2), (3, .int x3), (4, .int x4)] [.int s0] h =
    if s0.toInt < 0 ∨ 6 < s0.toInt then (sm_E PP X 155 143 [] [] h) else sm_sw (#[42, 49, 51, 58, 65, 67, 72] : Array Int)[(s0.toInt - 0).toNat]? fun o1 => sm_E PP X 155 (sm_tg 66 o1) (sm_tr PP 155 (sm_tg 66 o1) [(0, .ref x0), (1, .int x1), (2, .int x2), (3, .int x3), (4, .int x4)]) [] h :=
  (sm_blk PP X 155 [0, 14, 18, 21, 48, 57, 66, 108, 115, 117, 124, 131, 133, 138, 143] 0 66 _ _ _).trans rfl
set_option maxRecDepth 4000 in
theorem b155_48 (X : smX) (x0 : Nat) (x1 : Int32) (x3 : Int32) (x4 : Int32) (s0 : Int32) (s1 : Int32) (h : smH) : sm_E PP X 155 48 [(0, .ref x0), (1, .int x1), (3, .int x3), (4, .int x4)] [.int s0, .int s1] h =
    sm_vc h x0 8 (sm_cR (sm_C PP X 121 [.ref x0, .int x4] h) fun w1 h2 => sm_E PP X 155 57 [(0, .ref x0), (1, .int x1), (2, .int (s1 + s0)), (4, .int x4)] (w1.toList ++ [.int x3]) h2) :=
  (sm_blk PP X 155 [0, 14, 18, 21, 48, 57, 66, 108, 115, 117, 124, 131, 133, 138, 143] 70 48 _ _ _).trans rfl
set_option maxRecDepth 4000 in
theorem b155_108 (X : smX) (x0 : Nat) (h : smH) : sm_E PP X 155 108 [(0, .ref x0)] [] h =
    sm_gR (sm_f h x0 8 0) fun v1 => sm_ld (sm_ar PP X h (.ref v1)) .int (nI 0) fun v2 => some (some (.int v2), h) :=
  (sm_blk PP X 155 [0, 14, 18, 21, 48, 57, 66, 108, 115, 117, 124, 131, 133, 138, 143] 70 108 _ _ _).trans rfl
set_option maxRecDepth 4000 in
theorem b155_115 (X : smX) (x2 : Int32) (h : smH) : sm_E PP X 155 115 [(2, .int x2)] [] h =
    some (some (.int x2), h) :=
  (sm_blk PP X 155 [0, 14, 18, 21, 48, 57, 66, 108, 115, 117, 124, 131, 133, 138, 143] 70 115 _ _ _).trans rfl
set_option maxRecDepth 4000 in
theorem b155_117 (X : smX) (x0 : Nat) (h : smH) : sm_E PP X 155 117 [(0, .ref x0)] [] h =
    sm_gR (sm_f h x0 8 0) fun v1 => sm_ld (sm_ar PP X h (.ref v1)) .int (nI 1) fun v2 => some (some (.int v2), h) :=
  (sm_blk PP X 155 [0, 14, 18, 21, 48, 57, 66, 108, 115, 117, 124, 131, 133, 138, 143] 70 117 _ _ _).trans rfl
set_option maxRecDepth 4000 in
theorem b155_124 (X : smX) (x0 : Nat) (h : smH) : sm_E PP X 155 124 [(0, .ref x0)] [] h =
    sm_gR (sm_f h x0 8 0) fun v1 => sm_ld (sm_ar PP X h (.ref v1)) .int (nI 2) fun v2 => some (some (.int v2), h) :=
  (sm_blk PP X 155 [0, 14, 18, 21, 48, 57, 66, 108, 115, 117, 124, 131, 133, 138, 143] 70 124 _ _ _).trans rfl
set_option maxRecDepth 4000 in
theorem b155_131 (X : smX) (x3 : Int32) (h : smH) : sm_E PP X 155 131 [(3, .int x3)] [] h =
    some (some (.int x3), h) :=
  (sm_blk PP X 155 [0, 14, 18, 21, 48, 57, 66, 108, 115, 117, 124, 131, 133, 138, 143] 70 131 _ _ _).trans rfl
set_option maxRecDepth 4000 in
theorem b155_133 (X : smX) (x0 : Nat) (h : smH) : sm_E PP X 155 133 [(0, .ref x0)] [] h =
    sm_gI (sm_f h x0 8 6) fun v1 => some (some (.int v1), h) :=
  (sm_blk PP X 155 [0, 14, 18, 21, 48, 57, 66, 108, 115, 117, 124, 131, 133, 138, 143] 70 133 _ _ _).trans rfl
set_option maxRecDepth 4000 in
theorem b155_138 (X : smX) (x0 : Nat) (h : smH) : sm_E PP X 155 138 [(0, .ref x0)] [] h =
    sm_gI (sm_f h x0 8 2) fun v1 => some (some (.int v1), h) :=
  (sm_blk PP X 155 [0, 14, 18, 21, 48, 57, 66, 108, 115, 117, 124, 131, 133, 138, 143] 70 138 _ _ _).trans rfl
set_option maxRecDepth 4000 in
theorem b155_143 (X : smX) (h : smH) : sm_E PP X 155 143 [] [] h =
    some (some (.int (-nI 1)), h) :=
  (sm_blk PP X 155 [0, 14, 18, 21, 48, 57, 66, 108, 115, 117, 124, 131, 133, 138, 143] 70 143 _ _ _).trans rfl
set_option maxRecDepth 4000 in
theorem b155_57 (X : smX) (x0 : Nat) (x1 : Int32) (x2 : Int32) (x4 : Int32) (s0 : Int32) (s1 : Int32) (h : smH) : sm_E PP X 155 57 [(0, .ref x0), (1, .int x1), (2, .int x2), (4, .int x4)] [.int s0, .int s1] h =
    sm_E PP X 155 21 [(0, .ref x0), (1, .int x1), (2, .int x2), (3, .int (s1 + s0)), (4, .int (x4 + (nI 1)))] [] h :=
  (sm_blk PP X 155 [0, 14, 18, 21, 48, 57, 66, 108, 115, 117, 124, 131, 133, 138, 143] 70 57 _ _ _).trans rfl
